theorem dX12_init_50 : decode cX12_init 50 = .ok (.putfield 25, 3) := by decide +kernel
theorem dX12_init_53 : decode cX12_init 53 = .ok (.aload_n 0, 1) := by decide +kernel
theorem dX12_init_54 : decode cX12_init 54 = .ok (.iconst (-1), 1) := by decide +kernel
theorem dX12_init_55 : decode cX12_init 55 = .ok (.putfield 28, 3) := by decide +kernel
theorem dX12_init_58 : decode cX12_init 58 = .ok (.aload_n 0, 1) := by decide +kernel
theorem dX12_init_59 : decode cX12_init 59 = .ok (.bipush 8, 2) := by decide +kernel
theorem dX12_init_61 : decode cX12_init 61 = .ok (.newarray .int, 2) := by decide +kernel
theorem dX12_init_63 : decode cX12_init 63 = .ok (.putfield 32, 3) := by decide +kernel
theorem dX12_init_66 : decode cX12_init 66 = .ok (.aload_n 0, 1) := by decide +kernel
theorem dX12_init_67 : decode cX12_init 67 = .ok (.bipush 8, 2) := by decide +kernel
theorem dX12_init_69 : decode cX12_init 69 = .ok (.newarray .int, 2) := by decide +kernel
theorem dX12_init_71 : decode cX12_init 71 = .ok (.putfield 35, 3) := by decide +kernel
theorem dX12_init_74 : decode cX12_init 74 = .ok (.aload_n 0, 1) := by decide +kernel
theorem dX12_init_75 : decode cX12_init 75 = .ok (.bipush 8, 2) := by decide +kernel
theorem dX12_init_77 : decode cX12_init 77 = .ok (.newarray .int, 2) := by decide +kernel
theorem dX12_init_79 : decode cX12_init 79 = .ok (.putfield 38, 3) := by decide +kernel
theorem dX12_init_82 : decode cX12_init 82 = .ok (.aload_n 0, 1) := by decide +kernel
theorem dX12_init_83 : decode cX12_init 83 = .ok (.iconst 2, 1) := by decide +kernel
theorem dX12_init_84 : decode cX12_init 84 = .ok (.newarray .int, 2) := by decide +kernel
theorem dX12_init_86 : decode cX12_init 86 = .ok (.putfield 41, 3) := by decide +kernel
theorem dX12_init_89 : decode cX12_init 89 = .ok (.aload_n 0, 1) := by decide +kernel
theorem dX12_init_90 : decode cX12_init 90 = .ok (.bipush 17, 2) := by decide +kernel
theorem dX12_init_92 : decode cX12_init 92 = .ok (.newarray .int, 2) := by decide +kernel
theorem dX12_init_94 : decode cX12_init 94 = .ok (.putfield 44, 3) := by decide +kernel
theorem dX12_init_97 : decode cX12_init 97 = .ok (.aload_n 0, 1) := by decide +kernel
theorem dX12_init_98 : decode cX12_init 98 = .ok (.bipush 17, 2) := by decide +kernel
theorem dX12_init_100 : decode cX12_init 100 = .ok (.newarray .int, 2) := by decide +kernel
theorem dX12_init_102 : decode cX12_init 102 = .ok (.putfield 47, 3) := by decide +kernel
theorem dX12_init_105 : decode cX12_init 105 = .ok (.aload_n 0, 1) := by decide +kernel
theorem dX12_init_106 : decode cX12_init 106 = .ok (.bipush 17, 2) := by decide +kernel
theorem dX12_init_108 : decode cX12_init 108 = .ok (.newarray .int, 2) := by decide +kernel
theorem dX12_init_110 : decode cX12_init 110 = .ok (.putfield 50, 3) := by decide +kernel
theorem dX12_init_113 : decode cX12_init 113 = .ok (.aload_n 0, 1) := by decide +kernel
theorem dX12_init_114 : decode cX12_init 114 = .ok (.bipush 14, 2) := by decide +kernel
theorem dX12_init_116 : decode cX12_init 116 = .ok (.newarray .int, 2) := by decide +kernel
theorem dX12_init_118 : decode cX12_init 118 = .ok (.putfield 53, 3) := by decide +kernel
theorem dX12_init_121 : decode cX12_init 121 = .ok (.aload_n 0, 1) := by decide +kernel
theorem dX12_init_122 : decode cX12_init 122 = .ok (.ldc 56, 2) := by decide +kernel
theorem dX12_init_124 : decode cX12_init 124 = .ok (.newarray .byte, 2) := by decide +kernel
theorem dX12_init_126 : decode cX12_init 126 = .ok (.putfield 57, 3) := by decide +kernel
theorem dX12_init_129 : decode cX12_init 129 = .ok (.aload_n 0, 1) := by decide +kernel
theorem dX12_init_130 : decode cX12_init 130 = .ok (.bipush 14, 2) := by decide +kernel
theorem dX12_init_132 : decode cX12_init 132 = .ok (.newarray .int, 2) := by decide +kernel
theorem dX12_init_134 : decode cX12_init 134 = .ok (.putfield 61, 3) := by decide +kernel
theorem dX12_init_137 : decode cX12_init 137 = .ok (.aload_n 0, 1) := by decide +kernel
theorem dX12_init_138 : decode cX12_init 138 = .ok (.iconst 2, 1) := by decide +kernel
theorem dX12_init_139 : decode cX12_init 139 = .ok (.putfield 64, 3) := by decide +kernel
theorem dX12_init_142 : decode cX12_init 142 = .ok (.aload_n 0, 1) := by decide +kernel
theorem dX12_init_143 : decode cX12_init 143 = .ok (.iconst 1, 1) := by decide +kernel
theorem dX12_init_144 : decode cX12_init 144 = .ok (.putfield 67, 3) := by decide +kernel
theorem dX12_init_147 : decode cX12_init 147 = .ok (.aload_n 0, 1) := by decide +kernel
theorem dX12_init_148 : decode cX12_init 148 = .ok (.iconst 1, 1) := by decide +kernel
theorem dX12_init_149 : decode cX12_init 149 = .ok (.putfield 70, 3) := by decide +kernel
theorem dX12_init_152 : decode cX12_init 152 = .ok (.return_, 1) := by decide +kernel
theorem dX12_thrown_0 : decode cX12_thrown 0 = .ok (.aload_n 0, 1) := by decide +kernel
theorem dX12_thrown_1 : decode cX12_thrown 1 = .ok (.getfield 73, 3) := by decide +kernel
theorem dX12_thrown_4 : decode cX12_thrown 4 = .ok (.ireturn, 1) := by decide +kernel
theorem dX12_feed_0 : decode cX12_feed 0 = .ok (.aload_n 0, 1) := by decide +kernel
theorem dX12_feed_1 : decode cX12_feed 1 = .ok (.iconst 0, 1) := by decide +kernel
theorem dX12_feed_2 : decode cX12_feed 2 = .ok (.putfield 73, 3) := by decide +kernel
theorem dX12_feed_5 : decode cX12_feed 5 = .ok (.aload_n 0, 1) := by decide +kernel
theorem dX12_feed_6 : decode cX12_feed 6 = .ok (.getfield 76, 3) := by decide +kernel
theorem dX12_feed_9 : decode cX12_feed 9 = .ok (.sipush 580, 3) := by decide +kernel
theorem dX12_feed_12 : decode cX12_feed 12 = .ok (.if_icmp .le 5, 3) := by decide +kernel
theorem dX12_feed_15 : decode cX12_feed 15 = .ok (.iconst (-1), 1) := by decide +kernel
theorem dX12_feed_16 : decode cX12_feed 16 = .ok (.ireturn, 1) := by decide +kernel
theorem dX12_feed_17 : decode cX12_feed 17 = .ok (.iconst 0, 1) := by decide +kernel
theorem dX12_feed_18 : decode cX12_feed 18 = .ok (.istore 6, 2) := by decide +kernel
theorem dX12_feed_20 : decode cX12_feed 20 = .ok (.iload 6, 2) := by decide +kernel
theorem dX12_feed_22 : decode cX12_feed 22 = .ok (.bipush 20, 2) := by decide +kernel
theorem dX12_feed_24 : decode cX12_feed 24 = .ok (.if_icmp .ge 86, 3) := by decide +kernel
theorem dX12_feed_27 : decode cX12_feed 27 = .ok (.iload 6, 2) := by decide +kernel
theorem dX12_feed_29 : decode cX12_feed 29 = .ok (.iconst 4, 1) := by decide +kernel
theorem dX12_feed_30 : decode cX12_feed 30 = .ok (.if_icmp .ge 7, 3) := by decide +kernel
theorem dX12_feed_33 : decode cX12_feed 33 = .ok (.iload_n 1, 1) := by decide +kernel
theorem dX12_feed_34 : decode cX12_feed 34 = .ok (.goto 39, 3) := by decide +kernel
theorem dX12_feed_37 : decode cX12_feed 37 = .ok (.iload 6, 2) := by decide +kernel
theorem dX12_feed_39 : decode cX12_feed 39 = .ok (.bipush 8, 2) := by decide +kernel
theorem dX12_feed_41 : decode cX12_feed 41 = .ok (.if_icmp .ge 7, 3) := by decide +kernel
theorem dX12_feed_44 : decode cX12_feed 44 = .ok (.iload_n 2, 1) := by decide +kernel
theorem dX12_feed_45 : decode cX12_feed 45 = .ok (.goto 28, 3) := by decide +kernel
theorem dX12_feed_48 : decode cX12_feed 48 = .ok (.iload 6, 2) := by decide +kernel
theorem dX12_feed_50 : decode cX12_feed 50 = .ok (.bipush 12, 2) := by decide +kernel
theorem dX12_feed_52 : decode cX12_feed 52 = .ok (.if_icmp .ge 7, 3) := by decide +kernel
theorem dX12_feed_55 : decode cX12_feed 55 = .ok (.iload_n 3, 1) := by decide +kernel
theorem dX12_feed_56 : decode cX12_feed 56 = .ok (.goto 17, 3) := by decide +kernel
theorem dX12_feed_59 : decode cX12_feed 59 = .ok (.iload 6, 2) := by decide +kernel
theorem dX12_feed_61 : decode cX12_feed 61 = .ok (.bipush 16, 2) := by decide +kernel
theorem dX12_feed_63 : decode cX12_feed 63 = .ok (.if_icmp .ge 8, 3) := by decide +kernel
theorem dX12_feed_66 : decode cX12_feed 66 = .ok (.iload 4, 2) := by decide +kernel
theorem dX12_feed_68 : decode cX12_feed 68 = .ok (.goto 5, 3) := by decide +kernel
theorem dX12_feed_71 : decode cX12_feed 71 = .ok (.iload 5, 2) := by decide +kernel
theorem dX12_feed_73 : decode cX12_feed 73 = .ok (.istore 7, 2) := by decide +kernel
theorem dX12_feed_75 : decode cX12_feed 75 = .ok (.aload_n 0, 1) := by decide +kernel
theorem dX12_feed_76 : decode cX12_feed 76 = .ok (.getfield 7, 3) := by decide +kernel
theorem dX12_feed_79 : decode cX12_feed 79 = .ok (.aload_n 0, 1) := by decide +kernel
theorem dX12_feed_80 : decode cX12_feed 80 = .ok (.getfield 76, 3) := by decide +kernel
theorem dX12_feed_83 : decode cX12_feed 83 = .ok (.iload 6, 2) := by decide +kernel
theorem dX12_feed_85 : decode cX12_feed 85 = .ok (.iadd, 1) := by decide +kernel
theorem dX12_feed_86 : decode cX12_feed 86 = .ok (.iload 7, 2) := by decide +kernel
theorem dX12_feed_88 : decode cX12_feed 88 = .ok (.bipush 24, 2) := by decide +kernel
theorem dX12_feed_90 : decode cX12_feed 90 = .ok (.bipush 8, 2) := by decide +kernel
theorem dX12_feed_92 : decode cX12_feed 92 = .ok (.iload 6, 2) := by decide +kernel
theorem dX12_feed_94 : decode cX12_feed 94 = .ok (.iconst 4, 1) := by decide +kernel
theorem dX12_feed_95 : decode cX12_feed 95 = .ok (.irem, 1) := by decide +kernel
theorem dX12_feed_96 : decode cX12_feed 96 = .ok (.imul, 1) := by decide +kernel
theorem dX12_feed_97 : decode cX12_feed 97 = .ok (.isub, 1) := by decide +kernel
theorem dX12_feed_98 : decode cX12_feed 98 = .ok (.ishr, 1) := by decide +kernel
theorem dX12_feed_99 : decode cX12_feed 99 = .ok (.sipush 255, 3) := by decide +kernel
theorem dX12_feed_102 : decode cX12_feed 102 = .ok (.iand, 1) := by decide +kernel
theorem dX12_feed_103 : decode cX12_feed 103 = .ok (.iastore, 1) := by decide +kernel
theorem dX12_feed_104 : decode cX12_feed 104 = .ok (.iinc 6 1, 3) := by decide +kernel
theorem dX12_feed_107 : decode cX12_feed 107 = .ok (.goto (-87), 3) := by decide +kernel
theorem dX12_feed_110 : decode cX12_feed 110 = .ok (.aload_n 0, 1) := by decide +kernel
theorem dX12_feed_111 : decode cX12_feed 111 = .ok (.dup, 1) := by decide +kernel
theorem dX12_feed_112 : decode cX12_feed 112 = .ok (.getfield 76, 3) := by decide +kernel
theorem dX12_feed_115 : decode cX12_feed 115 = .ok (.bipush 20, 2) := by decide +kernel
theorem dX12_feed_117 : decode cX12_feed 117 = .ok (.iadd, 1) := by decide +kernel
theorem dX12_feed_118 : decode cX12_feed 118 = .ok (.putfield 76, 3) := by decide +kernel
theorem dX12_feed_121 : decode cX12_feed 121 = .ok (.aload_n 0, 1) := by decide +kernel
theorem dX12_feed_122 : decode cX12_feed 122 = .ok (.getfield 76, 3) := by decide +kernel
theorem dX12_feed_125 : decode cX12_feed 125 = .ok (.ireturn, 1) := by decide +kernel
theorem dX12_here_0 : decode cX12_here 0 = .ok (.aload_n 0, 1) := by decide +kernel
theorem dX12_here_1 : decode cX12_here 1 = .ok (.getfield 79, 3) := by decide +kernel
theorem dX12_here_4 : decode cX12_here 4 = .ok (.aload_n 0, 1) := by decide +kernel
theorem dX12_here_5 : decode cX12_here 5 = .ok (.getfield 82, 3) := by decide +kernel
theorem dX12_here_8 : decode cX12_here 8 = .ok (.if_icmp .ge 15, 3) := by decide +kernel
theorem dX12_here_11 : decode cX12_here 11 = .ok (.aload_n 0, 1) := by decide +kernel
theorem dX12_here_12 : decode cX12_here 12 = .ok (.getfield 7, 3) := by decide +kernel
theorem dX12_here_15 : decode cX12_here 15 = .ok (.aload_n 0, 1) := by decide +kernel
theorem dX12_here_16 : decode cX12_here 16 = .ok (.getfield 79, 3) := by decide +kernel
theorem dX12_here_19 : decode cX12_here 19 = .ok (.iaload, 1) := by decide +kernel
theorem dX12_here_20 : decode cX12_here 20 = .ok (.goto 4, 3) := by decide +kernel
theorem dX12_here_23 : decode cX12_here 23 = .ok (.iconst (-1), 1) := by decide +kernel
theorem dX12_here_24 : decode cX12_here 24 = .ok (.ireturn, 1) := by decide +kernel
theorem dX12_isSmall_0 : decode cX12_isSmall 0 = .ok (.iload_n 0, 1) := by decide +kernel
theorem dX12_isSmall_1 : decode cX12_isSmall 1 = .ok (.bipush 97, 2) := by decide +kernel
theorem dX12_isSmall_3 : decode cX12_isSmall 3 = .ok (.if_icmp .lt 13, 3) := by decide +kernel
theorem dX12_isSmall_6 : decode cX12_isSmall 6 = .ok (.iload_n 0, 1) := by decide +kernel
theorem dX12_isSmall_7 : decode cX12_isSmall 7 = .ok (.bipush 122, 2) := by decide +kernel
theorem dX12_isSmall_9 : decode cX12_isSmall 9 = .ok (.if_icmp .gt 7, 3) := by decide +kernel
theorem dX12_isSmall_12 : decode cX12_isSmall 12 = .ok (.iconst 1, 1) := by decide +kernel
theorem dX12_isSmall_13 : decode cX12_isSmall 13 = .ok (.goto 4, 3) := by decide +kernel
theorem dX12_isSmall_16 : decode cX12_isSmall 16 = .ok (.iconst 0, 1) := by decide +kernel
theorem dX12_isSmall_17 : decode cX12_isSmall 17 = .ok (.ireturn, 1) := by decide +kernel
theorem dX12_isDigit_0 : decode cX12_isDigit 0 = .ok (.iload_n 0, 1) := by decide +kernel
theorem dX12_isDigit_1 : decode cX12_isDigit 1 = .ok (.bipush 48, 2) := by decide +kernel
theorem dX12_isDigit_3 : decode cX12_isDigit 3 = .ok (.if_icmp .lt 13, 3) := by decide +kernel
theorem dX12_isDigit_6 : decode cX12_isDigit 6 = .ok (.iload_n 0, 1) := by decide +kernel
theorem dX12_isDigit_7 : decode cX12_isDigit 7 = .ok (.bipush 57, 2) := by decide +kernel
theorem dX12_isDigit_9 : decode cX12_isDigit 9 = .ok (.if_icmp .gt 7, 3) := by decide +kernel
theorem dX12_isDigit_12 : decode cX12_isDigit 12 = .ok (.iconst 1, 1) := by decide +kernel
theorem dX12_isDigit_13 : decode cX12_isDigit 13 = .ok (.goto 4, 3) := by decide +kernel
theorem dX12_isDigit_16 : decode cX12_isDigit 16 = .ok (.iconst 0, 1) := by decide +kernel
theorem dX12_isDigit_17 : decode cX12_isDigit 17 = .ok (.ireturn, 1) := by decide +kernel
theorem dX12_token_0 : decode cX12_token 0 = .ok (.aload_n 0, 1) := by decide +kernel
theorem dX12_token_1 : decode cX12_token 1 = .ok (.invokevirtual 85, 3) := by decide +kernel
theorem dX12_token_4 : decode cX12_token 4 = .ok (.bipush 10, 2) := by decide +kernel
theorem dX12_token_6 : decode cX12_token 6 = .ok (.if_icmp .eq 12, 3) := by decide +kernel
theorem dX12_token_9 : decode cX12_token 9 = .ok (.aload_n 0, 1) := by decide +kernel
theorem dX12_token_10 : decode cX12_token 10 = .ok (.invokevirtual 85, 3) := by decide +kernel
theorem dX12_token_13 : decode cX12_token 13 = .ok (.bipush 32, 2) := by decide +kernel
theorem dX12_token_15 : decode cX12_token 15 = .ok (.if_icmp .ne 16, 3) := by decide +kernel
theorem dX12_token_18 : decode cX12_token 18 = .ok (.aload_n 0, 1) := by decide +kernel
theorem dX12_token_19 : decode cX12_token 19 = .ok (.dup, 1) := by decide +kernel
theorem dX12_token_20 : decode cX12_token 20 = .ok (.getfield 79, 3) := by decide +kernel
theorem dX12_token_23 : decode cX12_token 23 = .ok (.iconst 1, 1) := by decide +kernel
theorem dX12_token_24 : decode cX12_token 24 = .ok (.iadd, 1) := by decide +kernel
theorem dX12_token_25 : decode cX12_token 25 = .ok (.putfield 79, 3) := by decide +kernel
theorem dX12_token_28 : decode cX12_token 28 = .ok (.goto (-28), 3) := by decide +kernel
theorem dX12_token_31 : decode cX12_token 31 = .ok (.aload_n 0, 1) := by decide +kernel
theorem dX12_token_32 : decode cX12_token 32 = .ok (.aload_n 0, 1) := by decide +kernel
theorem dX12_token_33 : decode cX12_token 33 = .ok (.getfield 79, 3) := by decide +kernel
theorem dX12_token_36 : decode cX12_token 36 = .ok (.putfield 89, 3) := by decide +kernel
theorem dX12_token_39 : decode cX12_token 39 = .ok (.aload_n 0, 1) := by decide +kernel
theorem dX12_token_40 : decode cX12_token 40 = .ok (.invokevirtual 85, 3) := by decide +kernel
theorem dX12_token_43 : decode cX12_token 43 = .ok (.istore_n 1, 1) := by decide +kernel
theorem dX12_token_44 : decode cX12_token 44 = .ok (.iload_n 1, 1) := by decide +kernel
theorem dX12_token_45 : decode cX12_token 45 = .ok (.iconst (-1), 1) := by decide +kernel
theorem dX12_token_46 : decode cX12_token 46 = .ok (.if_icmp .ne 11, 3) := by decide +kernel
theorem dX12_token_49 : decode cX12_token 49 = .ok (.aload_n 0, 1) := by decide +kernel
theorem dX12_token_50 : decode cX12_token 50 = .ok (.iconst 3, 1) := by decide +kernel
theorem dX12_token_51 : decode cX12_token 51 = .ok (.putfield 92, 3) := by decide +kernel
theorem dX12_token_54 : decode cX12_token 54 = .ok (.goto 150, 3) := by decide +kernel
theorem dX12_token_57 : decode cX12_token 57 = .ok (.iload_n 1, 1) := by decide +kernel
theorem dX12_token_58 : decode cX12_token 58 = .ok (.invokestatic 95, 3) := by decide +kernel
theorem dX12_token_61 : decode cX12_token 61 = .ok (.ifCond .eq 42, 3) := by decide +kernel
theorem dX12_token_64 : decode cX12_token 64 = .ok (.aload_n 0, 1) := by decide +kernel
theorem dX12_token_65 : decode cX12_token 65 = .ok (.invokevirtual 85, 3) := by decide +kernel
theorem dX12_token_68 : decode cX12_token 68 = .ok (.invokestatic 95, 3) := by decide +kernel
theorem dX12_token_71 : decode cX12_token 71 = .ok (.ifCond .eq 16, 3) := by decide +kernel
theorem dX12_token_74 : decode cX12_token 74 = .ok (.aload_n 0, 1) := by decide +kernel
theorem dX12_token_75 : decode cX12_token 75 = .ok (.dup, 1) := by decide +kernel
theorem dX12_token_76 : decode cX12_token 76 = .ok (.getfield 79, 3) := by decide +kernel
theorem dX12_token_79 : decode cX12_token 79 = .ok (.iconst 1, 1) := by decide +kernel
theorem dX12_token_80 : decode cX12_token 80 = .ok (.iadd, 1) := by decide +kernel
theorem dX12_token_81 : decode cX12_token 81 = .ok (.putfield 79, 3) := by decide +kernel
theorem dX12_token_84 : decode cX12_token 84 = .ok (.goto (-20), 3) := by decide +kernel
theorem dX12_token_87 : decode cX12_token 87 = .ok (.aload_n 0, 1) := by decide +kernel
theorem dX12_token_88 : decode cX12_token 88 = .ok (.iconst 0, 1) := by decide +kernel
theorem dX12_token_89 : decode cX12_token 89 = .ok (.putfield 92, 3) := by decide +kernel
theorem dX12_token_92 : decode cX12_token 92 = .ok (.aload_n 0, 1) := by decide +kernel
theorem dX12_token_93 : decode cX12_token 93 = .ok (.aload_n 0, 1) := by decide +kernel
theorem dX12_token_94 : decode cX12_token 94 = .ok (.invokevirtual 99, 3) := by decide +kernel
theorem dX12_token_97 : decode cX12_token 97 = .ok (.putfield 102, 3) := by decide +kernel
theorem dX12_token_100 : decode cX12_token 100 = .ok (.goto 104, 3) := by decide +kernel
theorem dX12_token_103 : decode cX12_token 103 = .ok (.iload_n 1, 1) := by decide +kernel
theorem dX12_token_104 : decode cX12_token 104 = .ok (.invokestatic 105, 3) := by decide +kernel
theorem dX12_token_107 : decode cX12_token 107 = .ok (.ifCond .eq 72, 3) := by decide +kernel
theorem dX12_token_110 : decode cX12_token 110 = .ok (.aload_n 0, 1) := by decide +kernel
theorem dX12_token_111 : decode cX12_token 111 = .ok (.iconst 1, 1) := by decide +kernel
theorem dX12_token_112 : decode cX12_token 112 = .ok (.putfield 92, 3) := by decide +kernel
theorem dX12_token_115 : decode cX12_token 115 = .ok (.aload_n 0, 1) := by decide +kernel
theorem dX12_token_116 : decode cX12_token 116 = .ok (.iconst 0, 1) := by decide +kernel
theorem dX12_token_117 : decode cX12_token 117 = .ok (.putfield 102, 3) := by decide +kernel
theorem dX12_token_120 : decode cX12_token 120 = .ok (.aload_n 0, 1) := by decide +kernel
theorem dX12_token_121 : decode cX12_token 121 = .ok (.invokevirtual 85, 3) := by decide +kernel
theorem dX12_token_124 : decode cX12_token 124 = .ok (.invokestatic 105, 3) := by decide +kernel
theorem dX12_token_127 : decode cX12_token 127 = .ok (.ifCond .eq 77, 3) := by decide +kernel
theorem dX12_token_130 : decode cX12_token 130 = .ok (.aload_n 0, 1) := by decide +kernel
theorem dX12_token_131 : decode cX12_token 131 = .ok (.aload_n 0, 1) := by decide +kernel
theorem dX12_token_132 : decode cX12_token 132 = .ok (.getfield 102, 3) := by decide +kernel
theorem dX12_token_135 : decode cX12_token 135 = .ok (.sipush 9999, 3) := by decide +kernel
theorem dX12_token_138 : decode cX12_token 138 = .ok (.if_icmp .le 10, 3) := by decide +kernel
theorem dX12_token_141 : decode cX12_token 141 = .ok (.aload_n 0, 1) := by decide +kernel
theorem dX12_token_142 : decode cX12_token 142 = .ok (.getfield 102, 3) := by decide +kernel
theorem dX12_token_145 : decode cX12_token 145 = .ok (.goto 18, 3) := by decide +kernel
theorem dX12_token_148 : decode cX12_token 148 = .ok (.bipush 10, 2) := by decide +kernel
theorem dX12_token_150 : decode cX12_token 150 = .ok (.aload_n 0, 1) := by decide +kernel
theorem dX12_token_151 : decode cX12_token 151 = .ok (.getfield 102, 3) := by decide +kernel
theorem dX12_token_154 : decode cX12_token 154 = .ok (.imul, 1) := by decide +kernel
theorem dX12_token_155 : decode cX12_token 155 = .ok (.aload_n 0, 1) := by decide +kernel
theorem dX12_token_156 : decode cX12_token 156 = .ok (.invokevirtual 85, 3) := by decide +kernel
theorem dX12_token_159 : decode cX12_token 159 = .ok (.iadd, 1) := by decide +kernel
theorem dX12_token_160 : decode cX12_token 160 = .ok (.bipush 48, 2) := by decide +kernel
theorem dX12_token_162 : decode cX12_token 162 = .ok (.isub, 1) := by decide +kernel
theorem dX12_token_163 : decode cX12_token 163 = .ok (.putfield 102, 3) := by decide +kernel
theorem dX12_token_166 : decode cX12_token 166 = .ok (.aload_n 0, 1) := by decide +kernel
theorem dX12_token_167 : decode cX12_token 167 = .ok (.dup, 1) := by decide +kernel
theorem dX12_token_168 : decode cX12_token 168 = .ok (.getfield 79, 3) := by decide +kernel
theorem dX12_token_171 : decode cX12_token 171 = .ok (.iconst 1, 1) := by decide +kernel
theorem dX12_token_172 : decode cX12_token 172 = .ok (.iadd, 1) := by decide +kernel
theorem dX12_token_173 : decode cX12_token 173 = .ok (.putfield 79, 3) := by decide +kernel
theorem dX12_token_176 : decode cX12_token 176 = .ok (.goto (-56), 3) := by decide +kernel
theorem dX12_token_179 : decode cX12_token 179 = .ok (.aload_n 0, 1) := by decide +kernel
theorem dX12_token_180 : decode cX12_token 180 = .ok (.iload_n 1, 1) := by decide +kernel
theorem dX12_token_181 : decode cX12_token 181 = .ok (.bipush 59, 2) := by decide +kernel
theorem dX12_token_183 : decode cX12_token 183 = .ok (.if_icmp .ne 7, 3) := by decide +kernel
theorem dX12_token_186 : decode cX12_token 186 = .ok (.iconst 2, 1) := by decide +kernel
theorem dX12_token_187 : decode cX12_token 187 = .ok (.goto 4, 3) := by decide +kernel
theorem dX12_token_190 : decode cX12_token 190 = .ok (.iconst 4, 1) := by decide +kernel
theorem dX12_token_191 : decode cX12_token 191 = .ok (.putfield 92, 3) := by decide +kernel
theorem dX12_token_194 : decode cX12_token 194 = .ok (.aload_n 0, 1) := by decide +kernel
theorem dX12_token_195 : decode cX12_token 195 = .ok (.dup, 1) := by decide +kernel
theorem dX12_token_196 : decode cX12_token 196 = .ok (.getfield 79, 3) := by decide +kernel
theorem dX12_token_199 : decode cX12_token 199 = .ok (.iconst 1, 1) := by decide +kernel
theorem dX12_token_200 : decode cX12_token 200 = .ok (.iadd, 1) := by decide +kernel
theorem dX12_token_201 : decode cX12_token 201 = .ok (.putfield 79, 3) := by decide +kernel
theorem dX12_token_204 : decode cX12_token 204 = .ok (.return_, 1) := by decide +kernel
theorem dX12_wordHere_0 : decode cX12_wordHere 0 = .ok (.iconst 0, 1) := by decide +kernel
theorem dX12_wordHere_1 : decode cX12_wordHere 1 = .ok (.istore_n 1, 1) := by decide +kernel
theorem dX12_wordHere_2 : decode cX12_wordHere 2 = .ok (.iconst 0, 1) := by decide +kernel
theorem dX12_wordHere_3 : decode cX12_wordHere 3 = .ok (.istore_n 2, 1) := by decide +kernel
theorem dX12_wordHere_4 : decode cX12_wordHere 4 = .ok (.iload_n 2, 1) := by decide +kernel
theorem dX12_wordHere_5 : decode cX12_wordHere 5 = .ok (.ldc 108, 2) := by decide +kernel
theorem dX12_wordHere_7 : decode cX12_wordHere 7 = .ok (.invokevirtual 110, 3) := by decide +kernel
theorem dX12_wordHere_10 : decode cX12_wordHere 10 = .ok (.if_icmp .ge 113, 3) := by decide +kernel
theorem dX12_wordHere_13 : decode cX12_wordHere 13 = .ok (.iconst 0, 1) := by decide +kernel
theorem dX12_wordHere_14 : decode cX12_wordHere 14 = .ok (.istore_n 3, 1) := by decide +kernel
theorem dX12_wordHere_15 : decode cX12_wordHere 15 = .ok (.ldc 108, 2) := by decide +kernel
theorem dX12_wordHere_17 : decode cX12_wordHere 17 = .ok (.iload_n 2, 1) := by decide +kernel
theorem dX12_wordHere_18 : decode cX12_wordHere 18 = .ok (.iload_n 3, 1) := by decide +kernel
theorem dX12_wordHere_19 : decode cX12_wordHere 19 = .ok (.iadd, 1) := by decide +kernel
theorem dX12_wordHere_20 : decode cX12_wordHere 20 = .ok (.invokevirtual 115, 3) := by decide +kernel
theorem dX12_wordHere_23 : decode cX12_wordHere 23 = .ok (.bipush 32, 2) := by decide +kernel
theorem dX12_wordHere_25 : decode cX12_wordHere 25 = .ok (.if_icmp .eq 44, 3) := by decide +kernel
theorem dX12_wordHere_28 : decode cX12_wordHere 28 = .ok (.aload_n 0, 1) := by decide +kernel
theorem dX12_wordHere_29 : decode cX12_wordHere 29 = .ok (.getfield 89, 3) := by decide +kernel
theorem dX12_wordHere_32 : decode cX12_wordHere 32 = .ok (.iload_n 3, 1) := by decide +kernel
theorem dX12_wordHere_33 : decode cX12_wordHere 33 = .ok (.iadd, 1) := by decide +kernel
theorem dX12_wordHere_34 : decode cX12_wordHere 34 = .ok (.aload_n 0, 1) := by decide +kernel
theorem dX12_wordHere_35 : decode cX12_wordHere 35 = .ok (.getfield 79, 3) := by decide +kernel
theorem dX12_wordHere_38 : decode cX12_wordHere 38 = .ok (.if_icmp .ge 31, 3) := by decide +kernel
theorem dX12_wordHere_41 : decode cX12_wordHere 41 = .ok (.aload_n 0, 1) := by decide +kernel
theorem dX12_wordHere_42 : decode cX12_wordHere 42 = .ok (.getfield 7, 3) := by decide +kernel
theorem dX12_wordHere_45 : decode cX12_wordHere 45 = .ok (.aload_n 0, 1) := by decide +kernel
theorem dX12_wordHere_46 : decode cX12_wordHere 46 = .ok (.getfield 89, 3) := by decide +kernel
theorem dX12_wordHere_49 : decode cX12_wordHere 49 = .ok (.iload_n 3, 1) := by decide +kernel
theorem dX12_wordHere_50 : decode cX12_wordHere 50 = .ok (.iadd, 1) := by decide +kernel
theorem dX12_wordHere_51 : decode cX12_wordHere 51 = .ok (.iaload, 1) := by decide +kernel
theorem dX12_wordHere_52 : decode cX12_wordHere 52 = .ok (.ldc 108, 2) := by decide +kernel
theorem dX12_wordHere_54 : decode cX12_wordHere 54 = .ok (.iload_n 2, 1) := by decide +kernel
theorem dX12_wordHere_55 : decode cX12_wordHere 55 = .ok (.iload_n 3, 1) := by decide +kernel
theorem dX12_wordHere_56 : decode cX12_wordHere 56 = .ok (.iadd, 1) := by decide +kernel
theorem dX12_wordHere_57 : decode cX12_wordHere 57 = .ok (.invokevirtual 115, 3) := by decide +kernel
theorem dX12_wordHere_60 : decode cX12_wordHere 60 = .ok (.if_icmp .ne 9, 3) := by decide +kernel
theorem dX12_wordHere_63 : decode cX12_wordHere 63 = .ok (.iinc 3 1, 3) := by decide +kernel
theorem dX12_wordHere_66 : decode cX12_wordHere 66 = .ok (.goto (-51), 3) := by decide +kernel
theorem dX12_wordHere_69 : decode cX12_wordHere 69 = .ok (.ldc 108, 2) := by decide +kernel
theorem dX12_wordHere_71 : decode cX12_wordHere 71 = .ok (.iload_n 2, 1) := by decide +kernel
theorem dX12_wordHere_72 : decode cX12_wordHere 72 = .ok (.iload_n 3, 1) := by decide +kernel
theorem dX12_wordHere_73 : decode cX12_wordHere 73 = .ok (.iadd, 1) := by decide +kernel
theorem dX12_wordHere_74 : decode cX12_wordHere 74 = .ok (.invokevirtual 115, 3) := by decide +kernel
theorem dX12_wordHere_77 : decode cX12_wordHere 77 = .ok (.bipush 32, 2) := by decide +kernel
theorem dX12_wordHere_79 : decode cX12_wordHere 79 = .ok (.if_icmp .ne 18, 3) := by decide +kernel
theorem dX12_wordHere_82 : decode cX12_wordHere 82 = .ok (.aload_n 0, 1) := by decide +kernel
theorem dX12_wordHere_83 : decode cX12_wordHere 83 = .ok (.getfield 89, 3) := by decide +kernel
theorem dX12_wordHere_86 : decode cX12_wordHere 86 = .ok (.iload_n 3, 1) := by decide +kernel
theorem dX12_wordHere_87 : decode cX12_wordHere 87 = .ok (.iadd, 1) := by decide +kernel
theorem dX12_wordHere_88 : decode cX12_wordHere 88 = .ok (.aload_n 0, 1) := by decide +kernel
theorem dX12_wordHere_89 : decode cX12_wordHere 89 = .ok (.getfield 79, 3) := by decide +kernel
theorem dX12_wordHere_92 : decode cX12_wordHere 92 = .ok (.if_icmp .ne 5, 3) := by decide +kernel
theorem dX12_wordHere_95 : decode cX12_wordHere 95 = .ok (.iload_n 1, 1) := by decide +kernel
theorem dX12_wordHere_96 : decode cX12_wordHere 96 = .ok (.ireturn, 1) := by decide +kernel
theorem dX12_wordHere_97 : decode cX12_wordHere 97 = .ok (.ldc 108, 2) := by decide +kernel
theorem dX12_wordHere_99 : decode cX12_wordHere 99 = .ok (.iload_n 2, 1) := by decide +kernel
theorem dX12_wordHere_100 : decode cX12_wordHere 100 = .ok (.invokevirtual 115, 3) := by decide +kernel
theorem dX12_wordHere_103 : decode cX12_wordHere 103 = .ok (.bipush 32, 2) := by decide +kernel
theorem dX12_wordHere_105 : decode cX12_wordHere 105 = .ok (.if_icmp .eq 9, 3) := by decide +kernel
theorem dX12_wordHere_108 : decode cX12_wordHere 108 = .ok (.iinc 2 1, 3) := by decide +kernel
theorem dX12_wordHere_111 : decode cX12_wordHere 111 = .ok (.goto (-14), 3) := by decide +kernel
theorem dX12_wordHere_114 : decode cX12_wordHere 114 = .ok (.iinc 2 1, 3) := by decide +kernel
theorem dX12_wordHere_117 : decode cX12_wordHere 117 = .ok (.iinc 1 1, 3) := by decide +kernel
theorem dX12_wordHere_120 : decode cX12_wordHere 120 = .ok (.goto (-116), 3) := by decide +kernel
theorem dX12_wordHere_123 : decode cX12_wordHere 123 = .ok (.iconst (-1), 1) := by decide +kernel
theorem dX12_wordHere_124 : decode cX12_wordHere 124 = .ok (.ireturn, 1) := by decide +kernel
theorem dX12_wrong_0 : decode cX12_wrong 0 = .ok (.aload_n 0, 1) := by decide +kernel
theorem dX12_wrong_1 : decode cX12_wrong 1 = .ok (.getfield 119, 3) := by decide +kernel
theorem dX12_wrong_4 : decode cX12_wrong 4 = .ok (.ifCond .eq 4, 3) := by decide +kernel
theorem dX12_wrong_7 : decode cX12_wrong 7 = .ok (.return_, 1) := by decide +kernel
theorem dX12_wrong_8 : decode cX12_wrong 8 = .ok (.aload_n 0, 1) := by decide +kernel
theorem dX12_wrong_9 : decode cX12_wrong 9 = .ok (.iload_n 1, 1) := by decide +kernel
theorem dX12_wrong_10 : decode cX12_wrong 10 = .ok (.putfield 119, 3) := by decide +kernel
theorem dX12_wrong_13 : decode cX12_wrong 13 = .ok (.aload_n 0, 1) := by decide +kernel
theorem dX12_wrong_14 : decode cX12_wrong 14 = .ok (.aload_n 0, 1) := by decide +kernel
theorem dX12_wrong_15 : decode cX12_wrong 15 = .ok (.getfield 89, 3) := by decide +kernel
theorem dX12_wrong_18 : decode cX12_wrong 18 = .ok (.putfield 122, 3) := by decide +kernel
theorem dX12_wrong_21 : decode cX12_wrong 21 = .ok (.return_, 1) := by decide +kernel
theorem dX12_goOn_0 : decode cX12_goOn 0 = .ok (.aload_n 0, 1) := by decide +kernel
theorem dX12_goOn_1 : decode cX12_goOn 1 = .ok (.getfield 119, 3) := by decide +kernel
theorem dX12_goOn_4 : decode cX12_goOn 4 = .ok (.ifCond .ne 7, 3) := by decide +kernel
theorem dX12_goOn_7 : decode cX12_goOn 7 = .ok (.aload_n 0, 1) := by decide +kernel
theorem dX12_goOn_8 : decode cX12_goOn 8 = .ok (.invokevirtual 125, 3) := by decide +kernel
theorem dX12_goOn_11 : decode cX12_goOn 11 = .ok (.return_, 1) := by decide +kernel
theorem dX12_isWord_0 : decode cX12_isWord 0 = .ok (.aload_n 0, 1) := by decide +kernel
theorem dX12_isWord_1 : decode cX12_isWord 1 = .ok (.getfield 119, 3) := by decide +kernel
theorem dX12_isWord_4 : decode cX12_isWord 4 = .ok (.ifCond .ne 22, 3) := by decide +kernel
theorem dX12_isWord_7 : decode cX12_isWord 7 = .ok (.aload_n 0, 1) := by decide +kernel
theorem dX12_isWord_8 : decode cX12_isWord 8 = .ok (.getfield 92, 3) := by decide +kernel
theorem dX12_isWord_11 : decode cX12_isWord 11 = .ok (.ifCond .ne 15, 3) := by decide +kernel
theorem dX12_isWord_14 : decode cX12_isWord 14 = .ok (.aload_n 0, 1) := by decide +kernel
theorem dX12_isWord_15 : decode cX12_isWord 15 = .ok (.getfield 102, 3) := by decide +kernel
theorem dX12_isWord_18 : decode cX12_isWord 18 = .ok (.iload_n 1, 1) := by decide +kernel
theorem dX12_isWord_19 : decode cX12_isWord 19 = .ok (.if_icmp .ne 7, 3) := by decide +kernel
theorem dX12_isWord_22 : decode cX12_isWord 22 = .ok (.iconst 1, 1) := by decide +kernel
theorem dX12_isWord_23 : decode cX12_isWord 23 = .ok (.goto 4, 3) := by decide +kernel
theorem dX12_isWord_26 : decode cX12_isWord 26 = .ok (.iconst 0, 1) := by decide +kernel
theorem dX12_isWord_27 : decode cX12_isWord 27 = .ok (.ireturn, 1) := by decide +kernel
theorem dX12_numberBelow_0 : decode cX12_numberBelow 0 = .ok (.aload_n 0, 1) := by decide +kernel
theorem dX12_numberBelow_1 : decode cX12_numberBelow 1 = .ok (.getfield 119, 3) := by decide +kernel
theorem dX12_numberBelow_4 : decode cX12_numberBelow 4 = .ok (.ifCond .ne 24, 3) := by decide +kernel
theorem dX12_numberBelow_7 : decode cX12_numberBelow 7 = .ok (.aload_n 0, 1) := by decide +kernel
theorem dX12_numberBelow_8 : decode cX12_numberBelow 8 = .ok (.getfield 92, 3) := by decide +kernel
theorem dX12_numberBelow_11 : decode cX12_numberBelow 11 = .ok (.iconst 1, 1) := by decide +kernel
theorem dX12_numberBelow_12 : decode cX12_numberBelow 12 = .ok (.if_icmp .ne 11, 3) := by decide +kernel
theorem dX12_numberBelow_15 : decode cX12_numberBelow 15 = .ok (.aload_n 0, 1) := by decide +kernel
theorem dX12_numberBelow_16 : decode cX12_numberBelow 16 = .ok (.getfield 102, 3) := by decide +kernel
theorem dX12_numberBelow_19 : decode cX12_numberBelow 19 = .ok (.iload_n 1, 1) := by decide +kernel
theorem dX12_numberBelow_20 : decode cX12_numberBelow 20 = .ok (.if_icmp .lt 8, 3) := by decide +kernel
theorem dX12_numberBelow_23 : decode cX12_numberBelow 23 = .ok (.aload_n 0, 1) := by decide +kernel
theorem dX12_numberBelow_24 : decode cX12_numberBelow 24 = .ok (.iconst 1, 1) := by decide +kernel
theorem dX12_numberBelow_25 : decode cX12_numberBelow 25 = .ok (.invokevirtual 128, 3) := by decide +kernel
theorem dX12_numberBelow_28 : decode cX12_numberBelow 28 = .ok (.aload_n 0, 1) := by decide +kernel
theorem dX12_numberBelow_29 : decode cX12_numberBelow 29 = .ok (.getfield 119, 3) := by decide +kernel
theorem dX12_numberBelow_32 : decode cX12_numberBelow 32 = .ok (.ifCond .ne 10, 3) := by decide +kernel
theorem dX12_numberBelow_35 : decode cX12_numberBelow 35 = .ok (.aload_n 0, 1) := by decide +kernel
theorem dX12_numberBelow_36 : decode cX12_numberBelow 36 = .ok (.getfield 102, 3) := by decide +kernel
theorem dX12_numberBelow_39 : decode cX12_numberBelow 39 = .ok (.goto 4, 3) := by decide +kernel
theorem dX12_numberBelow_42 : decode cX12_numberBelow 42 = .ok (.iconst 0, 1) := by decide +kernel
theorem dX12_numberBelow_43 : decode cX12_numberBelow 43 = .ok (.ireturn, 1) := by decide +kernel
theorem dX12_readKnots_0 : decode cX12_readKnots 0 = .ok (.aload_n 0, 1) := by decide +kernel
theorem dX12_readKnots_1 : decode cX12_readKnots 1 = .ok (.getfield 132, 3) := by decide +kernel
theorem dX12_readKnots_4 : decode cX12_readKnots 4 = .ok (.ifCond .le 8, 3) := by decide +kernel
theorem dX12_readKnots_7 : decode cX12_readKnots 7 = .ok (.aload_n 0, 1) := by decide +kernel
theorem dX12_readKnots_8 : decode cX12_readKnots 8 = .ok (.iconst 3, 1) := by decide +kernel
theorem dX12_readKnots_9 : decode cX12_readKnots 9 = .ok (.invokevirtual 128, 3) := by decide +kernel
theorem dX12_readKnots_12 : decode cX12_readKnots 12 = .ok (.aload_n 0, 1) := by decide +kernel
theorem dX12_readKnots_13 : decode cX12_readKnots 13 = .ok (.invokevirtual 135, 3) := by decide +kernel
theorem dX12_readKnots_16 : decode cX12_readKnots 16 = .ok (.aload_n 0, 1) := by decide +kernel
theorem dX12_readKnots_17 : decode cX12_readKnots 17 = .ok (.getfield 119, 3) := by decide +kernel
theorem dX12_readKnots_20 : decode cX12_readKnots 20 = .ok (.ifCond .ne 16, 3) := by decide +kernel
theorem dX12_readKnots_23 : decode cX12_readKnots 23 = .ok (.aload_n 0, 1) := by decide +kernel
theorem dX12_readKnots_24 : decode cX12_readKnots 24 = .ok (.getfield 92, 3) := by decide +kernel
theorem dX12_readKnots_27 : decode cX12_readKnots 27 = .ok (.iconst 1, 1) := by decide +kernel
theorem dX12_readKnots_28 : decode cX12_readKnots 28 = .ok (.if_icmp .eq 8, 3) := by decide +kernel
theorem dX12_readKnots_31 : decode cX12_readKnots 31 = .ok (.aload_n 0, 1) := by decide +kernel
theorem dX12_readKnots_32 : decode cX12_readKnots 32 = .ok (.iconst 1, 1) := by decide +kernel
theorem dX12_readKnots_33 : decode cX12_readKnots 33 = .ok (.invokevirtual 128, 3) := by decide +kernel
theorem dX12_readKnots_36 : decode cX12_readKnots 36 = .ok (.aload_n 0, 1) := by decide +kernel
theorem dX12_readKnots_37 : decode cX12_readKnots 37 = .ok (.getfield 119, 3) := by decide +kernel
theorem dX12_readKnots_40 : decode cX12_readKnots 40 = .ok (.ifCond .ne 25, 3) := by decide +kernel
theorem dX12_readKnots_43 : decode cX12_readKnots 43 = .ok (.aload_n 0, 1) := by decide +kernel
theorem dX12_readKnots_44 : decode cX12_readKnots 44 = .ok (.getfield 102, 3) := by decide +kernel
theorem dX12_readKnots_47 : decode cX12_readKnots 47 = .ok (.iconst 2, 1) := by decide +kernel
theorem dX12_readKnots_48 : decode cX12_readKnots 48 = .ok (.if_icmp .lt 12, 3) := by decide +kernel
theorem dX12_readKnots_51 : decode cX12_readKnots 51 = .ok (.aload_n 0, 1) := by decide +kernel
theorem dX12_readKnots_52 : decode cX12_readKnots 52 = .ok (.getfield 102, 3) := by decide +kernel
theorem dX12_readKnots_55 : decode cX12_readKnots 55 = .ok (.bipush 8, 2) := by decide +kernel
theorem dX12_readKnots_57 : decode cX12_readKnots 57 = .ok (.if_icmp .le 8, 3) := by decide +kernel
theorem dX12_readKnots_60 : decode cX12_readKnots 60 = .ok (.aload_n 0, 1) := by decide +kernel
theorem dX12_readKnots_61 : decode cX12_readKnots 61 = .ok (.iconst 2, 1) := by decide +kernel
theorem dX12_readKnots_62 : decode cX12_readKnots 62 = .ok (.invokevirtual 128, 3) := by decide +kernel
theorem dX12_readKnots_65 : decode cX12_readKnots 65 = .ok (.aload_n 0, 1) := by decide +kernel
theorem dX12_readKnots_66 : decode cX12_readKnots 66 = .ok (.getfield 119, 3) := by decide +kernel
theorem dX12_readKnots_69 : decode cX12_readKnots 69 = .ok (.ifCond .eq 4, 3) := by decide +kernel
theorem dX12_readKnots_72 : decode cX12_readKnots 72 = .ok (.return_, 1) := by decide +kernel
theorem dX12_readKnots_73 : decode cX12_readKnots 73 = .ok (.aload_n 0, 1) := by decide +kernel
theorem dX12_readKnots_74 : decode cX12_readKnots 74 = .ok (.aload_n 0, 1) := by decide +kernel
theorem dX12_readKnots_75 : decode cX12_readKnots 75 = .ok (.getfield 102, 3) := by decide +kernel
theorem dX12_readKnots_78 : decode cX12_readKnots 78 = .ok (.putfield 132, 3) := by decide +kernel
theorem dX12_readKnots_81 : decode cX12_readKnots 81 = .ok (.aload_n 0, 1) := by decide +kernel
theorem dX12_readKnots_82 : decode cX12_readKnots 82 = .ok (.aload_n 0, 1) := by decide +kernel
theorem dX12_readKnots_83 : decode cX12_readKnots 83 = .ok (.getfield 102, 3) := by decide +kernel
theorem dX12_readKnots_86 : decode cX12_readKnots 86 = .ok (.iconst 1, 1) := by decide +kernel
theorem dX12_readKnots_87 : decode cX12_readKnots 87 = .ok (.isub, 1) := by decide +kernel
theorem dX12_readKnots_88 : decode cX12_readKnots 88 = .ok (.putfield 138, 3) := by decide +kernel
theorem dX12_readKnots_91 : decode cX12_readKnots 91 = .ok (.aload_n 0, 1) := by decide +kernel
theorem dX12_readKnots_92 : decode cX12_readKnots 92 = .ok (.invokevirtual 135, 3) := by decide +kernel
theorem dX12_readKnots_95 : decode cX12_readKnots 95 = .ok (.return_, 1) := by decide +kernel
theorem dX12_readEnds_0 : decode cX12_readEnds 0 = .ok (.aload_n 0, 1) := by decide +kernel
theorem dX12_readEnds_1 : decode cX12_readEnds 1 = .ok (.getfield 141, 3) := by decide +kernel
theorem dX12_readEnds_4 : decode cX12_readEnds 4 = .ok (.ifCond .eq 8, 3) := by decide +kernel
theorem dX12_readEnds_7 : decode cX12_readEnds 7 = .ok (.aload_n 0, 1) := by decide +kernel
theorem dX12_readEnds_8 : decode cX12_readEnds 8 = .ok (.iconst 3, 1) := by decide +kernel
theorem dX12_readEnds_9 : decode cX12_readEnds 9 = .ok (.invokevirtual 128, 3) := by decide +kernel
theorem dX12_readEnds_12 : decode cX12_readEnds 12 = .ok (.aload_n 0, 1) := by decide +kernel
theorem dX12_readEnds_13 : decode cX12_readEnds 13 = .ok (.invokevirtual 135, 3) := by decide +kernel
theorem dX12_readEnds_16 : decode cX12_readEnds 16 = .ok (.aload_n 0, 1) := by decide +kernel
theorem dX12_readEnds_17 : decode cX12_readEnds 17 = .ok (.aload_n 0, 1) := by decide +kernel
theorem dX12_readEnds_18 : decode cX12_readEnds 18 = .ok (.getfield 132, 3) := by decide +kernel
theorem dX12_readEnds_21 : decode cX12_readEnds 21 = .ok (.invokevirtual 145, 3) := by decide +kernel
theorem dX12_readEnds_24 : decode cX12_readEnds 24 = .ok (.istore_n 1, 1) := by decide +kernel
theorem dX12_readEnds_25 : decode cX12_readEnds 25 = .ok (.aload_n 0, 1) := by decide +kernel
theorem dX12_readEnds_26 : decode cX12_readEnds 26 = .ok (.invokevirtual 135, 3) := by decide +kernel
theorem dX12_readEnds_29 : decode cX12_readEnds 29 = .ok (.aload_n 0, 1) := by decide +kernel
theorem dX12_readEnds_30 : decode cX12_readEnds 30 = .ok (.aload_n 0, 1) := by decide +kernel
theorem dX12_readEnds_31 : decode cX12_readEnds 31 = .ok (.getfield 132, 3) := by decide +kernel
theorem dX12_readEnds_34 : decode cX12_readEnds 34 = .ok (.invokevirtual 145, 3) := by decide +kernel
theorem dX12_readEnds_37 : decode cX12_readEnds 37 = .ok (.istore_n 2, 1) := by decide +kernel
theorem dX12_readEnds_38 : decode cX12_readEnds 38 = .ok (.iload_n 1, 1) := by decide +kernel
theorem dX12_readEnds_39 : decode cX12_readEnds 39 = .ok (.iload_n 2, 1) := by decide +kernel
theorem dX12_readEnds_40 : decode cX12_readEnds 40 = .ok (.if_icmp .ne 8, 3) := by decide +kernel
theorem dX12_readEnds_43 : decode cX12_readEnds 43 = .ok (.aload_n 0, 1) := by decide +kernel
theorem dX12_readEnds_44 : decode cX12_readEnds 44 = .ok (.iconst 3, 1) := by decide +kernel
theorem dX12_readEnds_45 : decode cX12_readEnds 45 = .ok (.invokevirtual 128, 3) := by decide +kernel
theorem dX12_readEnds_48 : decode cX12_readEnds 48 = .ok (.aload_n 0, 1) := by decide +kernel
theorem dX12_readEnds_49 : decode cX12_readEnds 49 = .ok (.invokevirtual 135, 3) := by decide +kernel
theorem dX12_readEnds_52 : decode cX12_readEnds 52 = .ok (.aload_n 0, 1) := by decide +kernel
theorem dX12_readEnds_53 : decode cX12_readEnds 53 = .ok (.getfield 119, 3) := by decide +kernel
theorem dX12_readEnds_56 : decode cX12_readEnds 56 = .ok (.ifCond .eq 4, 3) := by decide +kernel
theorem dX12_readEnds_59 : decode cX12_readEnds 59 = .ok (.return_, 1) := by decide +kernel
theorem dX12_readEnds_60 : decode cX12_readEnds 60 = .ok (.aload_n 0, 1) := by decide +kernel
theorem dX12_readEnds_61 : decode cX12_readEnds 61 = .ok (.iconst 1, 1) := by decide +kernel
theorem dX12_readEnds_62 : decode cX12_readEnds 62 = .ok (.putfield 141, 3) := by decide +kernel
theorem dX12_readEnds_65 : decode cX12_readEnds 65 = .ok (.aload_n 0, 1) := by decide +kernel
theorem dX12_readEnds_66 : decode cX12_readEnds 66 = .ok (.iload_n 1, 1) := by decide +kernel
theorem dX12_readEnds_67 : decode cX12_readEnds 67 = .ok (.putfield 149, 3) := by decide +kernel
theorem dX12_readEnds_70 : decode cX12_readEnds 70 = .ok (.aload_n 0, 1) := by decide +kernel
theorem dX12_readEnds_71 : decode cX12_readEnds 71 = .ok (.iload_n 2, 1) := by decide +kernel
theorem dX12_readEnds_72 : decode cX12_readEnds 72 = .ok (.putfield 138, 3) := by decide +kernel
theorem dX12_readEnds_75 : decode cX12_readEnds 75 = .ok (.return_, 1) := by decide +kernel
theorem dX12_readOne_0 : decode cX12_readOne 0 = .ok (.aload_n 0, 1) := by decide +kernel
theorem dX12_readOne_1 : decode cX12_readOne 1 = .ok (.getfield 152, 3) := by decide +kernel
theorem dX12_readOne_4 : decode cX12_readOne 4 = .ok (.bipush 14, 2) := by decide +kernel
theorem dX12_readOne_6 : decode cX12_readOne 6 = .ok (.if_icmp .ne 8, 3) := by decide +kernel
theorem dX12_readOne_9 : decode cX12_readOne 9 = .ok (.aload_n 0, 1) := by decide +kernel
theorem dX12_readOne_10 : decode cX12_readOne 10 = .ok (.iconst 2, 1) := by decide +kernel
theorem dX12_readOne_11 : decode cX12_readOne 11 = .ok (.invokevirtual 128, 3) := by decide +kernel
theorem dX12_readOne_14 : decode cX12_readOne 14 = .ok (.aload_n 0, 1) := by decide +kernel
theorem dX12_readOne_15 : decode cX12_readOne 15 = .ok (.invokevirtual 135, 3) := by decide +kernel
theorem dX12_readOne_18 : decode cX12_readOne 18 = .ok (.aload_n 0, 1) := by decide +kernel
theorem dX12_readOne_19 : decode cX12_readOne 19 = .ok (.aload_n 0, 1) := by decide +kernel
theorem dX12_readOne_20 : decode cX12_readOne 20 = .ok (.getfield 132, 3) := by decide +kernel
theorem dX12_readOne_23 : decode cX12_readOne 23 = .ok (.invokevirtual 145, 3) := by decide +kernel
theorem dX12_readOne_26 : decode cX12_readOne 26 = .ok (.istore_n 1, 1) := by decide +kernel
theorem dX12_readOne_27 : decode cX12_readOne 27 = .ok (.aload_n 0, 1) := by decide +kernel
theorem dX12_readOne_28 : decode cX12_readOne 28 = .ok (.invokevirtual 135, 3) := by decide +kernel
theorem dX12_readOne_31 : decode cX12_readOne 31 = .ok (.aload_n 0, 1) := by decide +kernel
theorem dX12_readOne_32 : decode cX12_readOne 32 = .ok (.aload_n 0, 1) := by decide +kernel
theorem dX12_readOne_33 : decode cX12_readOne 33 = .ok (.getfield 132, 3) := by decide +kernel
theorem dX12_readOne_36 : decode cX12_readOne 36 = .ok (.invokevirtual 145, 3) := by decide +kernel
theorem dX12_readOne_39 : decode cX12_readOne 39 = .ok (.istore_n 2, 1) := by decide +kernel
theorem dX12_readOne_40 : decode cX12_readOne 40 = .ok (.iload_n 1, 1) := by decide +kernel
theorem dX12_readOne_41 : decode cX12_readOne 41 = .ok (.iload_n 2, 1) := by decide +kernel
theorem dX12_readOne_42 : decode cX12_readOne 42 = .ok (.if_icmp .ne 8, 3) := by decide +kernel
theorem dX12_readOne_45 : decode cX12_readOne 45 = .ok (.aload_n 0, 1) := by decide +kernel
theorem dX12_readOne_46 : decode cX12_readOne 46 = .ok (.iconst 3, 1) := by decide +kernel
theorem dX12_readOne_47 : decode cX12_readOne 47 = .ok (.invokevirtual 128, 3) := by decide +kernel
theorem dX12_readOne_50 : decode cX12_readOne 50 = .ok (.aload_n 0, 1) := by decide +kernel
theorem dX12_readOne_51 : decode cX12_readOne 51 = .ok (.invokevirtual 135, 3) := by decide +kernel
theorem dX12_readOne_54 : decode cX12_readOne 54 = .ok (.aload_n 0, 1) := by decide +kernel
theorem dX12_readOne_55 : decode cX12_readOne 55 = .ok (.getfield 119, 3) := by decide +kernel
theorem dX12_readOne_58 : decode cX12_readOne 58 = .ok (.ifCond .eq 4, 3) := by decide +kernel
theorem dX12_readOne_61 : decode cX12_readOne 61 = .ok (.return_, 1) := by decide +kernel
theorem dX12_readOne_62 : decode cX12_readOne 62 = .ok (.aload_n 0, 1) := by decide +kernel
theorem dX12_readOne_63 : decode cX12_readOne 63 = .ok (.getfield 22, 3) := by decide +kernel
theorem dX12_readOne_66 : decode cX12_readOne 66 = .ok (.aload_n 0, 1) := by decide +kernel
theorem dX12_readOne_67 : decode cX12_readOne 67 = .ok (.getfield 152, 3) := by decide +kernel
theorem dX12_readOne_70 : decode cX12_readOne 70 = .ok (.iload_n 1, 1) := by decide +kernel
theorem dX12_readOne_71 : decode cX12_readOne 71 = .ok (.iastore, 1) := by decide +kernel
theorem dX12_readOne_72 : decode cX12_readOne 72 = .ok (.aload_n 0, 1) := by decide +kernel
theorem dX12_readOne_73 : decode cX12_readOne 73 = .ok (.getfield 25, 3) := by decide +kernel
theorem dX12_readOne_76 : decode cX12_readOne 76 = .ok (.aload_n 0, 1) := by decide +kernel
theorem dX12_readOne_77 : decode cX12_readOne 77 = .ok (.getfield 152, 3) := by decide +kernel
theorem dX12_readOne_80 : decode cX12_readOne 80 = .ok (.iload_n 2, 1) := by decide +kernel
theorem dX12_readOne_81 : decode cX12_readOne 81 = .ok (.iastore, 1) := by decide +kernel
theorem dX12_readOne_82 : decode cX12_readOne 82 = .ok (.aload_n 0, 1) := by decide +kernel
theorem dX12_readOne_83 : decode cX12_readOne 83 = .ok (.dup, 1) := by decide +kernel
theorem dX12_readOne_84 : decode cX12_readOne 84 = .ok (.getfield 152, 3) := by decide +kernel
theorem dX12_readOne_87 : decode cX12_readOne 87 = .ok (.iconst 1, 1) := by decide +kernel
theorem dX12_readOne_88 : decode cX12_readOne 88 = .ok (.iadd, 1) := by decide +kernel
theorem dX12_readOne_89 : decode cX12_readOne 89 = .ok (.putfield 152, 3) := by decide +kernel
theorem dX12_readOne_92 : decode cX12_readOne 92 = .ok (.return_, 1) := by decide +kernel
theorem dX12_readDone_0 : decode cX12_readDone 0 = .ok (.aload_n 0, 1) := by decide +kernel
theorem dX12_readDone_1 : decode cX12_readDone 1 = .ok (.invokevirtual 135, 3) := by decide +kernel
theorem dX12_readDone_4 : decode cX12_readDone 4 = .ok (.aload_n 0, 1) := by decide +kernel
theorem dX12_readDone_5 : decode cX12_readDone 5 = .ok (.aload_n 0, 1) := by decide +kernel
theorem dX12_readDone_6 : decode cX12_readDone 6 = .ok (.getfield 152, 3) := by decide +kernel
theorem dX12_readDone_9 : decode cX12_readDone 9 = .ok (.invokevirtual 145, 3) := by decide +kernel
theorem dX12_readDone_12 : decode cX12_readDone 12 = .ok (.istore_n 2, 1) := by decide +kernel
theorem dX12_readDone_13 : decode cX12_readDone 13 = .ok (.aload_n 0, 1) := by decide +kernel
theorem dX12_readDone_14 : decode cX12_readDone 14 = .ok (.getfield 119, 3) := by decide +kernel
theorem dX12_readDone_17 : decode cX12_readDone 17 = .ok (.ifCond .ne 25, 3) := by decide +kernel
theorem dX12_readDone_20 : decode cX12_readDone 20 = .ok (.aload_n 0, 1) := by decide +kernel
theorem dX12_readDone_21 : decode cX12_readDone 21 = .ok (.getfield 155, 3) := by decide +kernel
theorem dX12_readDone_24 : decode cX12_readDone 24 = .ok (.aload_n 0, 1) := by decide +kernel
theorem dX12_readDone_25 : decode cX12_readDone 25 = .ok (.getfield 158, 3) := by decide +kernel
theorem dX12_readDone_28 : decode cX12_readDone 28 = .ok (.ior, 1) := by decide +kernel
theorem dX12_readDone_29 : decode cX12_readDone 29 = .ok (.iload_n 2, 1) := by decide +kernel
theorem dX12_readDone_30 : decode cX12_readDone 30 = .ok (.ishr, 1) := by decide +kernel
theorem dX12_readDone_31 : decode cX12_readDone 31 = .ok (.iconst 1, 1) := by decide +kernel
theorem dX12_readDone_32 : decode cX12_readDone 32 = .ok (.iand, 1) := by decide +kernel
theorem dX12_readDone_33 : decode cX12_readDone 33 = .ok (.iconst 1, 1) := by decide +kernel
theorem dX12_readDone_34 : decode cX12_readDone 34 = .ok (.if_icmp .ne 8, 3) := by decide +kernel
theorem dX12_readDone_37 : decode cX12_readDone 37 = .ok (.aload_n 0, 1) := by decide +kernel
theorem dX12_readDone_38 : decode cX12_readDone 38 = .ok (.iconst 3, 1) := by decide +kernel
theorem dX12_readDone_39 : decode cX12_readDone 39 = .ok (.invokevirtual 128, 3) := by decide +kernel
theorem dX12_readDone_42 : decode cX12_readDone 42 = .ok (.aload_n 0, 1) := by decide +kernel
theorem dX12_readDone_43 : decode cX12_readDone 43 = .ok (.invokevirtual 135, 3) := by decide +kernel
theorem dX12_readDone_46 : decode cX12_readDone 46 = .ok (.aload_n 0, 1) := by decide +kernel
theorem dX12_readDone_47 : decode cX12_readDone 47 = .ok (.getfield 119, 3) := by decide +kernel
theorem dX12_readDone_50 : decode cX12_readDone 50 = .ok (.ifCond .eq 4, 3) := by decide +kernel
theorem dX12_readDone_53 : decode cX12_readDone 53 = .ok (.return_, 1) := by decide +kernel
theorem dX12_readDone_54 : decode cX12_readDone 54 = .ok (.iload_n 1, 1) := by decide +kernel
theorem dX12_readDone_55 : decode cX12_readDone 55 = .ok (.ifCond .eq 18, 3) := by decide +kernel
theorem dX12_readDone_58 : decode cX12_readDone 58 = .ok (.aload_n 0, 1) := by decide +kernel
theorem dX12_readDone_59 : decode cX12_readDone 59 = .ok (.dup, 1) := by decide +kernel
theorem dX12_readDone_60 : decode cX12_readDone 60 = .ok (.getfield 155, 3) := by decide +kernel
theorem dX12_readDone_63 : decode cX12_readDone 63 = .ok (.iconst 1, 1) := by decide +kernel
theorem dX12_readDone_64 : decode cX12_readDone 64 = .ok (.iload_n 2, 1) := by decide +kernel
theorem dX12_readDone_65 : decode cX12_readDone 65 = .ok (.ishl, 1) := by decide +kernel
theorem dX12_readDone_66 : decode cX12_readDone 66 = .ok (.ior, 1) := by decide +kernel
theorem dX12_readDone_67 : decode cX12_readDone 67 = .ok (.putfield 155, 3) := by decide +kernel
theorem dX12_readDone_70 : decode cX12_readDone 70 = .ok (.goto 15, 3) := by decide +kernel
theorem dX12_readDone_73 : decode cX12_readDone 73 = .ok (.aload_n 0, 1) := by decide +kernel
theorem dX12_readDone_74 : decode cX12_readDone 74 = .ok (.dup, 1) := by decide +kernel
theorem dX12_readDone_75 : decode cX12_readDone 75 = .ok (.getfield 158, 3) := by decide +kernel
theorem dX12_readDone_78 : decode cX12_readDone 78 = .ok (.iconst 1, 1) := by decide +kernel
theorem dX12_readDone_79 : decode cX12_readDone 79 = .ok (.iload_n 2, 1) := by decide +kernel
theorem dX12_readDone_80 : decode cX12_readDone 80 = .ok (.ishl, 1) := by decide +kernel
theorem dX12_readDone_81 : decode cX12_readDone 81 = .ok (.ior, 1) := by decide +kernel
theorem dX12_readDone_82 : decode cX12_readDone 82 = .ok (.putfield 158, 3) := by decide +kernel
theorem dX12_readDone_85 : decode cX12_readDone 85 = .ok (.return_, 1) := by decide +kernel
theorem dX12_readFirst_0 : decode cX12_readFirst 0 = .ok (.aload_n 0, 1) := by decide +kernel
theorem dX12_readFirst_1 : decode cX12_readFirst 1 = .ok (.getfield 161, 3) := by decide +kernel
theorem dX12_readFirst_4 : decode cX12_readFirst 4 = .ok (.ifCond .eq 8, 3) := by decide +kernel
theorem dX12_readFirst_7 : decode cX12_readFirst 7 = .ok (.aload_n 0, 1) := by decide +kernel
theorem dX12_readFirst_8 : decode cX12_readFirst 8 = .ok (.iconst 3, 1) := by decide +kernel
theorem dX12_readFirst_9 : decode cX12_readFirst 9 = .ok (.invokevirtual 128, 3) := by decide +kernel
theorem dX12_readFirst_12 : decode cX12_readFirst 12 = .ok (.aload_n 0, 1) := by decide +kernel
theorem dX12_readFirst_13 : decode cX12_readFirst 13 = .ok (.invokevirtual 135, 3) := by decide +kernel
theorem dX12_readFirst_16 : decode cX12_readFirst 16 = .ok (.aload_n 0, 1) := by decide +kernel
theorem dX12_readFirst_17 : decode cX12_readFirst 17 = .ok (.bipush 6, 2) := by decide +kernel
theorem dX12_readFirst_19 : decode cX12_readFirst 19 = .ok (.invokevirtual 164, 3) := by decide +kernel
theorem dX12_readFirst_22 : decode cX12_readFirst 22 = .ok (.ifCond .ne 17, 3) := by decide +kernel
theorem dX12_readFirst_25 : decode cX12_readFirst 25 = .ok (.aload_n 0, 1) := by decide +kernel
theorem dX12_readFirst_26 : decode cX12_readFirst 26 = .ok (.bipush 7, 2) := by decide +kernel
theorem dX12_readFirst_28 : decode cX12_readFirst 28 = .ok (.invokevirtual 164, 3) := by decide +kernel
theorem dX12_readFirst_31 : decode cX12_readFirst 31 = .ok (.ifCond .ne 8, 3) := by decide +kernel
theorem dX12_readFirst_34 : decode cX12_readFirst 34 = .ok (.aload_n 0, 1) := by decide +kernel
theorem dX12_readFirst_35 : decode cX12_readFirst 35 = .ok (.iconst 1, 1) := by decide +kernel
theorem dX12_readFirst_36 : decode cX12_readFirst 36 = .ok (.invokevirtual 128, 3) := by decide +kernel
theorem dX12_readFirst_39 : decode cX12_readFirst 39 = .ok (.aload_n 0, 1) := by decide +kernel
theorem dX12_readFirst_40 : decode cX12_readFirst 40 = .ok (.getfield 119, 3) := by decide +kernel
theorem dX12_readFirst_43 : decode cX12_readFirst 43 = .ok (.ifCond .eq 4, 3) := by decide +kernel
theorem dX12_readFirst_46 : decode cX12_readFirst 46 = .ok (.return_, 1) := by decide +kernel
theorem dX12_readFirst_47 : decode cX12_readFirst 47 = .ok (.aload_n 0, 1) := by decide +kernel
theorem dX12_readFirst_48 : decode cX12_readFirst 48 = .ok (.iconst 1, 1) := by decide +kernel
theorem dX12_readFirst_49 : decode cX12_readFirst 49 = .ok (.putfield 161, 3) := by decide +kernel
theorem dX12_readFirst_52 : decode cX12_readFirst 52 = .ok (.aload_n 0, 1) := by decide +kernel
theorem dX12_readFirst_53 : decode cX12_readFirst 53 = .ok (.aload_n 0, 1) := by decide +kernel
theorem dX12_readFirst_54 : decode cX12_readFirst 54 = .ok (.getfield 102, 3) := by decide +kernel
theorem dX12_readFirst_57 : decode cX12_readFirst 57 = .ok (.bipush 6, 2) := by decide +kernel
theorem dX12_readFirst_59 : decode cX12_readFirst 59 = .ok (.if_icmp .ne 7, 3) := by decide +kernel
theorem dX12_readFirst_62 : decode cX12_readFirst 62 = .ok (.iconst 0, 1) := by decide +kernel
theorem dX12_readFirst_63 : decode cX12_readFirst 63 = .ok (.goto 4, 3) := by decide +kernel
theorem dX12_readFirst_66 : decode cX12_readFirst 66 = .ok (.iconst 1, 1) := by decide +kernel
theorem dX12_readFirst_67 : decode cX12_readFirst 67 = .ok (.putfield 167, 3) := by decide +kernel
theorem dX12_readFirst_70 : decode cX12_readFirst 70 = .ok (.aload_n 0, 1) := by decide +kernel
theorem dX12_readFirst_71 : decode cX12_readFirst 71 = .ok (.invokevirtual 135, 3) := by decide +kernel
theorem dX12_readFirst_74 : decode cX12_readFirst 74 = .ok (.return_, 1) := by decide +kernel
theorem dX12_readLine_0 : decode cX12_readLine 0 = .ok (.aload_n 0, 1) := by decide +kernel
theorem dX12_readLine_1 : decode cX12_readLine 1 = .ok (.getfield 92, 3) := by decide +kernel
theorem dX12_readLine_4 : decode cX12_readLine 4 = .ok (.ifCond .ne 10, 3) := by decide +kernel
theorem dX12_readLine_7 : decode cX12_readLine 7 = .ok (.aload_n 0, 1) := by decide +kernel
theorem dX12_readLine_8 : decode cX12_readLine 8 = .ok (.getfield 102, 3) := by decide +kernel
theorem dX12_readLine_11 : decode cX12_readLine 11 = .ok (.goto 4, 3) := by decide +kernel
theorem dX12_readLine_14 : decode cX12_readLine 14 = .ok (.iconst (-1), 1) := by decide +kernel
theorem dX12_readLine_15 : decode cX12_readLine 15 = .ok (.istore_n 1, 1) := by decide +kernel
theorem dX12_readLine_16 : decode cX12_readLine 16 = .ok (.iload_n 1, 1) := by decide +kernel
theorem dX12_readLine_17 : decode cX12_readLine 17 = .ok (.ifCond .eq 18, 3) := by decide +kernel
theorem dX12_readLine_20 : decode cX12_readLine 20 = .ok (.aload_n 0, 1) := by decide +kernel
theorem dX12_readLine_21 : decode cX12_readLine 21 = .ok (.getfield 132, 3) := by decide +kernel
theorem dX12_readLine_24 : decode cX12_readLine 24 = .ok (.ifCond .ne 11, 3) := by decide +kernel
theorem dX12_readLine_27 : decode cX12_readLine 27 = .ok (.aload_n 0, 1) := by decide +kernel
theorem dX12_readLine_28 : decode cX12_readLine 28 = .ok (.iconst 1, 1) := by decide +kernel
theorem dX12_readLine_29 : decode cX12_readLine 29 = .ok (.invokevirtual 128, 3) := by decide +kernel
theorem dX12_readLine_32 : decode cX12_readLine 32 = .ok (.goto 81, 3) := by decide +kernel
theorem dX12_readLine_35 : decode cX12_readLine 35 = .ok (.iload_n 1, 1) := by decide +kernel
theorem dX12_readLine_36 : decode cX12_readLine 36 = .ok (.ifCond .ne 10, 3) := by decide +kernel
theorem dX12_readLine_39 : decode cX12_readLine 39 = .ok (.aload_n 0, 1) := by decide +kernel
theorem dX12_readLine_40 : decode cX12_readLine 40 = .ok (.invokevirtual 170, 3) := by decide +kernel
theorem dX12_readLine_43 : decode cX12_readLine 43 = .ok (.goto 70, 3) := by decide +kernel
theorem dX12_readLine_46 : decode cX12_readLine 46 = .ok (.iload_n 1, 1) := by decide +kernel
theorem dX12_readLine_47 : decode cX12_readLine 47 = .ok (.iconst 1, 1) := by decide +kernel
theorem dX12_readLine_48 : decode cX12_readLine 48 = .ok (.if_icmp .ne 10, 3) := by decide +kernel
theorem dX12_readLine_51 : decode cX12_readLine 51 = .ok (.aload_n 0, 1) := by decide +kernel
theorem dX12_readLine_52 : decode cX12_readLine 52 = .ok (.invokevirtual 173, 3) := by decide +kernel
theorem dX12_readLine_55 : decode cX12_readLine 55 = .ok (.goto 58, 3) := by decide +kernel
theorem dX12_readLine_58 : decode cX12_readLine 58 = .ok (.iload_n 1, 1) := by decide +kernel
theorem dX12_readLine_59 : decode cX12_readLine 59 = .ok (.iconst 2, 1) := by decide +kernel
theorem dX12_readLine_60 : decode cX12_readLine 60 = .ok (.if_icmp .ne 10, 3) := by decide +kernel
theorem dX12_readLine_63 : decode cX12_readLine 63 = .ok (.aload_n 0, 1) := by decide +kernel
theorem dX12_readLine_64 : decode cX12_readLine 64 = .ok (.invokevirtual 176, 3) := by decide +kernel
theorem dX12_readLine_67 : decode cX12_readLine 67 = .ok (.goto 46, 3) := by decide +kernel
theorem dX12_readLine_70 : decode cX12_readLine 70 = .ok (.iload_n 1, 1) := by decide +kernel
theorem dX12_readLine_71 : decode cX12_readLine 71 = .ok (.iconst 3, 1) := by decide +kernel
theorem dX12_readLine_72 : decode cX12_readLine 72 = .ok (.if_icmp .ne 11, 3) := by decide +kernel
theorem dX12_readLine_75 : decode cX12_readLine 75 = .ok (.aload_n 0, 1) := by decide +kernel
theorem dX12_readLine_76 : decode cX12_readLine 76 = .ok (.iconst 1, 1) := by decide +kernel
theorem dX12_readLine_77 : decode cX12_readLine 77 = .ok (.invokevirtual 179, 3) := by decide +kernel
theorem dX12_readLine_80 : decode cX12_readLine 80 = .ok (.goto 33, 3) := by decide +kernel
theorem dX12_readLine_83 : decode cX12_readLine 83 = .ok (.iload_n 1, 1) := by decide +kernel
theorem dX12_readLine_84 : decode cX12_readLine 84 = .ok (.iconst 4, 1) := by decide +kernel
theorem dX12_readLine_85 : decode cX12_readLine 85 = .ok (.if_icmp .ne 11, 3) := by decide +kernel
theorem dX12_readLine_88 : decode cX12_readLine 88 = .ok (.aload_n 0, 1) := by decide +kernel
theorem dX12_readLine_89 : decode cX12_readLine 89 = .ok (.iconst 0, 1) := by decide +kernel
theorem dX12_readLine_90 : decode cX12_readLine 90 = .ok (.invokevirtual 179, 3) := by decide +kernel
theorem dX12_readLine_93 : decode cX12_readLine 93 = .ok (.goto 20, 3) := by decide +kernel
theorem dX12_readLine_96 : decode cX12_readLine 96 = .ok (.iload_n 1, 1) := by decide +kernel
theorem dX12_readLine_97 : decode cX12_readLine 97 = .ok (.iconst 5, 1) := by decide +kernel
theorem dX12_readLine_98 : decode cX12_readLine 98 = .ok (.if_icmp .ne 10, 3) := by decide +kernel
theorem dX12_readLine_101 : decode cX12_readLine 101 = .ok (.aload_n 0, 1) := by decide +kernel
theorem dX12_readLine_102 : decode cX12_readLine 102 = .ok (.invokevirtual 183, 3) := by decide +kernel
theorem dX12_readLine_105 : decode cX12_readLine 105 = .ok (.goto 8, 3) := by decide +kernel
theorem dX12_readLine_108 : decode cX12_readLine 108 = .ok (.aload_n 0, 1) := by decide +kernel
theorem dX12_readLine_109 : decode cX12_readLine 109 = .ok (.iconst 1, 1) := by decide +kernel
theorem dX12_readLine_110 : decode cX12_readLine 110 = .ok (.invokevirtual 128, 3) := by decide +kernel
theorem dX12_readLine_113 : decode cX12_readLine 113 = .ok (.aload_n 0, 1) := by decide +kernel
theorem dX12_readLine_114 : decode cX12_readLine 114 = .ok (.getfield 119, 3) := by decide +kernel
theorem dX12_readLine_117 : decode cX12_readLine 117 = .ok (.ifCond .ne 16, 3) := by decide +kernel
theorem dX12_readLine_120 : decode cX12_readLine 120 = .ok (.aload_n 0, 1) := by decide +kernel
theorem dX12_readLine_121 : decode cX12_readLine 121 = .ok (.getfield 92, 3) := by decide +kernel
theorem dX12_readLine_124 : decode cX12_readLine 124 = .ok (.iconst 2, 1) := by decide +kernel
theorem dX12_readLine_125 : decode cX12_readLine 125 = .ok (.if_icmp .eq 8, 3) := by decide +kernel
theorem dX12_readLine_128 : decode cX12_readLine 128 = .ok (.aload_n 0, 1) := by decide +kernel
theorem dX12_readLine_129 : decode cX12_readLine 129 = .ok (.iconst 1, 1) := by decide +kernel
theorem dX12_readLine_130 : decode cX12_readLine 130 = .ok (.invokevirtual 128, 3) := by decide +kernel
theorem dX12_readLine_133 : decode cX12_readLine 133 = .ok (.aload_n 0, 1) := by decide +kernel
theorem dX12_readLine_134 : decode cX12_readLine 134 = .ok (.invokevirtual 135, 3) := by decide +kernel
theorem dX12_readLine_137 : decode cX12_readLine 137 = .ok (.aload_n 0, 1) := by decide +kernel
theorem dX12_readLine_138 : decode cX12_readLine 138 = .ok (.dup, 1) := by decide +kernel
theorem dX12_readLine_139 : decode cX12_readLine 139 = .ok (.getfield 186, 3) := by decide +kernel
theorem dX12_readLine_142 : decode cX12_readLine 142 = .ok (.iconst 1, 1) := by decide +kernel
theorem dX12_readLine_143 : decode cX12_readLine 143 = .ok (.iadd, 1) := by decide +kernel
theorem dX12_readLine_144 : decode cX12_readLine 144 = .ok (.putfield 186, 3) := by decide +kernel
theorem dX12_readLine_147 : decode cX12_readLine 147 = .ok (.return_, 1) := by decide +kernel
theorem dX12_readText_0 : decode cX12_readText 0 = .ok (.aload_n 0, 1) := by decide +kernel
theorem dX12_readText_1 : decode cX12_readText 1 = .ok (.iconst 0, 1) := by decide +kernel
theorem dX12_readText_2 : decode cX12_readText 2 = .ok (.putfield 132, 3) := by decide +kernel
theorem dX12_readText_5 : decode cX12_readText 5 = .ok (.aload_n 0, 1) := by decide +kernel
theorem dX12_readText_6 : decode cX12_readText 6 = .ok (.iconst 0, 1) := by decide +kernel
theorem dX12_readText_7 : decode cX12_readText 7 = .ok (.putfield 152, 3) := by decide +kernel
theorem dX12_readText_10 : decode cX12_readText 10 = .ok (.aload_n 0, 1) := by decide +kernel
theorem dX12_readText_11 : decode cX12_readText 11 = .ok (.iconst 0, 1) := by decide +kernel
theorem dX12_readText_12 : decode cX12_readText 12 = .ok (.putfield 155, 3) := by decide +kernel
theorem dX12_readText_15 : decode cX12_readText 15 = .ok (.aload_n 0, 1) := by decide +kernel
theorem dX12_readText_16 : decode cX12_readText 16 = .ok (.iconst 0, 1) := by decide +kernel
theorem dX12_readText_17 : decode cX12_readText 17 = .ok (.putfield 158, 3) := by decide +kernel
theorem dX12_readText_20 : decode cX12_readText 20 = .ok (.aload_n 0, 1) := by decide +kernel
theorem dX12_readText_21 : decode cX12_readText 21 = .ok (.iconst 0, 1) := by decide +kernel
theorem dX12_readText_22 : decode cX12_readText 22 = .ok (.putfield 149, 3) := by decide +kernel
theorem dX12_readText_25 : decode cX12_readText 25 = .ok (.aload_n 0, 1) := by decide +kernel
theorem dX12_readText_26 : decode cX12_readText 26 = .ok (.iconst 1, 1) := by decide +kernel
theorem dX12_readText_27 : decode cX12_readText 27 = .ok (.putfield 138, 3) := by decide +kernel
theorem dX12_readText_30 : decode cX12_readText 30 = .ok (.aload_n 0, 1) := by decide +kernel
theorem dX12_readText_31 : decode cX12_readText 31 = .ok (.iconst 1, 1) := by decide +kernel
theorem dX12_readText_32 : decode cX12_readText 32 = .ok (.putfield 167, 3) := by decide +kernel
theorem dX12_readText_35 : decode cX12_readText 35 = .ok (.aload_n 0, 1) := by decide +kernel
theorem dX12_readText_36 : decode cX12_readText 36 = .ok (.iconst 0, 1) := by decide +kernel
theorem dX12_readText_37 : decode cX12_readText 37 = .ok (.putfield 186, 3) := by decide +kernel
theorem dX12_readText_40 : decode cX12_readText 40 = .ok (.aload_n 0, 1) := by decide +kernel
theorem dX12_readText_41 : decode cX12_readText 41 = .ok (.iconst 0, 1) := by decide +kernel
theorem dX12_readText_42 : decode cX12_readText 42 = .ok (.putfield 141, 3) := by decide +kernel
theorem dX12_readText_45 : decode cX12_readText 45 = .ok (.aload_n 0, 1) := by decide +kernel
theorem dX12_readText_46 : decode cX12_readText 46 = .ok (.iconst 0, 1) := by decide +kernel
theorem dX12_readText_47 : decode cX12_readText 47 = .ok (.putfield 161, 3) := by decide +kernel
theorem dX12_readText_50 : decode cX12_readText 50 = .ok (.aload_n 0, 1) := by decide +kernel
theorem dX12_readText_51 : decode cX12_readText 51 = .ok (.iload_n 1, 1) := by decide +kernel
theorem dX12_readText_52 : decode cX12_readText 52 = .ok (.putfield 82, 3) := by decide +kernel
theorem dX12_readText_55 : decode cX12_readText 55 = .ok (.aload_n 0, 1) := by decide +kernel
theorem dX12_readText_56 : decode cX12_readText 56 = .ok (.iconst 0, 1) := by decide +kernel
theorem dX12_readText_57 : decode cX12_readText 57 = .ok (.putfield 79, 3) := by decide +kernel
theorem dX12_readText_60 : decode cX12_readText 60 = .ok (.aload_n 0, 1) := by decide +kernel
theorem dX12_readText_61 : decode cX12_readText 61 = .ok (.iconst 0, 1) := by decide +kernel
theorem dX12_readText_62 : decode cX12_readText 62 = .ok (.putfield 119, 3) := by decide +kernel
theorem dX12_readText_65 : decode cX12_readText 65 = .ok (.aload_n 0, 1) := by decide +kernel
theorem dX12_readText_66 : decode cX12_readText 66 = .ok (.invokevirtual 125, 3) := by decide +kernel
theorem dX12_readText_69 : decode cX12_readText 69 = .ok (.aload_n 0, 1) := by decide +kernel
theorem dX12_readText_70 : decode cX12_readText 70 = .ok (.getfield 119, 3) := by decide +kernel
theorem dX12_readText_73 : decode cX12_readText 73 = .ok (.ifCond .ne 18, 3) := by decide +kernel
theorem dX12_readText_76 : decode cX12_readText 76 = .ok (.aload_n 0, 1) := by decide +kernel
theorem dX12_readText_77 : decode cX12_readText 77 = .ok (.getfield 92, 3) := by decide +kernel
theorem dX12_readText_80 : decode cX12_readText 80 = .ok (.iconst 3, 1) := by decide +kernel
theorem dX12_readText_81 : decode cX12_readText 81 = .ok (.if_icmp .eq 10, 3) := by decide +kernel
theorem dX12_readText_84 : decode cX12_readText 84 = .ok (.aload_n 0, 1) := by decide +kernel
theorem dX12_readText_85 : decode cX12_readText 85 = .ok (.invokevirtual 189, 3) := by decide +kernel
theorem dX12_readText_88 : decode cX12_readText 88 = .ok (.goto (-19), 3) := by decide +kernel
theorem dX12_readText_91 : decode cX12_readText 91 = .ok (.return_, 1) := by decide +kernel
theorem dX12_text_0 : decode cX12_text 0 = .ok (.aload_n 0, 1) := by decide +kernel
theorem dX12_text_1 : decode cX12_text 1 = .ok (.iconst 0, 1) := by decide +kernel
theorem dX12_text_2 : decode cX12_text 2 = .ok (.putfield 73, 3) := by decide +kernel
theorem dX12_text_5 : decode cX12_text 5 = .ok (.iload_n 1, 1) := by decide +kernel
theorem dX12_text_6 : decode cX12_text 6 = .ok (.ifCond .lt 11, 3) := by decide +kernel
theorem dX12_text_9 : decode cX12_text 9 = .ok (.iload_n 1, 1) := by decide +kernel
theorem dX12_text_10 : decode cX12_text 10 = .ok (.aload_n 0, 1) := by decide +kernel
theorem dX12_text_11 : decode cX12_text 11 = .ok (.getfield 76, 3) := by decide +kernel
theorem dX12_text_14 : decode cX12_text 14 = .ok (.if_icmp .le 6, 3) := by decide +kernel
theorem dX12_text_17 : decode cX12_text 17 = .ok (.bipush (-2), 2) := by decide +kernel
theorem dX12_text_19 : decode cX12_text 19 = .ok (.ireturn, 1) := by decide +kernel
theorem dX12_text_20 : decode cX12_text 20 = .ok (.aload_n 0, 1) := by decide +kernel
theorem dX12_text_21 : decode cX12_text 21 = .ok (.iload_n 1, 1) := by decide +kernel
theorem dX12_text_22 : decode cX12_text 22 = .ok (.invokevirtual 192, 3) := by decide +kernel
theorem dX12_text_25 : decode cX12_text 25 = .ok (.aload_n 0, 1) := by decide +kernel
theorem dX12_text_26 : decode cX12_text 26 = .ok (.iconst 0, 1) := by decide +kernel
theorem dX12_text_27 : decode cX12_text 27 = .ok (.putfield 76, 3) := by decide +kernel
theorem dX12_text_30 : decode cX12_text 30 = .ok (.aload_n 0, 1) := by decide +kernel
theorem dX12_text_31 : decode cX12_text 31 = .ok (.aload_n 0, 1) := by decide +kernel
theorem dX12_text_32 : decode cX12_text 32 = .ok (.getfield 119, 3) := by decide +kernel
theorem dX12_text_35 : decode cX12_text 35 = .ok (.putfield 195, 3) := by decide +kernel
theorem dX12_text_38 : decode cX12_text 38 = .ok (.aload_n 0, 1) := by decide +kernel
theorem dX12_text_39 : decode cX12_text 39 = .ok (.aload_n 0, 1) := by decide +kernel
theorem dX12_text_40 : decode cX12_text 40 = .ok (.getfield 119, 3) := by decide +kernel
theorem dX12_text_43 : decode cX12_text 43 = .ok (.ifCond .ne 7, 3) := by decide +kernel
theorem dX12_text_46 : decode cX12_text 46 = .ok (.iconst (-1), 1) := by decide +kernel
theorem dX12_text_47 : decode cX12_text 47 = .ok (.goto 7, 3) := by decide +kernel
theorem dX12_text_50 : decode cX12_text 50 = .ok (.aload_n 0, 1) := by decide +kernel
theorem dX12_text_51 : decode cX12_text 51 = .ok (.getfield 122, 3) := by decide +kernel
theorem dX12_text_54 : decode cX12_text 54 = .ok (.putfield 28, 3) := by decide +kernel
theorem dX12_text_57 : decode cX12_text 57 = .ok (.aload_n 0, 1) := by decide +kernel
theorem dX12_text_58 : decode cX12_text 58 = .ok (.getfield 119, 3) := by decide +kernel
theorem dX12_text_61 : decode cX12_text 61 = .ok (.ifCond .eq 5, 3) := by decide +kernel
theorem dX12_text_64 : decode cX12_text 64 = .ok (.iconst (-1), 1) := by decide +kernel
theorem dX12_text_65 : decode cX12_text 65 = .ok (.ireturn, 1) := by decide +kernel
theorem dX12_text_66 : decode cX12_text 66 = .ok (.aload_n 0, 1) := by decide +kernel
theorem dX12_text_67 : decode cX12_text 67 = .ok (.aload_n 0, 1) := by decide +kernel
theorem dX12_text_68 : decode cX12_text 68 = .ok (.getfield 132, 3) := by decide +kernel
theorem dX12_text_71 : decode cX12_text 71 = .ok (.ifCond .ne 7, 3) := by decide +kernel
theorem dX12_text_74 : decode cX12_text 74 = .ok (.iconst 2, 1) := by decide +kernel
theorem dX12_text_75 : decode cX12_text 75 = .ok (.goto 7, 3) := by decide +kernel
theorem dX12_text_78 : decode cX12_text 78 = .ok (.aload_n 0, 1) := by decide +kernel
theorem dX12_text_79 : decode cX12_text 79 = .ok (.getfield 132, 3) := by decide +kernel
theorem dX12_text_82 : decode cX12_text 82 = .ok (.putfield 64, 3) := by decide +kernel
theorem dX12_text_85 : decode cX12_text 85 = .ok (.aload_n 0, 1) := by decide +kernel
theorem dX12_text_86 : decode cX12_text 86 = .ok (.aload_n 0, 1) := by decide +kernel
theorem dX12_text_87 : decode cX12_text 87 = .ok (.getfield 152, 3) := by decide +kernel
theorem dX12_text_90 : decode cX12_text 90 = .ok (.putfield 198, 3) := by decide +kernel
theorem dX12_text_93 : decode cX12_text 93 = .ok (.iconst 0, 1) := by decide +kernel
theorem dX12_text_94 : decode cX12_text 94 = .ok (.istore_n 2, 1) := by decide +kernel
theorem dX12_text_95 : decode cX12_text 95 = .ok (.iload_n 2, 1) := by decide +kernel
theorem dX12_text_96 : decode cX12_text 96 = .ok (.aload_n 0, 1) := by decide +kernel
theorem dX12_text_97 : decode cX12_text 97 = .ok (.getfield 198, 3) := by decide +kernel
theorem dX12_text_100 : decode cX12_text 100 = .ok (.if_icmp .ge 33, 3) := by decide +kernel
theorem dX12_text_103 : decode cX12_text 103 = .ok (.aload_n 0, 1) := by decide +kernel
theorem dX12_text_104 : decode cX12_text 104 = .ok (.getfield 13, 3) := by decide +kernel
theorem dX12_text_107 : decode cX12_text 107 = .ok (.iload_n 2, 1) := by decide +kernel
theorem dX12_text_108 : decode cX12_text 108 = .ok (.aload_n 0, 1) := by decide +kernel
theorem dX12_text_109 : decode cX12_text 109 = .ok (.getfield 22, 3) := by decide +kernel
theorem dX12_text_112 : decode cX12_text 112 = .ok (.iload_n 2, 1) := by decide +kernel
theorem dX12_text_113 : decode cX12_text 113 = .ok (.iaload, 1) := by decide +kernel
theorem dX12_text_114 : decode cX12_text 114 = .ok (.iastore, 1) := by decide +kernel
theorem dX12_text_115 : decode cX12_text 115 = .ok (.aload_n 0, 1) := by decide +kernel
theorem dX12_text_116 : decode cX12_text 116 = .ok (.getfield 16, 3) := by decide +kernel
theorem dX12_text_119 : decode cX12_text 119 = .ok (.iload_n 2, 1) := by decide +kernel
theorem dX12_text_120 : decode cX12_text 120 = .ok (.aload_n 0, 1) := by decide +kernel
theorem dX12_text_121 : decode cX12_text 121 = .ok (.getfield 25, 3) := by decide +kernel
theorem dX12_text_124 : decode cX12_text 124 = .ok (.iload_n 2, 1) := by decide +kernel
theorem dX12_text_125 : decode cX12_text 125 = .ok (.iaload, 1) := by decide +kernel
theorem dX12_text_126 : decode cX12_text 126 = .ok (.iastore, 1) := by decide +kernel
theorem dX12_text_127 : decode cX12_text 127 = .ok (.iinc 2 1, 3) := by decide +kernel
theorem dX12_text_130 : decode cX12_text 130 = .ok (.goto (-35), 3) := by decide +kernel
theorem dX12_text_133 : decode cX12_text 133 = .ok (.aload_n 0, 1) := by decide +kernel
theorem dX12_text_134 : decode cX12_text 134 = .ok (.aload_n 0, 1) := by decide +kernel
theorem dX12_text_135 : decode cX12_text 135 = .ok (.getfield 155, 3) := by decide +kernel
theorem dX12_text_138 : decode cX12_text 138 = .ok (.putfield 201, 3) := by decide +kernel
theorem dX12_text_141 : decode cX12_text 141 = .ok (.aload_n 0, 1) := by decide +kernel
theorem dX12_text_142 : decode cX12_text 142 = .ok (.aload_n 0, 1) := by decide +kernel
theorem dX12_text_143 : decode cX12_text 143 = .ok (.getfield 158, 3) := by decide +kernel
theorem dX12_text_146 : decode cX12_text 146 = .ok (.putfield 204, 3) := by decide +kernel
theorem dX12_text_149 : decode cX12_text 149 = .ok (.aload_n 0, 1) := by decide +kernel
theorem dX12_text_150 : decode cX12_text 150 = .ok (.aload_n 0, 1) := by decide +kernel
theorem dX12_text_151 : decode cX12_text 151 = .ok (.getfield 149, 3) := by decide +kernel
theorem dX12_text_154 : decode cX12_text 154 = .ok (.putfield 207, 3) := by decide +kernel
theorem dX12_text_157 : decode cX12_text 157 = .ok (.aload_n 0, 1) := by decide +kernel
theorem dX12_text_158 : decode cX12_text 158 = .ok (.aload_n 0, 1) := by decide +kernel
theorem dX12_text_159 : decode cX12_text 159 = .ok (.getfield 138, 3) := by decide +kernel
theorem dX12_text_162 : decode cX12_text 162 = .ok (.putfield 67, 3) := by decide +kernel
theorem dX12_text_165 : decode cX12_text 165 = .ok (.aload_n 0, 1) := by decide +kernel
theorem dX12_text_166 : decode cX12_text 166 = .ok (.aload_n 0, 1) := by decide +kernel
theorem dX12_text_167 : decode cX12_text 167 = .ok (.getfield 167, 3) := by decide +kernel
theorem dX12_text_170 : decode cX12_text 170 = .ok (.putfield 70, 3) := by decide +kernel
theorem dX12_text_173 : decode cX12_text 173 = .ok (.aload_n 0, 1) := by decide +kernel
theorem dX12_text_174 : decode cX12_text 174 = .ok (.aload_n 0, 1) := by decide +kernel
theorem dX12_text_175 : decode cX12_text 175 = .ok (.getfield 186, 3) := by decide +kernel
theorem dX12_text_178 : decode cX12_text 178 = .ok (.putfield 210, 3) := by decide +kernel
theorem dX12_text_181 : decode cX12_text 181 = .ok (.aload_n 0, 1) := by decide +kernel
theorem dX12_text_182 : decode cX12_text 182 = .ok (.iconst 0, 1) := by decide +kernel
theorem dX12_text_183 : decode cX12_text 183 = .ok (.putfield 213, 3) := by decide +kernel
theorem dX12_text_186 : decode cX12_text 186 = .ok (.aload_n 0, 1) := by decide +kernel
theorem dX12_text_187 : decode cX12_text 187 = .ok (.getfield 210, 3) := by decide +kernel
theorem dX12_text_190 : decode cX12_text 190 = .ok (.ireturn, 1) := by decide +kernel
theorem dX12_fault_0 : decode cX12_fault 0 = .ok (.aload_n 0, 1) := by decide +kernel
theorem dX12_fault_1 : decode cX12_fault 1 = .ok (.iconst 0, 1) := by decide +kernel
theorem dX12_fault_2 : decode cX12_fault 2 = .ok (.putfield 73, 3) := by decide +kernel
theorem dX12_fault_5 : decode cX12_fault 5 = .ok (.iload_n 1, 1) := by decide +kernel
theorem dX12_fault_6 : decode cX12_fault 6 = .ok (.ifCond .ne 10, 3) := by decide +kernel
theorem dX12_fault_9 : decode cX12_fault 9 = .ok (.aload_n 0, 1) := by decide +kernel
theorem dX12_fault_10 : decode cX12_fault 10 = .ok (.getfield 195, 3) := by decide +kernel
theorem dX12_fault_13 : decode cX12_fault 13 = .ok (.goto 16, 3) := by decide +kernel
theorem dX12_fault_16 : decode cX12_fault 16 = .ok (.iload_n 1, 1) := by decide +kernel
theorem dX12_fault_17 : decode cX12_fault 17 = .ok (.iconst 1, 1) := by decide +kernel
theorem dX12_fault_18 : decode cX12_fault 18 = .ok (.if_icmp .ne 10, 3) := by decide +kernel
theorem dX12_fault_21 : decode cX12_fault 21 = .ok (.aload_n 0, 1) := by decide +kernel
theorem dX12_fault_22 : decode cX12_fault 22 = .ok (.getfield 28, 3) := by decide +kernel
theorem dX12_fault_25 : decode cX12_fault 25 = .ok (.goto 4, 3) := by decide +kernel
theorem dX12_fault_28 : decode cX12_fault 28 = .ok (.iconst (-1), 1) := by decide +kernel
theorem dX12_fault_29 : decode cX12_fault 29 = .ok (.ireturn, 1) := by decide +kernel
theorem dX12_merges_0 : decode cX12_merges 0 = .ok (.aload_n 0, 1) := by decide +kernel
theorem dX12_merges_1 : decode cX12_merges 1 = .ok (.getfield 32, 3) := by decide +kernel
theorem dX12_merges_4 : decode cX12_merges 4 = .ok (.iload_n 1, 1) := by decide +kernel
theorem dX12_merges_5 : decode cX12_merges 5 = .ok (.iaload, 1) := by decide +kernel
theorem dX12_merges_6 : decode cX12_merges 6 = .ok (.aload_n 0, 1) := by decide +kernel
theorem dX12_merges_7 : decode cX12_merges 7 = .ok (.getfield 32, 3) := by decide +kernel
theorem dX12_merges_10 : decode cX12_merges 10 = .ok (.iload_n 2, 1) := by decide +kernel
theorem dX12_merges_11 : decode cX12_merges 11 = .ok (.iaload, 1) := by decide +kernel
theorem dX12_merges_12 : decode cX12_merges 12 = .ok (.if_icmp .ge 12, 3) := by decide +kernel
theorem dX12_merges_15 : decode cX12_merges 15 = .ok (.aload_n 0, 1) := by decide +kernel
theorem dX12_merges_16 : decode cX12_merges 16 = .ok (.getfield 32, 3) := by decide +kernel
theorem dX12_merges_19 : decode cX12_merges 19 = .ok (.iload_n 1, 1) := by decide +kernel
theorem dX12_merges_20 : decode cX12_merges 20 = .ok (.iaload, 1) := by decide +kernel
theorem dX12_merges_21 : decode cX12_merges 21 = .ok (.goto 9, 3) := by decide +kernel
theorem dX12_merges_24 : decode cX12_merges 24 = .ok (.aload_n 0, 1) := by decide +kernel
theorem dX12_merges_25 : decode cX12_merges 25 = .ok (.getfield 32, 3) := by decide +kernel
theorem dX12_merges_28 : decode cX12_merges 28 = .ok (.iload_n 2, 1) := by decide +kernel
theorem dX12_merges_29 : decode cX12_merges 29 = .ok (.iaload, 1) := by decide +kernel
theorem dX12_merges_30 : decode cX12_merges 30 = .ok (.istore_n 3, 1) := by decide +kernel
theorem dX12_merges_31 : decode cX12_merges 31 = .ok (.aload_n 0, 1) := by decide +kernel
theorem dX12_merges_32 : decode cX12_merges 32 = .ok (.getfield 32, 3) := by decide +kernel
theorem dX12_merges_35 : decode cX12_merges 35 = .ok (.iload_n 1, 1) := by decide +kernel
theorem dX12_merges_36 : decode cX12_merges 36 = .ok (.iaload, 1) := by decide +kernel
theorem dX12_merges_37 : decode cX12_merges 37 = .ok (.aload_n 0, 1) := by decide +kernel
theorem dX12_merges_38 : decode cX12_merges 38 = .ok (.getfield 32, 3) := by decide +kernel
theorem dX12_merges_41 : decode cX12_merges 41 = .ok (.iload_n 2, 1) := by decide +kernel
theorem dX12_merges_42 : decode cX12_merges 42 = .ok (.iaload, 1) := by decide +kernel
theorem dX12_merges_43 : decode cX12_merges 43 = .ok (.if_icmp .ge 12, 3) := by decide +kernel
theorem dX12_merges_46 : decode cX12_merges 46 = .ok (.aload_n 0, 1) := by decide +kernel
theorem dX12_merges_47 : decode cX12_merges 47 = .ok (.getfield 32, 3) := by decide +kernel
theorem dX12_merges_50 : decode cX12_merges 50 = .ok (.iload_n 2, 1) := by decide +kernel
theorem dX12_merges_51 : decode cX12_merges 51 = .ok (.iaload, 1) := by decide +kernel
theorem dX12_merges_52 : decode cX12_merges 52 = .ok (.goto 9, 3) := by decide +kernel
theorem dX12_merges_55 : decode cX12_merges 55 = .ok (.aload_n 0, 1) := by decide +kernel
theorem dX12_merges_56 : decode cX12_merges 56 = .ok (.getfield 32, 3) := by decide +kernel
theorem dX12_merges_59 : decode cX12_merges 59 = .ok (.iload_n 1, 1) := by decide +kernel
theorem dX12_merges_60 : decode cX12_merges 60 = .ok (.iaload, 1) := by decide +kernel
theorem dX12_merges_61 : decode cX12_merges 61 = .ok (.istore 4, 2) := by decide +kernel
theorem dX12_merges_63 : decode cX12_merges 63 = .ok (.iconst 0, 1) := by decide +kernel
theorem dX12_merges_64 : decode cX12_merges 64 = .ok (.istore 5, 2) := by decide +kernel
theorem dX12_merges_66 : decode cX12_merges 66 = .ok (.iload 5, 2) := by decide +kernel
theorem dX12_merges_68 : decode cX12_merges 68 = .ok (.aload_n 0, 1) := by decide +kernel
theorem dX12_merges_69 : decode cX12_merges 69 = .ok (.getfield 64, 3) := by decide +kernel
theorem dX12_merges_72 : decode cX12_merges 72 = .ok (.if_icmp .ge 45, 3) := by decide +kernel
theorem dX12_merges_75 : decode cX12_merges 75 = .ok (.iload_n 3, 1) := by decide +kernel
theorem dX12_merges_76 : decode cX12_merges 76 = .ok (.iload 4, 2) := by decide +kernel
theorem dX12_merges_78 : decode cX12_merges 78 = .ok (.if_icmp .eq 39, 3) := by decide +kernel
theorem dX12_merges_81 : decode cX12_merges 81 = .ok (.aload_n 0, 1) := by decide +kernel
theorem dX12_merges_82 : decode cX12_merges 82 = .ok (.getfield 32, 3) := by decide +kernel
theorem dX12_merges_85 : decode cX12_merges 85 = .ok (.iload 5, 2) := by decide +kernel
theorem dX12_merges_87 : decode cX12_merges 87 = .ok (.aload_n 0, 1) := by decide +kernel
theorem dX12_merges_88 : decode cX12_merges 88 = .ok (.getfield 32, 3) := by decide +kernel
theorem dX12_merges_91 : decode cX12_merges 91 = .ok (.iload 5, 2) := by decide +kernel
theorem dX12_merges_93 : decode cX12_merges 93 = .ok (.iaload, 1) := by decide +kernel
theorem dX12_merges_94 : decode cX12_merges 94 = .ok (.iload 4, 2) := by decide +kernel
theorem dX12_merges_96 : decode cX12_merges 96 = .ok (.if_icmp .ne 7, 3) := by decide +kernel
theorem dX12_merges_99 : decode cX12_merges 99 = .ok (.iload_n 3, 1) := by decide +kernel
theorem dX12_merges_100 : decode cX12_merges 100 = .ok (.goto 10, 3) := by decide +kernel
theorem dX12_merges_103 : decode cX12_merges 103 = .ok (.aload_n 0, 1) := by decide +kernel
theorem dX12_merges_104 : decode cX12_merges 104 = .ok (.getfield 32, 3) := by decide +kernel
theorem dX12_merges_107 : decode cX12_merges 107 = .ok (.iload 5, 2) := by decide +kernel
theorem dX12_merges_109 : decode cX12_merges 109 = .ok (.iaload, 1) := by decide +kernel
theorem dX12_merges_110 : decode cX12_merges 110 = .ok (.iastore, 1) := by decide +kernel
theorem dX12_merges_111 : decode cX12_merges 111 = .ok (.iinc 5 1, 3) := by decide +kernel
theorem dX12_merges_114 : decode cX12_merges 114 = .ok (.goto (-48), 3) := by decide +kernel
theorem dX12_merges_117 : decode cX12_merges 117 = .ok (.return_, 1) := by decide +kernel
theorem dX12_laysParts_0 : decode cX12_laysParts 0 = .ok (.iconst 0, 1) := by decide +kernel
theorem dX12_laysParts_1 : decode cX12_laysParts 1 = .ok (.istore_n 2, 1) := by decide +kernel
theorem dX12_laysParts_2 : decode cX12_laysParts 2 = .ok (.iload_n 2, 1) := by decide +kernel
theorem dX12_laysParts_3 : decode cX12_laysParts 3 = .ok (.aload_n 0, 1) := by decide +kernel
theorem dX12_laysParts_4 : decode cX12_laysParts 4 = .ok (.getfield 64, 3) := by decide +kernel
theorem dX12_laysParts_7 : decode cX12_laysParts 7 = .ok (.if_icmp .ge 16, 3) := by decide +kernel
theorem dX12_laysParts_10 : decode cX12_laysParts 10 = .ok (.aload_n 0, 1) := by decide +kernel
theorem dX12_laysParts_11 : decode cX12_laysParts 11 = .ok (.getfield 32, 3) := by decide +kernel
theorem dX12_laysParts_14 : decode cX12_laysParts 14 = .ok (.iload_n 2, 1) := by decide +kernel
theorem dX12_laysParts_15 : decode cX12_laysParts 15 = .ok (.iload_n 2, 1) := by decide +kernel
theorem dX12_laysParts_16 : decode cX12_laysParts 16 = .ok (.iastore, 1) := by decide +kernel
theorem dX12_laysParts_17 : decode cX12_laysParts 17 = .ok (.iinc 2 1, 3) := by decide +kernel
theorem dX12_laysParts_20 : decode cX12_laysParts 20 = .ok (.goto (-18), 3) := by decide +kernel
theorem dX12_laysParts_23 : decode cX12_laysParts 23 = .ok (.iconst 0, 1) := by decide +kernel
theorem dX12_laysParts_24 : decode cX12_laysParts 24 = .ok (.istore_n 2, 1) := by decide +kernel
theorem dX12_laysParts_25 : decode cX12_laysParts 25 = .ok (.iload_n 2, 1) := by decide +kernel
theorem dX12_laysParts_26 : decode cX12_laysParts 26 = .ok (.aload_n 0, 1) := by decide +kernel
theorem dX12_laysParts_27 : decode cX12_laysParts 27 = .ok (.getfield 198, 3) := by decide +kernel
theorem dX12_laysParts_30 : decode cX12_laysParts 30 = .ok (.if_icmp .ge 34, 3) := by decide +kernel
theorem dX12_laysParts_33 : decode cX12_laysParts 33 = .ok (.iload_n 1, 1) := by decide +kernel
theorem dX12_laysParts_34 : decode cX12_laysParts 34 = .ok (.iload_n 2, 1) := by decide +kernel
theorem dX12_laysParts_35 : decode cX12_laysParts 35 = .ok (.ishr, 1) := by decide +kernel
theorem dX12_laysParts_36 : decode cX12_laysParts 36 = .ok (.iconst 1, 1) := by decide +kernel
theorem dX12_laysParts_37 : decode cX12_laysParts 37 = .ok (.iand, 1) := by decide +kernel
theorem dX12_laysParts_38 : decode cX12_laysParts 38 = .ok (.iconst 1, 1) := by decide +kernel
theorem dX12_laysParts_39 : decode cX12_laysParts 39 = .ok (.if_icmp .ne 19, 3) := by decide +kernel
theorem dX12_laysParts_42 : decode cX12_laysParts 42 = .ok (.aload_n 0, 1) := by decide +kernel
theorem dX12_laysParts_43 : decode cX12_laysParts 43 = .ok (.aload_n 0, 1) := by decide +kernel
theorem dX12_laysParts_44 : decode cX12_laysParts 44 = .ok (.getfield 13, 3) := by decide +kernel
theorem dX12_laysParts_47 : decode cX12_laysParts 47 = .ok (.iload_n 2, 1) := by decide +kernel
theorem dX12_laysParts_48 : decode cX12_laysParts 48 = .ok (.iaload, 1) := by decide +kernel
theorem dX12_laysParts_49 : decode cX12_laysParts 49 = .ok (.aload_n 0, 1) := by decide +kernel
theorem dX12_laysParts_50 : decode cX12_laysParts 50 = .ok (.getfield 16, 3) := by decide +kernel
theorem dX12_laysParts_53 : decode cX12_laysParts 53 = .ok (.iload_n 2, 1) := by decide +kernel
theorem dX12_laysParts_54 : decode cX12_laysParts 54 = .ok (.iaload, 1) := by decide +kernel
theorem dX12_laysParts_55 : decode cX12_laysParts 55 = .ok (.invokevirtual 216, 3) := by decide +kernel
theorem dX12_laysParts_58 : decode cX12_laysParts 58 = .ok (.iinc 2 1, 3) := by decide +kernel
theorem dX12_laysParts_61 : decode cX12_laysParts 61 = .ok (.goto (-36), 3) := by decide +kernel
theorem dX12_laysParts_64 : decode cX12_laysParts 64 = .ok (.return_, 1) := by decide +kernel
theorem dX12_hangs_0 : decode cX12_hangs 0 = .ok (.aload_n 0, 1) := by decide +kernel
theorem dX12_hangs_1 : decode cX12_hangs 1 = .ok (.iload_n 1, 1) := by decide +kernel
theorem dX12_hangs_2 : decode cX12_hangs 2 = .ok (.invokevirtual 220, 3) := by decide +kernel
theorem dX12_hangs_5 : decode cX12_hangs 5 = .ok (.aload_n 0, 1) := by decide +kernel
theorem dX12_hangs_6 : decode cX12_hangs 6 = .ok (.getfield 32, 3) := by decide +kernel
theorem dX12_hangs_9 : decode cX12_hangs 9 = .ok (.aload_n 0, 1) := by decide +kernel
theorem dX12_hangs_10 : decode cX12_hangs 10 = .ok (.getfield 207, 3) := by decide +kernel
theorem dX12_hangs_13 : decode cX12_hangs 13 = .ok (.iaload, 1) := by decide +kernel
theorem dX12_hangs_14 : decode cX12_hangs 14 = .ok (.aload_n 0, 1) := by decide +kernel
theorem dX12_hangs_15 : decode cX12_hangs 15 = .ok (.getfield 32, 3) := by decide +kernel
theorem dX12_hangs_18 : decode cX12_hangs 18 = .ok (.aload_n 0, 1) := by decide +kernel
theorem dX12_hangs_19 : decode cX12_hangs 19 = .ok (.getfield 67, 3) := by decide +kernel
theorem dX12_hangs_22 : decode cX12_hangs 22 = .ok (.iaload, 1) := by decide +kernel
theorem dX12_hangs_23 : decode cX12_hangs 23 = .ok (.if_icmp .ne 7, 3) := by decide +kernel
theorem dX12_hangs_26 : decode cX12_hangs 26 = .ok (.iconst 1, 1) := by decide +kernel
theorem dX12_hangs_27 : decode cX12_hangs 27 = .ok (.goto 4, 3) := by decide +kernel
theorem dX12_hangs_30 : decode cX12_hangs 30 = .ok (.iconst 0, 1) := by decide +kernel
theorem dX12_hangs_31 : decode cX12_hangs 31 = .ok (.ireturn, 1) := by decide +kernel
theorem dX12_all_0 : decode cX12_all 0 = .ok (.iconst 1, 1) := by decide +kernel
theorem dX12_all_1 : decode cX12_all 1 = .ok (.aload_n 0, 1) := by decide +kernel
theorem dX12_all_2 : decode cX12_all 2 = .ok (.getfield 198, 3) := by decide +kernel
theorem dX12_all_5 : decode cX12_all 5 = .ok (.ishl, 1) := by decide +kernel
theorem dX12_all_6 : decode cX12_all 6 = .ok (.iconst 1, 1) := by decide +kernel
theorem dX12_all_7 : decode cX12_all 7 = .ok (.isub, 1) := by decide +kernel
theorem dX12_all_8 : decode cX12_all 8 = .ok (.ireturn, 1) := by decide +kernel
theorem dX12_open_0 : decode cX12_open 0 = .ok (.aload_n 0, 1) := by decide +kernel
theorem dX12_open_1 : decode cX12_open 1 = .ok (.invokevirtual 223, 3) := by decide +kernel
theorem dX12_open_4 : decode cX12_open 4 = .ok (.iload_n 1, 1) := by decide +kernel
theorem dX12_open_5 : decode cX12_open 5 = .ok (.iconst (-1), 1) := by decide +kernel
theorem dX12_open_6 : decode cX12_open 6 = .ok (.ixor, 1) := by decide +kernel
theorem dX12_open_7 : decode cX12_open 7 = .ok (.iand, 1) := by decide +kernel
theorem dX12_open_8 : decode cX12_open 8 = .ok (.iload_n 2, 1) := by decide +kernel
theorem dX12_open_9 : decode cX12_open 9 = .ok (.iconst (-1), 1) := by decide +kernel
theorem dX12_open_10 : decode cX12_open 10 = .ok (.ixor, 1) := by decide +kernel
theorem dX12_open_11 : decode cX12_open 11 = .ok (.iand, 1) := by decide +kernel
theorem dX12_open_12 : decode cX12_open 12 = .ok (.ireturn, 1) := by decide +kernel
theorem dX12_openNow_0 : decode cX12_openNow 0 = .ok (.aload_n 0, 1) := by decide +kernel
theorem dX12_openNow_1 : decode cX12_openNow 1 = .ok (.aload_n 0, 1) := by decide +kernel
theorem dX12_openNow_2 : decode cX12_openNow 2 = .ok (.getfield 201, 3) := by decide +kernel
theorem dX12_openNow_5 : decode cX12_openNow 5 = .ok (.aload_n 0, 1) := by decide +kernel
theorem dX12_openNow_6 : decode cX12_openNow 6 = .ok (.getfield 204, 3) := by decide +kernel
theorem dX12_openNow_9 : decode cX12_openNow 9 = .ok (.invokevirtual 226, 3) := by decide +kernel
theorem dX12_openNow_12 : decode cX12_openNow 12 = .ok (.ireturn, 1) := by decide +kernel
theorem dX12_has_0 : decode cX12_has 0 = .ok (.aload_n 0, 1) := by decide +kernel
theorem dX12_has_1 : decode cX12_has 1 = .ok (.iload_n 1, 1) := by decide +kernel
theorem dX12_has_2 : decode cX12_has 2 = .ok (.invokevirtual 230, 3) := by decide +kernel
theorem dX12_has_5 : decode cX12_has 5 = .ok (.ifCond .eq 7, 3) := by decide +kernel
theorem dX12_has_8 : decode cX12_has 8 = .ok (.iconst 0, 1) := by decide +kernel
theorem dX12_has_9 : decode cX12_has 9 = .ok (.goto 23, 3) := by decide +kernel
theorem dX12_has_12 : decode cX12_has 12 = .ok (.aload_n 0, 1) := by decide +kernel
theorem dX12_has_13 : decode cX12_has 13 = .ok (.aload_n 0, 1) := by decide +kernel
theorem dX12_has_14 : decode cX12_has 14 = .ok (.invokevirtual 223, 3) := by decide +kernel
theorem dX12_has_17 : decode cX12_has 17 = .ok (.iload_n 2, 1) := by decide +kernel
theorem dX12_has_18 : decode cX12_has 18 = .ok (.iconst (-1), 1) := by decide +kernel
theorem dX12_has_19 : decode cX12_has 19 = .ok (.ixor, 1) := by decide +kernel
theorem dX12_has_20 : decode cX12_has 20 = .ok (.iand, 1) := by decide +kernel
theorem dX12_has_21 : decode cX12_has 21 = .ok (.invokevirtual 230, 3) := by decide +kernel
theorem dX12_has_24 : decode cX12_has 24 = .ok (.ifCond .eq 7, 3) := by decide +kernel
theorem dX12_has_27 : decode cX12_has 27 = .ok (.iconst 2, 1) := by decide +kernel
theorem dX12_has_28 : decode cX12_has 28 = .ok (.goto 4, 3) := by decide +kernel
theorem dX12_has_31 : decode cX12_has 31 = .ok (.iconst 1, 1) := by decide +kernel
theorem dX12_has_32 : decode cX12_has 32 = .ok (.ireturn, 1) := by decide +kernel
theorem dX12_laysPlaces_0 : decode cX12_laysPlaces 0 = .ok (.aload_n 0, 1) := by decide +kernel
theorem dX12_laysPlaces_1 : decode cX12_laysPlaces 1 = .ok (.iload_n 1, 1) := by decide +kernel
theorem dX12_laysPlaces_2 : decode cX12_laysPlaces 2 = .ok (.invokevirtual 220, 3) := by decide +kernel
theorem dX12_laysPlaces_5 : decode cX12_laysPlaces 5 = .ok (.iconst 0, 1) := by decide +kernel
theorem dX12_laysPlaces_6 : decode cX12_laysPlaces 6 = .ok (.istore_n 2, 1) := by decide +kernel
theorem dX12_laysPlaces_7 : decode cX12_laysPlaces 7 = .ok (.iload_n 2, 1) := by decide +kernel
theorem dX12_laysPlaces_8 : decode cX12_laysPlaces 8 = .ok (.aload_n 0, 1) := by decide +kernel
theorem dX12_laysPlaces_9 : decode cX12_laysPlaces 9 = .ok (.getfield 64, 3) := by decide +kernel
theorem dX12_laysPlaces_12 : decode cX12_laysPlaces 12 = .ok (.if_icmp .ge 21, 3) := by decide +kernel
theorem dX12_laysPlaces_15 : decode cX12_laysPlaces 15 = .ok (.aload_n 0, 1) := by decide +kernel
theorem dX12_laysPlaces_16 : decode cX12_laysPlaces 16 = .ok (.getfield 35, 3) := by decide +kernel
theorem dX12_laysPlaces_19 : decode cX12_laysPlaces 19 = .ok (.iload_n 2, 1) := by decide +kernel
theorem dX12_laysPlaces_20 : decode cX12_laysPlaces 20 = .ok (.aload_n 0, 1) := by decide +kernel
theorem dX12_laysPlaces_21 : decode cX12_laysPlaces 21 = .ok (.getfield 32, 3) := by decide +kernel
theorem dX12_laysPlaces_24 : decode cX12_laysPlaces 24 = .ok (.iload_n 2, 1) := by decide +kernel
theorem dX12_laysPlaces_25 : decode cX12_laysPlaces 25 = .ok (.iaload, 1) := by decide +kernel
theorem dX12_laysPlaces_26 : decode cX12_laysPlaces 26 = .ok (.iastore, 1) := by decide +kernel
theorem dX12_laysPlaces_27 : decode cX12_laysPlaces 27 = .ok (.iinc 2 1, 3) := by decide +kernel
theorem dX12_laysPlaces_30 : decode cX12_laysPlaces 30 = .ok (.goto (-23), 3) := by decide +kernel
theorem dX12_laysPlaces_33 : decode cX12_laysPlaces 33 = .ok (.return_, 1) := by decide +kernel
theorem dX12_placeBits_0 : decode cX12_placeBits 0 = .ok (.iconst 0, 1) := by decide +kernel
theorem dX12_placeBits_1 : decode cX12_placeBits 1 = .ok (.istore_n 1, 1) := by decide +kernel
theorem dX12_placeBits_2 : decode cX12_placeBits 2 = .ok (.iconst 0, 1) := by decide +kernel
theorem dX12_placeBits_3 : decode cX12_placeBits 3 = .ok (.istore_n 2, 1) := by decide +kernel
theorem dX12_placeBits_4 : decode cX12_placeBits 4 = .ok (.iload_n 2, 1) := by decide +kernel
theorem dX12_placeBits_5 : decode cX12_placeBits 5 = .ok (.aload_n 0, 1) := by decide +kernel
theorem dX12_placeBits_6 : decode cX12_placeBits 6 = .ok (.getfield 64, 3) := by decide +kernel
theorem dX12_placeBits_9 : decode cX12_placeBits 9 = .ok (.if_icmp .ge 20, 3) := by decide +kernel
theorem dX12_placeBits_12 : decode cX12_placeBits 12 = .ok (.iload_n 1, 1) := by decide +kernel
theorem dX12_placeBits_13 : decode cX12_placeBits 13 = .ok (.iconst 1, 1) := by decide +kernel
theorem dX12_placeBits_14 : decode cX12_placeBits 14 = .ok (.aload_n 0, 1) := by decide +kernel
theorem dX12_placeBits_15 : decode cX12_placeBits 15 = .ok (.getfield 35, 3) := by decide +kernel
theorem dX12_placeBits_18 : decode cX12_placeBits 18 = .ok (.iload_n 2, 1) := by decide +kernel
theorem dX12_placeBits_19 : decode cX12_placeBits 19 = .ok (.iaload, 1) := by decide +kernel
theorem dX12_placeBits_20 : decode cX12_placeBits 20 = .ok (.ishl, 1) := by decide +kernel
theorem dX12_placeBits_21 : decode cX12_placeBits 21 = .ok (.ior, 1) := by decide +kernel
theorem dX12_placeBits_22 : decode cX12_placeBits 22 = .ok (.istore_n 1, 1) := by decide +kernel
theorem dX12_placeBits_23 : decode cX12_placeBits 23 = .ok (.iinc 2 1, 3) := by decide +kernel
theorem dX12_placeBits_26 : decode cX12_placeBits 26 = .ok (.goto (-22), 3) := by decide +kernel
theorem dX12_placeBits_29 : decode cX12_placeBits 29 = .ok (.iload_n 1, 1) := by decide +kernel
theorem dX12_placeBits_30 : decode cX12_placeBits 30 = .ok (.ireturn, 1) := by decide +kernel
theorem dX12_within_0 : decode cX12_within 0 = .ok (.iconst 0, 1) := by decide +kernel
theorem dX12_within_1 : decode cX12_within 1 = .ok (.istore_n 3, 1) := by decide +kernel
theorem dX12_within_2 : decode cX12_within 2 = .ok (.iconst 0, 1) := by decide +kernel
theorem dX12_within_3 : decode cX12_within 3 = .ok (.istore 4, 2) := by decide +kernel
theorem dX12_within_5 : decode cX12_within 5 = .ok (.iload 4, 2) := by decide +kernel
theorem dX12_within_7 : decode cX12_within 7 = .ok (.aload_n 0, 1) := by decide +kernel
theorem dX12_within_8 : decode cX12_within 8 = .ok (.getfield 198, 3) := by decide +kernel
theorem dX12_within_11 : decode cX12_within 11 = .ok (.if_icmp .ge 109, 3) := by decide +kernel
theorem dX12_within_14 : decode cX12_within 14 = .ok (.iload_n 1, 1) := by decide +kernel
theorem dX12_within_15 : decode cX12_within 15 = .ok (.iload 4, 2) := by decide +kernel
theorem dX12_within_17 : decode cX12_within 17 = .ok (.ishr, 1) := by decide +kernel
theorem dX12_within_18 : decode cX12_within 18 = .ok (.iconst 1, 1) := by decide +kernel
theorem dX12_within_19 : decode cX12_within 19 = .ok (.iand, 1) := by decide +kernel
theorem dX12_within_20 : decode cX12_within 20 = .ok (.iconst 1, 1) := by decide +kernel
theorem dX12_within_21 : decode cX12_within 21 = .ok (.if_icmp .ne 74, 3) := by decide +kernel
theorem dX12_within_24 : decode cX12_within 24 = .ok (.aload_n 0, 1) := by decide +kernel
theorem dX12_within_25 : decode cX12_within 25 = .ok (.getfield 35, 3) := by decide +kernel
theorem dX12_within_28 : decode cX12_within 28 = .ok (.aload_n 0, 1) := by decide +kernel
theorem dX12_within_29 : decode cX12_within 29 = .ok (.getfield 13, 3) := by decide +kernel
theorem dX12_within_32 : decode cX12_within 32 = .ok (.iload 4, 2) := by decide +kernel
theorem dX12_within_34 : decode cX12_within 34 = .ok (.iaload, 1) := by decide +kernel
theorem dX12_within_35 : decode cX12_within 35 = .ok (.iaload, 1) := by decide +kernel
theorem dX12_within_36 : decode cX12_within 36 = .ok (.aload_n 0, 1) := by decide +kernel
theorem dX12_within_37 : decode cX12_within 37 = .ok (.getfield 35, 3) := by decide +kernel
theorem dX12_within_40 : decode cX12_within 40 = .ok (.aload_n 0, 1) := by decide +kernel
theorem dX12_within_41 : decode cX12_within 41 = .ok (.getfield 16, 3) := by decide +kernel
theorem dX12_within_44 : decode cX12_within 44 = .ok (.iload 4, 2) := by decide +kernel
theorem dX12_within_46 : decode cX12_within 46 = .ok (.iaload, 1) := by decide +kernel
theorem dX12_within_47 : decode cX12_within 47 = .ok (.iaload, 1) := by decide +kernel
theorem dX12_within_48 : decode cX12_within 48 = .ok (.if_icmp .eq 47, 3) := by decide +kernel
theorem dX12_within_51 : decode cX12_within 51 = .ok (.iload_n 2, 1) := by decide +kernel
theorem dX12_within_52 : decode cX12_within 52 = .ok (.aload_n 0, 1) := by decide +kernel
theorem dX12_within_53 : decode cX12_within 53 = .ok (.getfield 35, 3) := by decide +kernel
theorem dX12_within_56 : decode cX12_within 56 = .ok (.aload_n 0, 1) := by decide +kernel
theorem dX12_within_57 : decode cX12_within 57 = .ok (.getfield 13, 3) := by decide +kernel
theorem dX12_within_60 : decode cX12_within 60 = .ok (.iload 4, 2) := by decide +kernel
theorem dX12_within_62 : decode cX12_within 62 = .ok (.iaload, 1) := by decide +kernel
theorem dX12_within_63 : decode cX12_within 63 = .ok (.iaload, 1) := by decide +kernel
theorem dX12_within_64 : decode cX12_within 64 = .ok (.ishr, 1) := by decide +kernel
theorem dX12_within_65 : decode cX12_within 65 = .ok (.iconst 1, 1) := by decide +kernel
theorem dX12_within_66 : decode cX12_within 66 = .ok (.iand, 1) := by decide +kernel
theorem dX12_within_67 : decode cX12_within 67 = .ok (.iconst 1, 1) := by decide +kernel
theorem dX12_within_68 : decode cX12_within 68 = .ok (.if_icmp .ne 27, 3) := by decide +kernel
theorem dX12_within_71 : decode cX12_within 71 = .ok (.iload_n 2, 1) := by decide +kernel
theorem dX12_within_72 : decode cX12_within 72 = .ok (.aload_n 0, 1) := by decide +kernel
theorem dX12_within_73 : decode cX12_within 73 = .ok (.getfield 35, 3) := by decide +kernel
theorem dX12_within_76 : decode cX12_within 76 = .ok (.aload_n 0, 1) := by decide +kernel
theorem dX12_within_77 : decode cX12_within 77 = .ok (.getfield 16, 3) := by decide +kernel
theorem dX12_within_80 : decode cX12_within 80 = .ok (.iload 4, 2) := by decide +kernel
theorem dX12_within_82 : decode cX12_within 82 = .ok (.iaload, 1) := by decide +kernel
theorem dX12_within_83 : decode cX12_within 83 = .ok (.iaload, 1) := by decide +kernel
theorem dX12_within_84 : decode cX12_within 84 = .ok (.ishr, 1) := by decide +kernel
theorem dX12_within_85 : decode cX12_within 85 = .ok (.iconst 1, 1) := by decide +kernel
theorem dX12_within_86 : decode cX12_within 86 = .ok (.iand, 1) := by decide +kernel
theorem dX12_within_87 : decode cX12_within 87 = .ok (.iconst 1, 1) := by decide +kernel
theorem dX12_within_88 : decode cX12_within 88 = .ok (.if_icmp .ne 7, 3) := by decide +kernel
theorem dX12_within_91 : decode cX12_within 91 = .ok (.iconst 1, 1) := by decide +kernel
theorem dX12_within_92 : decode cX12_within 92 = .ok (.goto 4, 3) := by decide +kernel
theorem dX12_within_95 : decode cX12_within 95 = .ok (.iconst 0, 1) := by decide +kernel
theorem dX12_within_96 : decode cX12_within 96 = .ok (.istore 5, 2) := by decide +kernel
theorem dX12_within_98 : decode cX12_within 98 = .ok (.iload_n 3, 1) := by decide +kernel
theorem dX12_within_99 : decode cX12_within 99 = .ok (.iload 5, 2) := by decide +kernel
theorem dX12_within_101 : decode cX12_within 101 = .ok (.ifCond .eq 10, 3) := by decide +kernel
theorem dX12_within_104 : decode cX12_within 104 = .ok (.iconst 1, 1) := by decide +kernel
theorem dX12_within_105 : decode cX12_within 105 = .ok (.iload 4, 2) := by decide +kernel
theorem dX12_within_107 : decode cX12_within 107 = .ok (.ishl, 1) := by decide +kernel
theorem dX12_within_108 : decode cX12_within 108 = .ok (.goto 4, 3) := by decide +kernel
theorem dX12_within_111 : decode cX12_within 111 = .ok (.iconst 0, 1) := by decide +kernel
theorem dX12_within_112 : decode cX12_within 112 = .ok (.ior, 1) := by decide +kernel
theorem dX12_within_113 : decode cX12_within 113 = .ok (.istore_n 3, 1) := by decide +kernel
theorem dX12_within_114 : decode cX12_within 114 = .ok (.iinc 4 1, 3) := by decide +kernel
theorem dX12_within_117 : decode cX12_within 117 = .ok (.goto (-112), 3) := by decide +kernel
theorem dX12_within_120 : decode cX12_within 120 = .ok (.iload_n 3, 1) := by decide +kernel
theorem dX12_within_121 : decode cX12_within 121 = .ok (.ireturn, 1) := by decide +kernel
theorem dX12_isForest_0 : decode cX12_isForest 0 = .ok (.iconst 0, 1) := by decide +kernel
theorem dX12_isForest_1 : decode cX12_isForest 1 = .ok (.istore_n 2, 1) := by decide +kernel
theorem dX12_isForest_2 : decode cX12_isForest 2 = .ok (.iload_n 2, 1) := by decide +kernel
theorem dX12_isForest_3 : decode cX12_isForest 3 = .ok (.aload_n 0, 1) := by decide +kernel
theorem dX12_isForest_4 : decode cX12_isForest 4 = .ok (.getfield 64, 3) := by decide +kernel
theorem dX12_isForest_7 : decode cX12_isForest 7 = .ok (.if_icmp .ge 16, 3) := by decide +kernel
theorem dX12_isForest_10 : decode cX12_isForest 10 = .ok (.aload_n 0, 1) := by decide +kernel
theorem dX12_isForest_11 : decode cX12_isForest 11 = .ok (.getfield 38, 3) := by decide +kernel
theorem dX12_isForest_14 : decode cX12_isForest 14 = .ok (.iload_n 2, 1) := by decide +kernel
theorem dX12_isForest_15 : decode cX12_isForest 15 = .ok (.iload_n 2, 1) := by decide +kernel
theorem dX12_isForest_16 : decode cX12_isForest 16 = .ok (.iastore, 1) := by decide +kernel
theorem dX12_isForest_17 : decode cX12_isForest 17 = .ok (.iinc 2 1, 3) := by decide +kernel
theorem dX12_isForest_20 : decode cX12_isForest 20 = .ok (.goto (-18), 3) := by decide +kernel
theorem dX12_isForest_23 : decode cX12_isForest 23 = .ok (.iconst 0, 1) := by decide +kernel
theorem dX12_isForest_24 : decode cX12_isForest 24 = .ok (.istore_n 2, 1) := by decide +kernel
theorem dX12_isForest_25 : decode cX12_isForest 25 = .ok (.iload_n 2, 1) := by decide +kernel
theorem dX12_isForest_26 : decode cX12_isForest 26 = .ok (.aload_n 0, 1) := by decide +kernel
theorem dX12_isForest_27 : decode cX12_isForest 27 = .ok (.getfield 198, 3) := by decide +kernel
theorem dX12_isForest_30 : decode cX12_isForest 30 = .ok (.if_icmp .ge 111, 3) := by decide +kernel
theorem dX12_isForest_33 : decode cX12_isForest 33 = .ok (.iload_n 1, 1) := by decide +kernel
theorem dX12_isForest_34 : decode cX12_isForest 34 = .ok (.iload_n 2, 1) := by decide +kernel
theorem dX12_isForest_35 : decode cX12_isForest 35 = .ok (.ishr, 1) := by decide +kernel
theorem dX12_isForest_36 : decode cX12_isForest 36 = .ok (.iconst 1, 1) := by decide +kernel
theorem dX12_isForest_37 : decode cX12_isForest 37 = .ok (.iand, 1) := by decide +kernel
theorem dX12_isForest_38 : decode cX12_isForest 38 = .ok (.ifCond .ne 6, 3) := by decide +kernel
theorem dX12_isForest_41 : decode cX12_isForest 41 = .ok (.goto 94, 3) := by decide +kernel
theorem dX12_isForest_44 : decode cX12_isForest 44 = .ok (.aload_n 0, 1) := by decide +kernel
theorem dX12_isForest_45 : decode cX12_isForest 45 = .ok (.getfield 38, 3) := by decide +kernel
theorem dX12_isForest_48 : decode cX12_isForest 48 = .ok (.aload_n 0, 1) := by decide +kernel
theorem dX12_isForest_49 : decode cX12_isForest 49 = .ok (.getfield 35, 3) := by decide +kernel
theorem dX12_isForest_52 : decode cX12_isForest 52 = .ok (.aload_n 0, 1) := by decide +kernel
theorem dX12_isForest_53 : decode cX12_isForest 53 = .ok (.getfield 13, 3) := by decide +kernel
theorem dX12_isForest_56 : decode cX12_isForest 56 = .ok (.iload_n 2, 1) := by decide +kernel
theorem dX12_isForest_57 : decode cX12_isForest 57 = .ok (.iaload, 1) := by decide +kernel
theorem dX12_isForest_58 : decode cX12_isForest 58 = .ok (.iaload, 1) := by decide +kernel
theorem dX12_isForest_59 : decode cX12_isForest 59 = .ok (.iaload, 1) := by decide +kernel
theorem dX12_isForest_60 : decode cX12_isForest 60 = .ok (.istore_n 3, 1) := by decide +kernel
theorem dX12_isForest_61 : decode cX12_isForest 61 = .ok (.aload_n 0, 1) := by decide +kernel
theorem dX12_isForest_62 : decode cX12_isForest 62 = .ok (.getfield 38, 3) := by decide +kernel
theorem dX12_isForest_65 : decode cX12_isForest 65 = .ok (.aload_n 0, 1) := by decide +kernel
theorem dX12_isForest_66 : decode cX12_isForest 66 = .ok (.getfield 35, 3) := by decide +kernel
theorem dX12_isForest_69 : decode cX12_isForest 69 = .ok (.aload_n 0, 1) := by decide +kernel
theorem dX12_isForest_70 : decode cX12_isForest 70 = .ok (.getfield 16, 3) := by decide +kernel
theorem dX12_isForest_73 : decode cX12_isForest 73 = .ok (.iload_n 2, 1) := by decide +kernel
theorem dX12_isForest_74 : decode cX12_isForest 74 = .ok (.iaload, 1) := by decide +kernel
theorem dX12_isForest_75 : decode cX12_isForest 75 = .ok (.iaload, 1) := by decide +kernel
theorem dX12_isForest_76 : decode cX12_isForest 76 = .ok (.iaload, 1) := by decide +kernel
theorem dX12_isForest_77 : decode cX12_isForest 77 = .ok (.istore 4, 2) := by decide +kernel
theorem dX12_isForest_79 : decode cX12_isForest 79 = .ok (.iload_n 3, 1) := by decide +kernel
theorem dX12_isForest_80 : decode cX12_isForest 80 = .ok (.iload 4, 2) := by decide +kernel
theorem dX12_isForest_82 : decode cX12_isForest 82 = .ok (.if_icmp .ne 5, 3) := by decide +kernel
theorem dX12_isForest_85 : decode cX12_isForest 85 = .ok (.iconst 0, 1) := by decide +kernel
theorem dX12_isForest_86 : decode cX12_isForest 86 = .ok (.ireturn, 1) := by decide +kernel
theorem dX12_isForest_87 : decode cX12_isForest 87 = .ok (.iconst 0, 1) := by decide +kernel
theorem dX12_isForest_88 : decode cX12_isForest 88 = .ok (.istore 5, 2) := by decide +kernel
theorem dX12_isForest_90 : decode cX12_isForest 90 = .ok (.iload 5, 2) := by decide +kernel
theorem dX12_isForest_92 : decode cX12_isForest 92 = .ok (.aload_n 0, 1) := by decide +kernel
theorem dX12_isForest_93 : decode cX12_isForest 93 = .ok (.getfield 64, 3) := by decide +kernel
theorem dX12_isForest_96 : decode cX12_isForest 96 = .ok (.if_icmp .ge 39, 3) := by decide +kernel
theorem dX12_isForest_99 : decode cX12_isForest 99 = .ok (.aload_n 0, 1) := by decide +kernel
theorem dX12_isForest_100 : decode cX12_isForest 100 = .ok (.getfield 38, 3) := by decide +kernel
theorem dX12_isForest_103 : decode cX12_isForest 103 = .ok (.iload 5, 2) := by decide +kernel
theorem dX12_isForest_105 : decode cX12_isForest 105 = .ok (.aload_n 0, 1) := by decide +kernel
theorem dX12_isForest_106 : decode cX12_isForest 106 = .ok (.getfield 38, 3) := by decide +kernel
theorem dX12_isForest_109 : decode cX12_isForest 109 = .ok (.iload 5, 2) := by decide +kernel
theorem dX12_isForest_111 : decode cX12_isForest 111 = .ok (.iaload, 1) := by decide +kernel
theorem dX12_isForest_112 : decode cX12_isForest 112 = .ok (.iload 4, 2) := by decide +kernel
theorem dX12_isForest_114 : decode cX12_isForest 114 = .ok (.if_icmp .ne 7, 3) := by decide +kernel
theorem dX12_isForest_117 : decode cX12_isForest 117 = .ok (.iload_n 3, 1) := by decide +kernel
theorem dX12_isForest_118 : decode cX12_isForest 118 = .ok (.goto 10, 3) := by decide +kernel
theorem dX12_isForest_121 : decode cX12_isForest 121 = .ok (.aload_n 0, 1) := by decide +kernel
theorem dX12_isForest_122 : decode cX12_isForest 122 = .ok (.getfield 38, 3) := by decide +kernel
theorem dX12_isForest_125 : decode cX12_isForest 125 = .ok (.iload 5, 2) := by decide +kernel
theorem dX12_isForest_127 : decode cX12_isForest 127 = .ok (.iaload, 1) := by decide +kernel
theorem dX12_isForest_128 : decode cX12_isForest 128 = .ok (.iastore, 1) := by decide +kernel
theorem dX12_isForest_129 : decode cX12_isForest 129 = .ok (.iinc 5 1, 3) := by decide +kernel
theorem dX12_isForest_132 : decode cX12_isForest 132 = .ok (.goto (-42), 3) := by decide +kernel
theorem dX12_isForest_135 : decode cX12_isForest 135 = .ok (.iinc 2 1, 3) := by decide +kernel
theorem dX12_isForest_138 : decode cX12_isForest 138 = .ok (.goto (-113), 3) := by decide +kernel
theorem dX12_isForest_141 : decode cX12_isForest 141 = .ok (.iconst 1, 1) := by decide +kernel
theorem dX12_isForest_142 : decode cX12_isForest 142 = .ok (.ireturn, 1) := by decide +kernel
theorem dX12_rank_0 : decode cX12_rank 0 = .ok (.iconst 0, 1) := by decide +kernel
theorem dX12_rank_1 : decode cX12_rank 1 = .ok (.istore_n 2, 1) := by decide +kernel
theorem dX12_rank_2 : decode cX12_rank 2 = .ok (.iconst 0, 1) := by decide +kernel
theorem dX12_rank_3 : decode cX12_rank 3 = .ok (.istore_n 3, 1) := by decide +kernel
theorem dX12_rank_4 : decode cX12_rank 4 = .ok (.iconst 0, 1) := by decide +kernel
theorem dX12_rank_5 : decode cX12_rank 5 = .ok (.istore 4, 2) := by decide +kernel
theorem dX12_rank_7 : decode cX12_rank 7 = .ok (.iload 4, 2) := by decide +kernel
theorem dX12_rank_9 : decode cX12_rank 9 = .ok (.aload_n 0, 1) := by decide +kernel
theorem dX12_rank_10 : decode cX12_rank 10 = .ok (.getfield 198, 3) := by decide +kernel
theorem dX12_rank_13 : decode cX12_rank 13 = .ok (.if_icmp .ge 44, 3) := by decide +kernel
theorem dX12_rank_16 : decode cX12_rank 16 = .ok (.iload_n 1, 1) := by decide +kernel
theorem dX12_rank_17 : decode cX12_rank 17 = .ok (.iload 4, 2) := by decide +kernel
theorem dX12_rank_19 : decode cX12_rank 19 = .ok (.ishr, 1) := by decide +kernel
theorem dX12_rank_20 : decode cX12_rank 20 = .ok (.iconst 1, 1) := by decide +kernel
theorem dX12_rank_21 : decode cX12_rank 21 = .ok (.iand, 1) := by decide +kernel
theorem dX12_rank_22 : decode cX12_rank 22 = .ok (.ifCond .eq 29, 3) := by decide +kernel
theorem dX12_rank_25 : decode cX12_rank 25 = .ok (.aload_n 0, 1) := by decide +kernel
theorem dX12_rank_26 : decode cX12_rank 26 = .ok (.iload_n 3, 1) := by decide +kernel
theorem dX12_rank_27 : decode cX12_rank 27 = .ok (.iconst 1, 1) := by decide +kernel
theorem dX12_rank_28 : decode cX12_rank 28 = .ok (.iload 4, 2) := by decide +kernel
theorem dX12_rank_30 : decode cX12_rank 30 = .ok (.ishl, 1) := by decide +kernel
theorem dX12_rank_31 : decode cX12_rank 31 = .ok (.ior, 1) := by decide +kernel
theorem dX12_rank_32 : decode cX12_rank 32 = .ok (.invokevirtual 233, 3) := by decide +kernel
theorem dX12_rank_35 : decode cX12_rank 35 = .ok (.ifCond .ne 6, 3) := by decide +kernel
theorem dX12_rank_38 : decode cX12_rank 38 = .ok (.goto 13, 3) := by decide +kernel
theorem dX12_rank_41 : decode cX12_rank 41 = .ok (.iload_n 3, 1) := by decide +kernel
theorem dX12_rank_42 : decode cX12_rank 42 = .ok (.iconst 1, 1) := by decide +kernel
theorem dX12_rank_43 : decode cX12_rank 43 = .ok (.iload 4, 2) := by decide +kernel
theorem dX12_rank_45 : decode cX12_rank 45 = .ok (.ishl, 1) := by decide +kernel
theorem dX12_rank_46 : decode cX12_rank 46 = .ok (.ior, 1) := by decide +kernel
theorem dX12_rank_47 : decode cX12_rank 47 = .ok (.istore_n 3, 1) := by decide +kernel
theorem dX12_rank_48 : decode cX12_rank 48 = .ok (.iinc 2 1, 3) := by decide +kernel
theorem dX12_rank_51 : decode cX12_rank 51 = .ok (.iinc 4 1, 3) := by decide +kernel
theorem dX12_rank_54 : decode cX12_rank 54 = .ok (.goto (-47), 3) := by decide +kernel
theorem dX12_rank_57 : decode cX12_rank 57 = .ok (.iload_n 2, 1) := by decide +kernel
theorem dX12_rank_58 : decode cX12_rank 58 = .ok (.ireturn, 1) := by decide +kernel
theorem dX12_bits_0 : decode cX12_bits 0 = .ok (.iload_n 0, 1) := by decide +kernel
theorem dX12_bits_1 : decode cX12_bits 1 = .ok (.invokestatic 236, 3) := by decide +kernel
theorem dX12_bits_4 : decode cX12_bits 4 = .ok (.ireturn, 1) := by decide +kernel
theorem dX12_twoForests_0 : decode cX12_twoForests 0 = .ok (.aload_n 0, 1) := by decide +kernel
theorem dX12_twoForests_1 : decode cX12_twoForests 1 = .ok (.getfield 41, 3) := by decide +kernel
theorem dX12_twoForests_4 : decode cX12_twoForests 4 = .ok (.iconst 0, 1) := by decide +kernel
theorem dX12_twoForests_5 : decode cX12_twoForests 5 = .ok (.iconst 0, 1) := by decide +kernel
theorem dX12_twoForests_6 : decode cX12_twoForests 6 = .ok (.iastore, 1) := by decide +kernel
theorem dX12_twoForests_7 : decode cX12_twoForests 7 = .ok (.aload_n 0, 1) := by decide +kernel
theorem dX12_twoForests_8 : decode cX12_twoForests 8 = .ok (.getfield 41, 3) := by decide +kernel
theorem dX12_twoForests_11 : decode cX12_twoForests 11 = .ok (.iconst 1, 1) := by decide +kernel
theorem dX12_twoForests_12 : decode cX12_twoForests 12 = .ok (.iconst 0, 1) := by decide +kernel
theorem dX12_twoForests_13 : decode cX12_twoForests 13 = .ok (.iastore, 1) := by decide +kernel
theorem dX12_twoForests_14 : decode cX12_twoForests 14 = .ok (.iconst 0, 1) := by decide +kernel
theorem dX12_twoForests_15 : decode cX12_twoForests 15 = .ok (.istore_n 2, 1) := by decide +kernel
theorem dX12_twoForests_16 : decode cX12_twoForests 16 = .ok (.iconst 0, 1) := by decide +kernel
theorem dX12_twoForests_17 : decode cX12_twoForests 17 = .ok (.istore_n 3, 1) := by decide +kernel
theorem dX12_twoForests_18 : decode cX12_twoForests 18 = .ok (.iload_n 3, 1) := by decide +kernel
theorem dX12_twoForests_19 : decode cX12_twoForests 19 = .ok (.aload_n 0, 1) := by decide +kernel
theorem dX12_twoForests_20 : decode cX12_twoForests 20 = .ok (.getfield 198, 3) := by decide +kernel
theorem dX12_twoForests_23 : decode cX12_twoForests 23 = .ok (.if_icmp .ge 29, 3) := by decide +kernel
theorem dX12_twoForests_26 : decode cX12_twoForests 26 = .ok (.iload_n 1, 1) := by decide +kernel
theorem dX12_twoForests_27 : decode cX12_twoForests 27 = .ok (.iload_n 3, 1) := by decide +kernel
theorem dX12_twoForests_28 : decode cX12_twoForests 28 = .ok (.ishr, 1) := by decide +kernel
theorem dX12_twoForests_29 : decode cX12_twoForests 29 = .ok (.iconst 1, 1) := by decide +kernel
theorem dX12_twoForests_30 : decode cX12_twoForests 30 = .ok (.iand, 1) := by decide +kernel
theorem dX12_twoForests_31 : decode cX12_twoForests 31 = .ok (.iconst 1, 1) := by decide +kernel
theorem dX12_twoForests_32 : decode cX12_twoForests 32 = .ok (.if_icmp .ne 14, 3) := by decide +kernel
theorem dX12_twoForests_35 : decode cX12_twoForests 35 = .ok (.aload_n 0, 1) := by decide +kernel
theorem dX12_twoForests_36 : decode cX12_twoForests 36 = .ok (.iload_n 3, 1) := by decide +kernel
theorem dX12_twoForests_37 : decode cX12_twoForests 37 = .ok (.invokevirtual 241, 3) := by decide +kernel
theorem dX12_twoForests_40 : decode cX12_twoForests 40 = .ok (.ifCond .eq 6, 3) := by decide +kernel
theorem dX12_twoForests_43 : decode cX12_twoForests 43 = .ok (.iinc 2 1, 3) := by decide +kernel
theorem dX12_twoForests_46 : decode cX12_twoForests 46 = .ok (.iinc 3 1, 3) := by decide +kernel
theorem dX12_twoForests_49 : decode cX12_twoForests 49 = .ok (.goto (-31), 3) := by decide +kernel
theorem dX12_twoForests_52 : decode cX12_twoForests 52 = .ok (.iload_n 2, 1) := by decide +kernel
theorem dX12_twoForests_53 : decode cX12_twoForests 53 = .ok (.ireturn, 1) := by decide +kernel
theorem dX12_grows_0 : decode cX12_grows 0 = .ok (.iconst 1, 1) := by decide +kernel
theorem dX12_grows_1 : decode cX12_grows 1 = .ok (.iload_n 1, 1) := by decide +kernel
theorem dX12_grows_2 : decode cX12_grows 2 = .ok (.ishl, 1) := by decide +kernel
theorem dX12_grows_3 : decode cX12_grows 3 = .ok (.istore_n 2, 1) := by decide +kernel
theorem dX12_grows_4 : decode cX12_grows 4 = .ok (.iconst 1, 1) := by decide +kernel
theorem dX12_grows_5 : decode cX12_grows 5 = .ok (.istore_n 3, 1) := by decide +kernel
theorem dX12_grows_6 : decode cX12_grows 6 = .ok (.aload_n 0, 1) := by decide +kernel
theorem dX12_grows_7 : decode cX12_grows 7 = .ok (.getfield 44, 3) := by decide +kernel
theorem dX12_grows_10 : decode cX12_grows 10 = .ok (.iconst 0, 1) := by decide +kernel
theorem dX12_grows_11 : decode cX12_grows 11 = .ok (.iload_n 1, 1) := by decide +kernel
theorem dX12_grows_12 : decode cX12_grows 12 = .ok (.iastore, 1) := by decide +kernel
theorem dX12_grows_13 : decode cX12_grows 13 = .ok (.aload_n 0, 1) := by decide +kernel
theorem dX12_grows_14 : decode cX12_grows 14 = .ok (.getfield 47, 3) := by decide +kernel
theorem dX12_grows_17 : decode cX12_grows 17 = .ok (.iload_n 1, 1) := by decide +kernel
theorem dX12_grows_18 : decode cX12_grows 18 = .ok (.iconst (-1), 1) := by decide +kernel
theorem dX12_grows_19 : decode cX12_grows 19 = .ok (.iastore, 1) := by decide +kernel
theorem dX12_grows_20 : decode cX12_grows 20 = .ok (.iconst 0, 1) := by decide +kernel
theorem dX12_grows_21 : decode cX12_grows 21 = .ok (.istore 4, 2) := by decide +kernel
theorem dX12_grows_23 : decode cX12_grows 23 = .ok (.iload 4, 2) := by decide +kernel
theorem dX12_grows_25 : decode cX12_grows 25 = .ok (.iload_n 3, 1) := by decide +kernel
theorem dX12_grows_26 : decode cX12_grows 26 = .ok (.if_icmp .ge 201, 3) := by decide +kernel
theorem dX12_grows_29 : decode cX12_grows 29 = .ok (.aload_n 0, 1) := by decide +kernel
theorem dX12_grows_30 : decode cX12_grows 30 = .ok (.getfield 44, 3) := by decide +kernel
theorem dX12_grows_33 : decode cX12_grows 33 = .ok (.iload 4, 2) := by decide +kernel
theorem dX12_grows_35 : decode cX12_grows 35 = .ok (.iaload, 1) := by decide +kernel
theorem dX12_grows_36 : decode cX12_grows 36 = .ok (.istore 5, 2) := by decide +kernel
theorem dX12_grows_38 : decode cX12_grows 38 = .ok (.iconst 0, 1) := by decide +kernel
theorem dX12_grows_39 : decode cX12_grows 39 = .ok (.istore 6, 2) := by decide +kernel
theorem dX12_grows_41 : decode cX12_grows 41 = .ok (.iload 6, 2) := by decide +kernel
theorem dX12_grows_43 : decode cX12_grows 43 = .ok (.iconst 2, 1) := by decide +kernel
theorem dX12_grows_44 : decode cX12_grows 44 = .ok (.if_icmp .ge 177, 3) := by decide +kernel
theorem dX12_grows_47 : decode cX12_grows 47 = .ok (.aload_n 0, 1) := by decide +kernel
theorem dX12_grows_48 : decode cX12_grows 48 = .ok (.getfield 41, 3) := by decide +kernel
theorem dX12_grows_51 : decode cX12_grows 51 = .ok (.iload 6, 2) := by decide +kernel
theorem dX12_grows_53 : decode cX12_grows 53 = .ok (.iaload, 1) := by decide +kernel
theorem dX12_grows_54 : decode cX12_grows 54 = .ok (.iload 5, 2) := by decide +kernel
theorem dX12_grows_56 : decode cX12_grows 56 = .ok (.ishr, 1) := by decide +kernel
theorem dX12_grows_57 : decode cX12_grows 57 = .ok (.iconst 1, 1) := by decide +kernel
theorem dX12_grows_58 : decode cX12_grows 58 = .ok (.iand, 1) := by decide +kernel
theorem dX12_grows_59 : decode cX12_grows 59 = .ok (.iconst 1, 1) := by decide +kernel
theorem dX12_grows_60 : decode cX12_grows 60 = .ok (.if_icmp .ne 6, 3) := by decide +kernel
theorem dX12_grows_63 : decode cX12_grows 63 = .ok (.goto 152, 3) := by decide +kernel
theorem dX12_grows_66 : decode cX12_grows 66 = .ok (.aload_n 0, 1) := by decide +kernel
theorem dX12_grows_67 : decode cX12_grows 67 = .ok (.aload_n 0, 1) := by decide +kernel
theorem dX12_grows_68 : decode cX12_grows 68 = .ok (.getfield 41, 3) := by decide +kernel
theorem dX12_grows_71 : decode cX12_grows 71 = .ok (.iload 6, 2) := by decide +kernel
theorem dX12_grows_73 : decode cX12_grows 73 = .ok (.iaload, 1) := by decide +kernel
theorem dX12_grows_74 : decode cX12_grows 74 = .ok (.iconst 1, 1) := by decide +kernel
theorem dX12_grows_75 : decode cX12_grows 75 = .ok (.iload 5, 2) := by decide +kernel
theorem dX12_grows_77 : decode cX12_grows 77 = .ok (.ishl, 1) := by decide +kernel
theorem dX12_grows_78 : decode cX12_grows 78 = .ok (.ior, 1) := by decide +kernel
theorem dX12_grows_79 : decode cX12_grows 79 = .ok (.invokevirtual 233, 3) := by decide +kernel
theorem dX12_grows_82 : decode cX12_grows 82 = .ok (.ifCond .eq 13, 3) := by decide +kernel
theorem dX12_grows_85 : decode cX12_grows 85 = .ok (.aload_n 0, 1) := by decide +kernel
theorem dX12_grows_86 : decode cX12_grows 86 = .ok (.iload 5, 2) := by decide +kernel
theorem dX12_grows_88 : decode cX12_grows 88 = .ok (.iload 6, 2) := by decide +kernel
theorem dX12_grows_90 : decode cX12_grows 90 = .ok (.invokevirtual 244, 3) := by decide +kernel
theorem dX12_grows_93 : decode cX12_grows 93 = .ok (.iconst 1, 1) := by decide +kernel
theorem dX12_grows_94 : decode cX12_grows 94 = .ok (.ireturn, 1) := by decide +kernel
theorem dX12_grows_95 : decode cX12_grows 95 = .ok (.iconst 0, 1) := by decide +kernel
theorem dX12_grows_96 : decode cX12_grows 96 = .ok (.istore 7, 2) := by decide +kernel
theorem dX12_grows_98 : decode cX12_grows 98 = .ok (.iload 7, 2) := by decide +kernel
theorem dX12_grows_100 : decode cX12_grows 100 = .ok (.aload_n 0, 1) := by decide +kernel
theorem dX12_grows_101 : decode cX12_grows 101 = .ok (.getfield 198, 3) := by decide +kernel
theorem dX12_grows_104 : decode cX12_grows 104 = .ok (.if_icmp .ge 111, 3) := by decide +kernel
theorem dX12_grows_107 : decode cX12_grows 107 = .ok (.aload_n 0, 1) := by decide +kernel
theorem dX12_grows_108 : decode cX12_grows 108 = .ok (.getfield 41, 3) := by decide +kernel
theorem dX12_grows_111 : decode cX12_grows 111 = .ok (.iload 6, 2) := by decide +kernel
theorem dX12_grows_113 : decode cX12_grows 113 = .ok (.iaload, 1) := by decide +kernel
theorem dX12_grows_114 : decode cX12_grows 114 = .ok (.iload 7, 2) := by decide +kernel
theorem dX12_grows_116 : decode cX12_grows 116 = .ok (.ishr, 1) := by decide +kernel
theorem dX12_grows_117 : decode cX12_grows 117 = .ok (.iconst 1, 1) := by decide +kernel
theorem dX12_grows_118 : decode cX12_grows 118 = .ok (.iand, 1) := by decide +kernel
theorem dX12_grows_119 : decode cX12_grows 119 = .ok (.iconst 1, 1) := by decide +kernel
theorem dX12_grows_120 : decode cX12_grows 120 = .ok (.if_icmp .ne 42, 3) := by decide +kernel
theorem dX12_grows_123 : decode cX12_grows 123 = .ok (.iload_n 2, 1) := by decide +kernel
theorem dX12_grows_124 : decode cX12_grows 124 = .ok (.iload 7, 2) := by decide +kernel
theorem dX12_grows_126 : decode cX12_grows 126 = .ok (.ishr, 1) := by decide +kernel
theorem dX12_grows_127 : decode cX12_grows 127 = .ok (.iconst 1, 1) := by decide +kernel
theorem dX12_grows_128 : decode cX12_grows 128 = .ok (.iand, 1) := by decide +kernel
theorem dX12_grows_129 : decode cX12_grows 129 = .ok (.ifCond .ne 33, 3) := by decide +kernel
theorem dX12_grows_132 : decode cX12_grows 132 = .ok (.aload_n 0, 1) := by decide +kernel
theorem dX12_grows_133 : decode cX12_grows 133 = .ok (.aload_n 0, 1) := by decide +kernel
theorem dX12_grows_134 : decode cX12_grows 134 = .ok (.getfield 41, 3) := by decide +kernel
theorem dX12_grows_137 : decode cX12_grows 137 = .ok (.iload 6, 2) := by decide +kernel
theorem dX12_grows_139 : decode cX12_grows 139 = .ok (.iaload, 1) := by decide +kernel
theorem dX12_grows_140 : decode cX12_grows 140 = .ok (.iconst 1, 1) := by decide +kernel
theorem dX12_grows_141 : decode cX12_grows 141 = .ok (.iload 7, 2) := by decide +kernel
theorem dX12_grows_143 : decode cX12_grows 143 = .ok (.ishl, 1) := by decide +kernel
theorem dX12_grows_144 : decode cX12_grows 144 = .ok (.iconst (-1), 1) := by decide +kernel
theorem dX12_grows_145 : decode cX12_grows 145 = .ok (.ixor, 1) := by decide +kernel
theorem dX12_grows_146 : decode cX12_grows 146 = .ok (.iand, 1) := by decide +kernel
theorem dX12_grows_147 : decode cX12_grows 147 = .ok (.iconst 1, 1) := by decide +kernel
theorem dX12_grows_148 : decode cX12_grows 148 = .ok (.iload 5, 2) := by decide +kernel
theorem dX12_grows_150 : decode cX12_grows 150 = .ok (.ishl, 1) := by decide +kernel
theorem dX12_grows_151 : decode cX12_grows 151 = .ok (.ior, 1) := by decide +kernel
theorem dX12_grows_152 : decode cX12_grows 152 = .ok (.invokevirtual 233, 3) := by decide +kernel
theorem dX12_grows_155 : decode cX12_grows 155 = .ok (.ifCond .eq 7, 3) := by decide +kernel
theorem dX12_grows_158 : decode cX12_grows 158 = .ok (.iconst 1, 1) := by decide +kernel
theorem dX12_grows_159 : decode cX12_grows 159 = .ok (.goto 4, 3) := by decide +kernel
theorem dX12_grows_162 : decode cX12_grows 162 = .ok (.iconst 0, 1) := by decide +kernel
theorem dX12_grows_163 : decode cX12_grows 163 = .ok (.istore 8, 2) := by decide +kernel
theorem dX12_grows_165 : decode cX12_grows 165 = .ok (.iload 8, 2) := by decide +kernel
theorem dX12_grows_167 : decode cX12_grows 167 = .ok (.ifCond .ne 6, 3) := by decide +kernel
theorem dX12_grows_170 : decode cX12_grows 170 = .ok (.goto 39, 3) := by decide +kernel
theorem dX12_grows_173 : decode cX12_grows 173 = .ok (.iload_n 2, 1) := by decide +kernel
theorem dX12_grows_174 : decode cX12_grows 174 = .ok (.iconst 1, 1) := by decide +kernel
theorem dX12_grows_175 : decode cX12_grows 175 = .ok (.iload 7, 2) := by decide +kernel
theorem dX12_grows_177 : decode cX12_grows 177 = .ok (.ishl, 1) := by decide +kernel
theorem dX12_grows_178 : decode cX12_grows 178 = .ok (.ior, 1) := by decide +kernel
theorem dX12_grows_179 : decode cX12_grows 179 = .ok (.istore_n 2, 1) := by decide +kernel
theorem dX12_grows_180 : decode cX12_grows 180 = .ok (.aload_n 0, 1) := by decide +kernel
theorem dX12_grows_181 : decode cX12_grows 181 = .ok (.getfield 47, 3) := by decide +kernel
theorem dX12_grows_184 : decode cX12_grows 184 = .ok (.iload 7, 2) := by decide +kernel
theorem dX12_grows_186 : decode cX12_grows 186 = .ok (.iload 5, 2) := by decide +kernel
theorem dX12_grows_188 : decode cX12_grows 188 = .ok (.iastore, 1) := by decide +kernel
theorem dX12_grows_189 : decode cX12_grows 189 = .ok (.aload_n 0, 1) := by decide +kernel
theorem dX12_grows_190 : decode cX12_grows 190 = .ok (.getfield 50, 3) := by decide +kernel
theorem dX12_grows_193 : decode cX12_grows 193 = .ok (.iload 7, 2) := by decide +kernel
theorem dX12_grows_195 : decode cX12_grows 195 = .ok (.iload 6, 2) := by decide +kernel
theorem dX12_grows_197 : decode cX12_grows 197 = .ok (.iastore, 1) := by decide +kernel
theorem dX12_grows_198 : decode cX12_grows 198 = .ok (.aload_n 0, 1) := by decide +kernel
theorem dX12_grows_199 : decode cX12_grows 199 = .ok (.getfield 44, 3) := by decide +kernel
theorem dX12_grows_202 : decode cX12_grows 202 = .ok (.iload_n 3, 1) := by decide +kernel
theorem dX12_grows_203 : decode cX12_grows 203 = .ok (.iload 7, 2) := by decide +kernel
theorem dX12_grows_205 : decode cX12_grows 205 = .ok (.iastore, 1) := by decide +kernel
theorem dX12_grows_206 : decode cX12_grows 206 = .ok (.iinc 3 1, 3) := by decide +kernel
theorem dX12_grows_209 : decode cX12_grows 209 = .ok (.iinc 7 1, 3) := by decide +kernel
theorem dX12_grows_212 : decode cX12_grows 212 = .ok (.goto (-114), 3) := by decide +kernel
theorem dX12_grows_215 : decode cX12_grows 215 = .ok (.iinc 6 1, 3) := by decide +kernel
theorem dX12_grows_218 : decode cX12_grows 218 = .ok (.goto (-177), 3) := by decide +kernel
theorem dX12_grows_221 : decode cX12_grows 221 = .ok (.iinc 4 1, 3) := by decide +kernel
theorem dX12_grows_224 : decode cX12_grows 224 = .ok (.goto (-201), 3) := by decide +kernel
theorem dX12_grows_227 : decode cX12_grows 227 = .ok (.iconst 0, 1) := by decide +kernel
theorem dX12_grows_228 : decode cX12_grows 228 = .ok (.ireturn, 1) := by decide +kernel
theorem dX12_settles_0 : decode cX12_settles 0 = .ok (.iload_n 1, 1) := by decide +kernel
theorem dX12_settles_1 : decode cX12_settles 1 = .ok (.istore_n 3, 1) := by decide +kernel
theorem dX12_settles_2 : decode cX12_settles 2 = .ok (.iload_n 2, 1) := by decide +kernel
theorem dX12_settles_3 : decode cX12_settles 3 = .ok (.istore 4, 2) := by decide +kernel
theorem dX12_settles_5 : decode cX12_settles 5 = .ok (.iload_n 3, 1) := by decide +kernel
theorem dX12_settles_6 : decode cX12_settles 6 = .ok (.iconst (-1), 1) := by decide +kernel
theorem dX12_settles_7 : decode cX12_settles 7 = .ok (.if_icmp .eq 63, 3) := by decide +kernel
theorem dX12_settles_10 : decode cX12_settles 10 = .ok (.aload_n 0, 1) := by decide +kernel
theorem dX12_settles_11 : decode cX12_settles 11 = .ok (.getfield 47, 3) := by decide +kernel
theorem dX12_settles_14 : decode cX12_settles 14 = .ok (.iload_n 3, 1) := by decide +kernel
theorem dX12_settles_15 : decode cX12_settles 15 = .ok (.iaload, 1) := by decide +kernel
theorem dX12_settles_16 : decode cX12_settles 16 = .ok (.istore 5, 2) := by decide +kernel
theorem dX12_settles_18 : decode cX12_settles 18 = .ok (.aload_n 0, 1) := by decide +kernel
theorem dX12_settles_19 : decode cX12_settles 19 = .ok (.getfield 50, 3) := by decide +kernel
theorem dX12_settles_22 : decode cX12_settles 22 = .ok (.iload_n 3, 1) := by decide +kernel
theorem dX12_settles_23 : decode cX12_settles 23 = .ok (.iaload, 1) := by decide +kernel
theorem dX12_settles_24 : decode cX12_settles 24 = .ok (.istore 6, 2) := by decide +kernel
theorem dX12_settles_26 : decode cX12_settles 26 = .ok (.iload 5, 2) := by decide +kernel
theorem dX12_settles_28 : decode cX12_settles 28 = .ok (.iconst (-1), 1) := by decide +kernel
theorem dX12_settles_29 : decode cX12_settles 29 = .ok (.if_icmp .eq 18, 3) := by decide +kernel
theorem dX12_settles_32 : decode cX12_settles 32 = .ok (.aload_n 0, 1) := by decide +kernel
theorem dX12_settles_33 : decode cX12_settles 33 = .ok (.getfield 41, 3) := by decide +kernel
theorem dX12_settles_36 : decode cX12_settles 36 = .ok (.iload 6, 2) := by decide +kernel
theorem dX12_settles_38 : decode cX12_settles 38 = .ok (.dup2, 1) := by decide +kernel
theorem dX12_settles_39 : decode cX12_settles 39 = .ok (.iaload, 1) := by decide +kernel
theorem dX12_settles_40 : decode cX12_settles 40 = .ok (.iconst 1, 1) := by decide +kernel
theorem dX12_settles_41 : decode cX12_settles 41 = .ok (.iload_n 3, 1) := by decide +kernel
theorem dX12_settles_42 : decode cX12_settles 42 = .ok (.ishl, 1) := by decide +kernel
theorem dX12_settles_43 : decode cX12_settles 43 = .ok (.iconst (-1), 1) := by decide +kernel
theorem dX12_settles_44 : decode cX12_settles 44 = .ok (.ixor, 1) := by decide +kernel
theorem dX12_settles_45 : decode cX12_settles 45 = .ok (.iand, 1) := by decide +kernel
theorem dX12_settles_46 : decode cX12_settles 46 = .ok (.iastore, 1) := by decide +kernel
theorem dX12_settles_47 : decode cX12_settles 47 = .ok (.aload_n 0, 1) := by decide +kernel
theorem dX12_settles_48 : decode cX12_settles 48 = .ok (.getfield 41, 3) := by decide +kernel
theorem dX12_settles_51 : decode cX12_settles 51 = .ok (.iload 4, 2) := by decide +kernel
theorem dX12_settles_53 : decode cX12_settles 53 = .ok (.dup2, 1) := by decide +kernel
theorem dX12_settles_54 : decode cX12_settles 54 = .ok (.iaload, 1) := by decide +kernel
theorem dX12_settles_55 : decode cX12_settles 55 = .ok (.iconst 1, 1) := by decide +kernel
theorem dX12_settles_56 : decode cX12_settles 56 = .ok (.iload_n 3, 1) := by decide +kernel
theorem dX12_settles_57 : decode cX12_settles 57 = .ok (.ishl, 1) := by decide +kernel
theorem dX12_settles_58 : decode cX12_settles 58 = .ok (.ior, 1) := by decide +kernel
theorem dX12_settles_59 : decode cX12_settles 59 = .ok (.iastore, 1) := by decide +kernel
theorem dX12_settles_60 : decode cX12_settles 60 = .ok (.iload 6, 2) := by decide +kernel
theorem dX12_settles_62 : decode cX12_settles 62 = .ok (.istore 4, 2) := by decide +kernel
theorem dX12_settles_64 : decode cX12_settles 64 = .ok (.iload 5, 2) := by decide +kernel
theorem dX12_settles_66 : decode cX12_settles 66 = .ok (.istore_n 3, 1) := by decide +kernel
theorem dX12_settles_67 : decode cX12_settles 67 = .ok (.goto (-62), 3) := by decide +kernel
theorem dX12_settles_70 : decode cX12_settles 70 = .ok (.return_, 1) := by decide +kernel
theorem dX12_hasTwo_0 : decode cX12_hasTwo 0 = .ok (.aload_n 0, 1) := by decide +kernel
theorem dX12_hasTwo_1 : decode cX12_hasTwo 1 = .ok (.iload_n 1, 1) := by decide +kernel
theorem dX12_hasTwo_2 : decode cX12_hasTwo 2 = .ok (.iload_n 2, 1) := by decide +kernel
theorem dX12_hasTwo_3 : decode cX12_hasTwo 3 = .ok (.invokevirtual 247, 3) := by decide +kernel
theorem dX12_hasTwo_6 : decode cX12_hasTwo 6 = .ok (.istore_n 3, 1) := by decide +kernel
theorem dX12_hasTwo_7 : decode cX12_hasTwo 7 = .ok (.iconst 2, 1) := by decide +kernel
theorem dX12_hasTwo_8 : decode cX12_hasTwo 8 = .ok (.iload_n 2, 1) := by decide +kernel
theorem dX12_hasTwo_9 : decode cX12_hasTwo 9 = .ok (.invokestatic 250, 3) := by decide +kernel
theorem dX12_hasTwo_12 : decode cX12_hasTwo 12 = .ok (.iconst 1, 1) := by decide +kernel
theorem dX12_hasTwo_13 : decode cX12_hasTwo 13 = .ok (.isub, 1) := by decide +kernel
theorem dX12_hasTwo_14 : decode cX12_hasTwo 14 = .ok (.imul, 1) := by decide +kernel
theorem dX12_hasTwo_15 : decode cX12_hasTwo 15 = .ok (.istore 4, 2) := by decide +kernel
theorem dX12_hasTwo_17 : decode cX12_hasTwo 17 = .ok (.iload_n 3, 1) := by decide +kernel
theorem dX12_hasTwo_18 : decode cX12_hasTwo 18 = .ok (.invokestatic 250, 3) := by decide +kernel
theorem dX12_hasTwo_21 : decode cX12_hasTwo 21 = .ok (.iload 4, 2) := by decide +kernel
theorem dX12_hasTwo_23 : decode cX12_hasTwo 23 = .ok (.if_icmp .lt 17, 3) := by decide +kernel
theorem dX12_hasTwo_26 : decode cX12_hasTwo 26 = .ok (.aload_n 0, 1) := by decide +kernel
theorem dX12_hasTwo_27 : decode cX12_hasTwo 27 = .ok (.iload_n 3, 1) := by decide +kernel
theorem dX12_hasTwo_28 : decode cX12_hasTwo 28 = .ok (.invokevirtual 253, 3) := by decide +kernel
theorem dX12_hasTwo_31 : decode cX12_hasTwo 31 = .ok (.iload 4, 2) := by decide +kernel
theorem dX12_hasTwo_33 : decode cX12_hasTwo 33 = .ok (.if_icmp .ne 7, 3) := by decide +kernel
theorem dX12_hasTwo_36 : decode cX12_hasTwo 36 = .ok (.iconst 1, 1) := by decide +kernel
theorem dX12_hasTwo_37 : decode cX12_hasTwo 37 = .ok (.goto 4, 3) := by decide +kernel
theorem dX12_hasTwo_40 : decode cX12_hasTwo 40 = .ok (.iconst 0, 1) := by decide +kernel
theorem dX12_hasTwo_41 : decode cX12_hasTwo 41 = .ok (.ireturn, 1) := by decide +kernel
theorem dX12_endBits_0 : decode cX12_endBits 0 = .ok (.iconst 1, 1) := by decide +kernel
theorem dX12_endBits_1 : decode cX12_endBits 1 = .ok (.aload_n 0, 1) := by decide +kernel
theorem dX12_endBits_2 : decode cX12_endBits 2 = .ok (.getfield 35, 3) := by decide +kernel
theorem dX12_endBits_5 : decode cX12_endBits 5 = .ok (.aload_n 0, 1) := by decide +kernel
theorem dX12_endBits_6 : decode cX12_endBits 6 = .ok (.getfield 207, 3) := by decide +kernel
theorem dX12_endBits_9 : decode cX12_endBits 9 = .ok (.iaload, 1) := by decide +kernel
theorem dX12_endBits_10 : decode cX12_endBits 10 = .ok (.ishl, 1) := by decide +kernel
theorem dX12_endBits_11 : decode cX12_endBits 11 = .ok (.iconst 1, 1) := by decide +kernel
theorem dX12_endBits_12 : decode cX12_endBits 12 = .ok (.aload_n 0, 1) := by decide +kernel
theorem dX12_endBits_13 : decode cX12_endBits 13 = .ok (.getfield 35, 3) := by decide +kernel
theorem dX12_endBits_16 : decode cX12_endBits 16 = .ok (.aload_n 0, 1) := by decide +kernel
theorem dX12_endBits_17 : decode cX12_endBits 17 = .ok (.getfield 67, 3) := by decide +kernel
theorem dX12_endBits_20 : decode cX12_endBits 20 = .ok (.iaload, 1) := by decide +kernel
theorem dX12_endBits_21 : decode cX12_endBits 21 = .ok (.ishl, 1) := by decide +kernel
theorem dX12_endBits_22 : decode cX12_endBits 22 = .ok (.ior, 1) := by decide +kernel
theorem dX12_endBits_23 : decode cX12_endBits 23 = .ok (.ireturn, 1) := by decide +kernel
theorem dX12_isSafe_0 : decode cX12_isSafe 0 = .ok (.aload_n 0, 1) := by decide +kernel
theorem dX12_isSafe_1 : decode cX12_isSafe 1 = .ok (.iload_n 1, 1) := by decide +kernel
theorem dX12_isSafe_2 : decode cX12_isSafe 2 = .ok (.invokevirtual 256, 3) := by decide +kernel
theorem dX12_isSafe_5 : decode cX12_isSafe 5 = .ok (.aload_n 0, 1) := by decide +kernel
theorem dX12_isSafe_6 : decode cX12_isSafe 6 = .ok (.getfield 35, 3) := by decide +kernel
theorem dX12_isSafe_9 : decode cX12_isSafe 9 = .ok (.aload_n 0, 1) := by decide +kernel
theorem dX12_isSafe_10 : decode cX12_isSafe 10 = .ok (.getfield 207, 3) := by decide +kernel
theorem dX12_isSafe_13 : decode cX12_isSafe 13 = .ok (.iaload, 1) := by decide +kernel
theorem dX12_isSafe_14 : decode cX12_isSafe 14 = .ok (.aload_n 0, 1) := by decide +kernel
theorem dX12_isSafe_15 : decode cX12_isSafe 15 = .ok (.getfield 35, 3) := by decide +kernel
theorem dX12_isSafe_18 : decode cX12_isSafe 18 = .ok (.aload_n 0, 1) := by decide +kernel
theorem dX12_isSafe_19 : decode cX12_isSafe 19 = .ok (.getfield 67, 3) := by decide +kernel
theorem dX12_isSafe_22 : decode cX12_isSafe 22 = .ok (.iaload, 1) := by decide +kernel
theorem dX12_isSafe_23 : decode cX12_isSafe 23 = .ok (.if_icmp .ne 5, 3) := by decide +kernel
theorem dX12_isSafe_26 : decode cX12_isSafe 26 = .ok (.iconst 1, 1) := by decide +kernel
theorem dX12_isSafe_27 : decode cX12_isSafe 27 = .ok (.ireturn, 1) := by decide +kernel
theorem dX12_isSafe_28 : decode cX12_isSafe 28 = .ok (.aload_n 0, 1) := by decide +kernel
theorem dX12_isSafe_29 : decode cX12_isSafe 29 = .ok (.invokevirtual 259, 3) := by decide +kernel
theorem dX12_isSafe_32 : decode cX12_isSafe 32 = .ok (.aload_n 0, 1) := by decide +kernel
theorem dX12_isSafe_33 : decode cX12_isSafe 33 = .ok (.invokevirtual 262, 3) := by decide +kernel
theorem dX12_isSafe_36 : decode cX12_isSafe 36 = .ok (.iconst (-1), 1) := by decide +kernel
theorem dX12_isSafe_37 : decode cX12_isSafe 37 = .ok (.ixor, 1) := by decide +kernel
theorem dX12_isSafe_38 : decode cX12_isSafe 38 = .ok (.iand, 1) := by decide +kernel
theorem dX12_isSafe_39 : decode cX12_isSafe 39 = .ok (.istore_n 3, 1) := by decide +kernel
theorem dX12_isSafe_40 : decode cX12_isSafe 40 = .ok (.aload_n 0, 1) := by decide +kernel
theorem dX12_isSafe_41 : decode cX12_isSafe 41 = .ok (.iload_n 1, 1) := by decide +kernel
theorem dX12_isSafe_42 : decode cX12_isSafe 42 = .ok (.iload_n 2, 1) := by decide +kernel
theorem dX12_isSafe_43 : decode cX12_isSafe 43 = .ok (.invokevirtual 226, 3) := by decide +kernel
theorem dX12_isSafe_46 : decode cX12_isSafe 46 = .ok (.istore 4, 2) := by decide +kernel
theorem dX12_isSafe_48 : decode cX12_isSafe 48 = .ok (.iload_n 3, 1) := by decide +kernel
theorem dX12_isSafe_49 : decode cX12_isSafe 49 = .ok (.istore 5, 2) := by decide +kernel
theorem dX12_isSafe_51 : decode cX12_isSafe 51 = .ok (.aload_n 0, 1) := by decide +kernel
theorem dX12_isSafe_52 : decode cX12_isSafe 52 = .ok (.iload 4, 2) := by decide +kernel
theorem dX12_isSafe_54 : decode cX12_isSafe 54 = .ok (.iload 5, 2) := by decide +kernel
theorem dX12_isSafe_56 : decode cX12_isSafe 56 = .ok (.aload_n 0, 1) := by decide +kernel
theorem dX12_isSafe_57 : decode cX12_isSafe 57 = .ok (.invokevirtual 262, 3) := by decide +kernel
theorem dX12_isSafe_60 : decode cX12_isSafe 60 = .ok (.ior, 1) := by decide +kernel
theorem dX12_isSafe_61 : decode cX12_isSafe 61 = .ok (.invokevirtual 265, 3) := by decide +kernel
theorem dX12_isSafe_64 : decode cX12_isSafe 64 = .ok (.ifCond .eq 5, 3) := by decide +kernel
theorem dX12_isSafe_67 : decode cX12_isSafe 67 = .ok (.iconst 1, 1) := by decide +kernel
theorem dX12_isSafe_68 : decode cX12_isSafe 68 = .ok (.ireturn, 1) := by decide +kernel
theorem dX12_isSafe_69 : decode cX12_isSafe 69 = .ok (.iload 5, 2) := by decide +kernel
theorem dX12_isSafe_71 : decode cX12_isSafe 71 = .ok (.ifCond .ne 5, 3) := by decide +kernel
theorem dX12_isSafe_74 : decode cX12_isSafe 74 = .ok (.iconst 0, 1) := by decide +kernel
theorem dX12_isSafe_75 : decode cX12_isSafe 75 = .ok (.ireturn, 1) := by decide +kernel
theorem dX12_isSafe_76 : decode cX12_isSafe 76 = .ok (.iload 5, 2) := by decide +kernel
theorem dX12_isSafe_78 : decode cX12_isSafe 78 = .ok (.iconst 1, 1) := by decide +kernel
theorem dX12_isSafe_79 : decode cX12_isSafe 79 = .ok (.isub, 1) := by decide +kernel
theorem dX12_isSafe_80 : decode cX12_isSafe 80 = .ok (.iload_n 3, 1) := by decide +kernel
theorem dX12_isSafe_81 : decode cX12_isSafe 81 = .ok (.iand, 1) := by decide +kernel
theorem dX12_isSafe_82 : decode cX12_isSafe 82 = .ok (.istore 5, 2) := by decide +kernel
theorem dX12_isSafe_84 : decode cX12_isSafe 84 = .ok (.goto (-33), 3) := by decide +kernel
theorem dX12_isKeen_0 : decode cX12_isKeen 0 = .ok (.aload_n 0, 1) := by decide +kernel
theorem dX12_isKeen_1 : decode cX12_isKeen 1 = .ok (.iload_n 1, 1) := by decide +kernel
theorem dX12_isKeen_2 : decode cX12_isKeen 2 = .ok (.invokevirtual 230, 3) := by decide +kernel
theorem dX12_isKeen_5 : decode cX12_isKeen 5 = .ok (.ifCond .eq 5, 3) := by decide +kernel
theorem dX12_isKeen_8 : decode cX12_isKeen 8 = .ok (.iconst 1, 1) := by decide +kernel
theorem dX12_isKeen_9 : decode cX12_isKeen 9 = .ok (.ireturn, 1) := by decide +kernel
theorem dX12_isKeen_10 : decode cX12_isKeen 10 = .ok (.aload_n 0, 1) := by decide +kernel
theorem dX12_isKeen_11 : decode cX12_isKeen 11 = .ok (.iload_n 1, 1) := by decide +kernel
theorem dX12_isKeen_12 : decode cX12_isKeen 12 = .ok (.iload_n 2, 1) := by decide +kernel
theorem dX12_isKeen_13 : decode cX12_isKeen 13 = .ok (.invokevirtual 226, 3) := by decide +kernel
theorem dX12_isKeen_16 : decode cX12_isKeen 16 = .ok (.istore_n 3, 1) := by decide +kernel
theorem dX12_isKeen_17 : decode cX12_isKeen 17 = .ok (.iconst 0, 1) := by decide +kernel
theorem dX12_isKeen_18 : decode cX12_isKeen 18 = .ok (.istore 4, 2) := by decide +kernel
theorem dX12_isKeen_20 : decode cX12_isKeen 20 = .ok (.iload 4, 2) := by decide +kernel
theorem dX12_isKeen_22 : decode cX12_isKeen 22 = .ok (.aload_n 0, 1) := by decide +kernel
theorem dX12_isKeen_23 : decode cX12_isKeen 23 = .ok (.getfield 198, 3) := by decide +kernel
theorem dX12_isKeen_26 : decode cX12_isKeen 26 = .ok (.if_icmp .ge 35, 3) := by decide +kernel
theorem dX12_isKeen_29 : decode cX12_isKeen 29 = .ok (.iload_n 3, 1) := by decide +kernel
theorem dX12_isKeen_30 : decode cX12_isKeen 30 = .ok (.iload 4, 2) := by decide +kernel
theorem dX12_isKeen_32 : decode cX12_isKeen 32 = .ok (.ishr, 1) := by decide +kernel
theorem dX12_isKeen_33 : decode cX12_isKeen 33 = .ok (.iconst 1, 1) := by decide +kernel
theorem dX12_isKeen_34 : decode cX12_isKeen 34 = .ok (.iand, 1) := by decide +kernel
theorem dX12_isKeen_35 : decode cX12_isKeen 35 = .ok (.iconst 1, 1) := by decide +kernel
theorem dX12_isKeen_36 : decode cX12_isKeen 36 = .ok (.if_icmp .ne 19, 3) := by decide +kernel
theorem dX12_isKeen_39 : decode cX12_isKeen 39 = .ok (.aload_n 0, 1) := by decide +kernel
theorem dX12_isKeen_40 : decode cX12_isKeen 40 = .ok (.iload_n 1, 1) := by decide +kernel
theorem dX12_isKeen_41 : decode cX12_isKeen 41 = .ok (.iconst 1, 1) := by decide +kernel
theorem dX12_isKeen_42 : decode cX12_isKeen 42 = .ok (.iload 4, 2) := by decide +kernel
theorem dX12_isKeen_44 : decode cX12_isKeen 44 = .ok (.ishl, 1) := by decide +kernel
theorem dX12_isKeen_45 : decode cX12_isKeen 45 = .ok (.ior, 1) := by decide +kernel
theorem dX12_isKeen_46 : decode cX12_isKeen 46 = .ok (.iload_n 2, 1) := by decide +kernel
theorem dX12_isKeen_47 : decode cX12_isKeen 47 = .ok (.invokevirtual 269, 3) := by decide +kernel
theorem dX12_isKeen_50 : decode cX12_isKeen 50 = .ok (.ifCond .eq 5, 3) := by decide +kernel
theorem dX12_isKeen_53 : decode cX12_isKeen 53 = .ok (.iconst 1, 1) := by decide +kernel
theorem dX12_isKeen_54 : decode cX12_isKeen 54 = .ok (.ireturn, 1) := by decide +kernel
theorem dX12_isKeen_55 : decode cX12_isKeen 55 = .ok (.iinc 4 1, 3) := by decide +kernel
theorem dX12_isKeen_58 : decode cX12_isKeen 58 = .ok (.goto (-38), 3) := by decide +kernel
theorem dX12_isKeen_61 : decode cX12_isKeen 61 = .ok (.iconst 0, 1) := by decide +kernel
theorem dX12_isKeen_62 : decode cX12_isKeen 62 = .ok (.ireturn, 1) := by decide +kernel
theorem dX12_outcomeOf_0 : decode cX12_outcomeOf 0 = .ok (.aload_n 0, 1) := by decide +kernel
theorem dX12_outcomeOf_1 : decode cX12_outcomeOf 1 = .ok (.iload_n 1, 1) := by decide +kernel
theorem dX12_outcomeOf_2 : decode cX12_outcomeOf 2 = .ok (.iload_n 2, 1) := by decide +kernel
theorem dX12_outcomeOf_3 : decode cX12_outcomeOf 3 = .ok (.invokevirtual 269, 3) := by decide +kernel
theorem dX12_outcomeOf_6 : decode cX12_outcomeOf 6 = .ok (.ifCond .eq 7, 3) := by decide +kernel
theorem dX12_outcomeOf_9 : decode cX12_outcomeOf 9 = .ok (.iconst 0, 1) := by decide +kernel
theorem dX12_outcomeOf_10 : decode cX12_outcomeOf 10 = .ok (.goto 17, 3) := by decide +kernel
theorem dX12_outcomeOf_13 : decode cX12_outcomeOf 13 = .ok (.aload_n 0, 1) := by decide +kernel
theorem dX12_outcomeOf_14 : decode cX12_outcomeOf 14 = .ok (.iload_n 1, 1) := by decide +kernel
theorem dX12_outcomeOf_15 : decode cX12_outcomeOf 15 = .ok (.iload_n 2, 1) := by decide +kernel
theorem dX12_outcomeOf_16 : decode cX12_outcomeOf 16 = .ok (.invokevirtual 272, 3) := by decide +kernel
theorem dX12_outcomeOf_19 : decode cX12_outcomeOf 19 = .ok (.ifCond .eq 7, 3) := by decide +kernel
theorem dX12_outcomeOf_22 : decode cX12_outcomeOf 22 = .ok (.iconst 2, 1) := by decide +kernel
theorem dX12_outcomeOf_23 : decode cX12_outcomeOf 23 = .ok (.goto 4, 3) := by decide +kernel
theorem dX12_outcomeOf_26 : decode cX12_outcomeOf 26 = .ok (.iconst 1, 1) := by decide +kernel
theorem dX12_outcomeOf_27 : decode cX12_outcomeOf 27 = .ok (.ireturn, 1) := by decide +kernel
theorem dX12_winsFor_0 : decode cX12_winsFor 0 = .ok (.iload_n 1, 1) := by decide +kernel
theorem dX12_winsFor_1 : decode cX12_winsFor 1 = .ok (.ifCond .ne 17, 3) := by decide +kernel
theorem dX12_winsFor_4 : decode cX12_winsFor 4 = .ok (.aload_n 0, 1) := by decide +kernel
theorem dX12_winsFor_5 : decode cX12_winsFor 5 = .ok (.iload_n 3, 1) := by decide +kernel
theorem dX12_winsFor_6 : decode cX12_winsFor 6 = .ok (.iconst 1, 1) := by decide +kernel
theorem dX12_winsFor_7 : decode cX12_winsFor 7 = .ok (.iload_n 2, 1) := by decide +kernel
theorem dX12_winsFor_8 : decode cX12_winsFor 8 = .ok (.ishl, 1) := by decide +kernel
theorem dX12_winsFor_9 : decode cX12_winsFor 9 = .ok (.ior, 1) := by decide +kernel
theorem dX12_winsFor_10 : decode cX12_winsFor 10 = .ok (.iload 4, 2) := by decide +kernel
theorem dX12_winsFor_12 : decode cX12_winsFor 12 = .ok (.invokevirtual 269, 3) := by decide +kernel
theorem dX12_winsFor_15 : decode cX12_winsFor 15 = .ok (.goto 22, 3) := by decide +kernel
theorem dX12_winsFor_18 : decode cX12_winsFor 18 = .ok (.aload_n 0, 1) := by decide +kernel
theorem dX12_winsFor_19 : decode cX12_winsFor 19 = .ok (.iload_n 3, 1) := by decide +kernel
theorem dX12_winsFor_20 : decode cX12_winsFor 20 = .ok (.iload 4, 2) := by decide +kernel
theorem dX12_winsFor_22 : decode cX12_winsFor 22 = .ok (.iconst 1, 1) := by decide +kernel
theorem dX12_winsFor_23 : decode cX12_winsFor 23 = .ok (.iload_n 2, 1) := by decide +kernel
theorem dX12_winsFor_24 : decode cX12_winsFor 24 = .ok (.ishl, 1) := by decide +kernel
theorem dX12_winsFor_25 : decode cX12_winsFor 25 = .ok (.ior, 1) := by decide +kernel
theorem dX12_winsFor_26 : decode cX12_winsFor 26 = .ok (.invokevirtual 272, 3) := by decide +kernel
theorem dX12_winsFor_29 : decode cX12_winsFor 29 = .ok (.ifCond .ne 7, 3) := by decide +kernel
theorem dX12_winsFor_32 : decode cX12_winsFor 32 = .ok (.iconst 1, 1) := by decide +kernel
theorem dX12_winsFor_33 : decode cX12_winsFor 33 = .ok (.goto 4, 3) := by decide +kernel
theorem dX12_winsFor_36 : decode cX12_winsFor 36 = .ok (.iconst 0, 1) := by decide +kernel
theorem dX12_winsFor_37 : decode cX12_winsFor 37 = .ok (.ireturn, 1) := by decide +kernel
theorem dX12_setAt_0 : decode cX12_setAt 0 = .ok (.aload_n 0, 1) := by decide +kernel
theorem dX12_setAt_1 : decode cX12_setAt 1 = .ok (.iload_n 1, 1) := by decide +kernel
theorem dX12_setAt_2 : decode cX12_setAt 2 = .ok (.invokevirtual 256, 3) := by decide +kernel
theorem dX12_setAt_5 : decode cX12_setAt 5 = .ok (.aload_n 0, 1) := by decide +kernel
theorem dX12_setAt_6 : decode cX12_setAt 6 = .ok (.getfield 35, 3) := by decide +kernel
theorem dX12_setAt_9 : decode cX12_setAt 9 = .ok (.aload_n 0, 1) := by decide +kernel
theorem dX12_setAt_10 : decode cX12_setAt 10 = .ok (.getfield 207, 3) := by decide +kernel
theorem dX12_setAt_13 : decode cX12_setAt 13 = .ok (.iaload, 1) := by decide +kernel
theorem dX12_setAt_14 : decode cX12_setAt 14 = .ok (.aload_n 0, 1) := by decide +kernel
theorem dX12_setAt_15 : decode cX12_setAt 15 = .ok (.getfield 35, 3) := by decide +kernel
theorem dX12_setAt_18 : decode cX12_setAt 18 = .ok (.aload_n 0, 1) := by decide +kernel
theorem dX12_setAt_19 : decode cX12_setAt 19 = .ok (.getfield 67, 3) := by decide +kernel
theorem dX12_setAt_22 : decode cX12_setAt 22 = .ok (.iaload, 1) := by decide +kernel
theorem dX12_setAt_23 : decode cX12_setAt 23 = .ok (.if_icmp .ne 5, 3) := by decide +kernel
theorem dX12_setAt_26 : decode cX12_setAt 26 = .ok (.iconst (-1), 1) := by decide +kernel
theorem dX12_setAt_27 : decode cX12_setAt 27 = .ok (.ireturn, 1) := by decide +kernel
theorem dX12_setAt_28 : decode cX12_setAt 28 = .ok (.aload_n 0, 1) := by decide +kernel
theorem dX12_setAt_29 : decode cX12_setAt 29 = .ok (.invokevirtual 259, 3) := by decide +kernel
theorem dX12_setAt_32 : decode cX12_setAt 32 = .ok (.istore 4, 2) := by decide +kernel
theorem dX12_setAt_34 : decode cX12_setAt 34 = .ok (.iload_n 3, 1) := by decide +kernel
theorem dX12_setAt_35 : decode cX12_setAt 35 = .ok (.istore 5, 2) := by decide +kernel
theorem dX12_setAt_37 : decode cX12_setAt 37 = .ok (.iconst 2, 1) := by decide +kernel
theorem dX12_setAt_38 : decode cX12_setAt 38 = .ok (.istore 6, 2) := by decide +kernel
theorem dX12_setAt_40 : decode cX12_setAt 40 = .ok (.iload 6, 2) := by decide +kernel
theorem dX12_setAt_42 : decode cX12_setAt 42 = .ok (.iload 4, 2) := by decide +kernel
theorem dX12_setAt_44 : decode cX12_setAt 44 = .ok (.invokestatic 250, 3) := by decide +kernel
theorem dX12_setAt_47 : decode cX12_setAt 47 = .ok (.if_icmp .gt 100, 3) := by decide +kernel
theorem dX12_setAt_50 : decode cX12_setAt 50 = .ok (.iconst 0, 1) := by decide +kernel
theorem dX12_setAt_51 : decode cX12_setAt 51 = .ok (.istore 7, 2) := by decide +kernel
theorem dX12_setAt_53 : decode cX12_setAt 53 = .ok (.iload 7, 2) := by decide +kernel
theorem dX12_setAt_55 : decode cX12_setAt 55 = .ok (.iload 4, 2) := by decide +kernel
theorem dX12_setAt_57 : decode cX12_setAt 57 = .ok (.if_icmp .gt 84, 3) := by decide +kernel
theorem dX12_setAt_60 : decode cX12_setAt 60 = .ok (.iload 7, 2) := by decide +kernel
theorem dX12_setAt_62 : decode cX12_setAt 62 = .ok (.iload 4, 2) := by decide +kernel
theorem dX12_setAt_64 : decode cX12_setAt 64 = .ok (.iconst (-1), 1) := by decide +kernel
theorem dX12_setAt_65 : decode cX12_setAt 65 = .ok (.ixor, 1) := by decide +kernel
theorem dX12_setAt_66 : decode cX12_setAt 66 = .ok (.iand, 1) := by decide +kernel
theorem dX12_setAt_67 : decode cX12_setAt 67 = .ok (.ifCond .ne 31, 3) := by decide +kernel
theorem dX12_setAt_70 : decode cX12_setAt 70 = .ok (.iload 7, 2) := by decide +kernel
theorem dX12_setAt_72 : decode cX12_setAt 72 = .ok (.aload_n 0, 1) := by decide +kernel
theorem dX12_setAt_73 : decode cX12_setAt 73 = .ok (.invokevirtual 262, 3) := by decide +kernel
theorem dX12_setAt_76 : decode cX12_setAt 76 = .ok (.iand, 1) := by decide +kernel
theorem dX12_setAt_77 : decode cX12_setAt 77 = .ok (.aload_n 0, 1) := by decide +kernel
theorem dX12_setAt_78 : decode cX12_setAt 78 = .ok (.invokevirtual 262, 3) := by decide +kernel
theorem dX12_setAt_81 : decode cX12_setAt 81 = .ok (.if_icmp .ne 17, 3) := by decide +kernel
theorem dX12_setAt_84 : decode cX12_setAt 84 = .ok (.iload 7, 2) := by decide +kernel
theorem dX12_setAt_86 : decode cX12_setAt 86 = .ok (.invokestatic 250, 3) := by decide +kernel
theorem dX12_setAt_89 : decode cX12_setAt 89 = .ok (.iload 6, 2) := by decide +kernel
theorem dX12_setAt_91 : decode cX12_setAt 91 = .ok (.if_icmp .ne 7, 3) := by decide +kernel
theorem dX12_setAt_94 : decode cX12_setAt 94 = .ok (.iconst 1, 1) := by decide +kernel
theorem dX12_setAt_95 : decode cX12_setAt 95 = .ok (.goto 4, 3) := by decide +kernel
theorem dX12_setAt_98 : decode cX12_setAt 98 = .ok (.iconst 0, 1) := by decide +kernel
theorem dX12_setAt_99 : decode cX12_setAt 99 = .ok (.istore 8, 2) := by decide +kernel
theorem dX12_setAt_101 : decode cX12_setAt 101 = .ok (.iload 8, 2) := by decide +kernel
theorem dX12_setAt_103 : decode cX12_setAt 103 = .ok (.ifCond .eq 32, 3) := by decide +kernel
theorem dX12_setAt_106 : decode cX12_setAt 106 = .ok (.aload_n 0, 1) := by decide +kernel
theorem dX12_setAt_107 : decode cX12_setAt 107 = .ok (.aload_n 0, 1) := by decide +kernel
theorem dX12_setAt_108 : decode cX12_setAt 108 = .ok (.iload_n 1, 1) := by decide +kernel
theorem dX12_setAt_109 : decode cX12_setAt 109 = .ok (.iload_n 2, 1) := by decide +kernel
theorem dX12_setAt_110 : decode cX12_setAt 110 = .ok (.invokevirtual 226, 3) := by decide +kernel
theorem dX12_setAt_113 : decode cX12_setAt 113 = .ok (.iload 7, 2) := by decide +kernel
theorem dX12_setAt_115 : decode cX12_setAt 115 = .ok (.invokevirtual 265, 3) := by decide +kernel
theorem dX12_setAt_118 : decode cX12_setAt 118 = .ok (.ifCond .ne 6, 3) := by decide +kernel
theorem dX12_setAt_121 : decode cX12_setAt 121 = .ok (.goto 14, 3) := by decide +kernel
theorem dX12_setAt_124 : decode cX12_setAt 124 = .ok (.iload 5, 2) := by decide +kernel
theorem dX12_setAt_126 : decode cX12_setAt 126 = .ok (.ifCond .ne 6, 3) := by decide +kernel
theorem dX12_setAt_129 : decode cX12_setAt 129 = .ok (.iload 7, 2) := by decide +kernel
theorem dX12_setAt_131 : decode cX12_setAt 131 = .ok (.ireturn, 1) := by decide +kernel
theorem dX12_setAt_132 : decode cX12_setAt 132 = .ok (.iinc 5 (-1), 3) := by decide +kernel
theorem dX12_setAt_135 : decode cX12_setAt 135 = .ok (.iinc 7 1, 3) := by decide +kernel
theorem dX12_setAt_138 : decode cX12_setAt 138 = .ok (.goto (-85), 3) := by decide +kernel
theorem dX12_setAt_141 : decode cX12_setAt 141 = .ok (.iinc 6 1, 3) := by decide +kernel
theorem dX12_setAt_144 : decode cX12_setAt 144 = .ok (.goto (-104), 3) := by decide +kernel
theorem dX12_setAt_147 : decode cX12_setAt 147 = .ok (.iconst (-1), 1) := by decide +kernel
theorem dX12_setAt_148 : decode cX12_setAt 148 = .ok (.ireturn, 1) := by decide +kernel
theorem dX12_leastTree_0 : decode cX12_leastTree 0 = .ok (.iconst 0, 1) := by decide +kernel
theorem dX12_leastTree_1 : decode cX12_leastTree 1 = .ok (.istore 4, 2) := by decide +kernel
theorem dX12_leastTree_3 : decode cX12_leastTree 3 = .ok (.iload 4, 2) := by decide +kernel
theorem dX12_leastTree_5 : decode cX12_leastTree 5 = .ok (.invokestatic 250, 3) := by decide +kernel
theorem dX12_leastTree_8 : decode cX12_leastTree 8 = .ok (.iload_n 2, 1) := by decide +kernel
theorem dX12_leastTree_9 : decode cX12_leastTree 9 = .ok (.if_icmp .ne 34, 3) := by decide +kernel
theorem dX12_leastTree_12 : decode cX12_leastTree 12 = .ok (.aload_n 0, 1) := by decide +kernel
theorem dX12_leastTree_13 : decode cX12_leastTree 13 = .ok (.iload 4, 2) := by decide +kernel
theorem dX12_leastTree_15 : decode cX12_leastTree 15 = .ok (.invokevirtual 233, 3) := by decide +kernel
theorem dX12_leastTree_18 : decode cX12_leastTree 18 = .ok (.ifCond .eq 25, 3) := by decide +kernel
theorem dX12_leastTree_21 : decode cX12_leastTree 21 = .ok (.iload_n 3, 1) := by decide +kernel
theorem dX12_leastTree_22 : decode cX12_leastTree 22 = .ok (.ifCond .eq 17, 3) := by decide +kernel
theorem dX12_leastTree_25 : decode cX12_leastTree 25 = .ok (.aload_n 0, 1) := by decide +kernel
theorem dX12_leastTree_26 : decode cX12_leastTree 26 = .ok (.iload_n 1, 1) := by decide +kernel
theorem dX12_leastTree_27 : decode cX12_leastTree 27 = .ok (.iload 4, 2) := by decide +kernel
theorem dX12_leastTree_29 : decode cX12_leastTree 29 = .ok (.iconst (-1), 1) := by decide +kernel
theorem dX12_leastTree_30 : decode cX12_leastTree 30 = .ok (.ixor, 1) := by decide +kernel
theorem dX12_leastTree_31 : decode cX12_leastTree 31 = .ok (.iand, 1) := by decide +kernel
theorem dX12_leastTree_32 : decode cX12_leastTree 32 = .ok (.invokevirtual 275, 3) := by decide +kernel
theorem dX12_leastTree_35 : decode cX12_leastTree 35 = .ok (.iload_n 2, 1) := by decide +kernel
theorem dX12_leastTree_36 : decode cX12_leastTree 36 = .ok (.if_icmp .ne 7, 3) := by decide +kernel
theorem dX12_leastTree_39 : decode cX12_leastTree 39 = .ok (.iconst 1, 1) := by decide +kernel
theorem dX12_leastTree_40 : decode cX12_leastTree 40 = .ok (.goto 4, 3) := by decide +kernel
theorem dX12_leastTree_43 : decode cX12_leastTree 43 = .ok (.iconst 0, 1) := by decide +kernel
theorem dX12_leastTree_44 : decode cX12_leastTree 44 = .ok (.istore 5, 2) := by decide +kernel
theorem dX12_leastTree_46 : decode cX12_leastTree 46 = .ok (.iload 5, 2) := by decide +kernel
theorem dX12_leastTree_48 : decode cX12_leastTree 48 = .ok (.ifCond .eq 6, 3) := by decide +kernel
theorem dX12_leastTree_51 : decode cX12_leastTree 51 = .ok (.iload 4, 2) := by decide +kernel
theorem dX12_leastTree_53 : decode cX12_leastTree 53 = .ok (.ireturn, 1) := by decide +kernel
theorem dX12_leastTree_54 : decode cX12_leastTree 54 = .ok (.iload 4, 2) := by decide +kernel
theorem dX12_leastTree_56 : decode cX12_leastTree 56 = .ok (.iload_n 1, 1) := by decide +kernel
theorem dX12_leastTree_57 : decode cX12_leastTree 57 = .ok (.isub, 1) := by decide +kernel
theorem dX12_leastTree_58 : decode cX12_leastTree 58 = .ok (.iload_n 1, 1) := by decide +kernel
theorem dX12_leastTree_59 : decode cX12_leastTree 59 = .ok (.iand, 1) := by decide +kernel
theorem dX12_leastTree_60 : decode cX12_leastTree 60 = .ok (.istore 4, 2) := by decide +kernel
theorem dX12_leastTree_62 : decode cX12_leastTree 62 = .ok (.goto (-59), 3) := by decide +kernel
theorem dX12_laysPair_0 : decode cX12_laysPair 0 = .ok (.aload_n 0, 1) := by decide +kernel
theorem dX12_laysPair_1 : decode cX12_laysPair 1 = .ok (.iload_n 1, 1) := by decide +kernel
theorem dX12_laysPair_2 : decode cX12_laysPair 2 = .ok (.iload_n 2, 1) := by decide +kernel
theorem dX12_laysPair_3 : decode cX12_laysPair 3 = .ok (.iconst 0, 1) := by decide +kernel
theorem dX12_laysPair_4 : decode cX12_laysPair 4 = .ok (.invokevirtual 278, 3) := by decide +kernel
theorem dX12_laysPair_7 : decode cX12_laysPair 7 = .ok (.istore_n 3, 1) := by decide +kernel
theorem dX12_laysPair_8 : decode cX12_laysPair 8 = .ok (.iload_n 3, 1) := by decide +kernel
theorem dX12_laysPair_9 : decode cX12_laysPair 9 = .ok (.iconst (-1), 1) := by decide +kernel
theorem dX12_laysPair_10 : decode cX12_laysPair 10 = .ok (.if_icmp .ne 5, 3) := by decide +kernel
theorem dX12_laysPair_13 : decode cX12_laysPair 13 = .ok (.iconst 0, 1) := by decide +kernel
theorem dX12_laysPair_14 : decode cX12_laysPair 14 = .ok (.ireturn, 1) := by decide +kernel
theorem dX12_laysPair_15 : decode cX12_laysPair 15 = .ok (.aload_n 0, 1) := by decide +kernel
theorem dX12_laysPair_16 : decode cX12_laysPair 16 = .ok (.aload_n 0, 1) := by decide +kernel
theorem dX12_laysPair_17 : decode cX12_laysPair 17 = .ok (.iload_n 1, 1) := by decide +kernel
theorem dX12_laysPair_18 : decode cX12_laysPair 18 = .ok (.iload_n 2, 1) := by decide +kernel
theorem dX12_laysPair_19 : decode cX12_laysPair 19 = .ok (.invokevirtual 226, 3) := by decide +kernel
theorem dX12_laysPair_22 : decode cX12_laysPair 22 = .ok (.iload_n 3, 1) := by decide +kernel
theorem dX12_laysPair_23 : decode cX12_laysPair 23 = .ok (.invokevirtual 247, 3) := by decide +kernel
theorem dX12_laysPair_26 : decode cX12_laysPair 26 = .ok (.istore 4, 2) := by decide +kernel
theorem dX12_laysPair_28 : decode cX12_laysPair 28 = .ok (.iload_n 3, 1) := by decide +kernel
theorem dX12_laysPair_29 : decode cX12_laysPair 29 = .ok (.invokestatic 250, 3) := by decide +kernel
theorem dX12_laysPair_32 : decode cX12_laysPair 32 = .ok (.iconst 1, 1) := by decide +kernel
theorem dX12_laysPair_33 : decode cX12_laysPair 33 = .ok (.isub, 1) := by decide +kernel
theorem dX12_laysPair_34 : decode cX12_laysPair 34 = .ok (.istore 5, 2) := by decide +kernel
theorem dX12_laysPair_36 : decode cX12_laysPair 36 = .ok (.aload_n 0, 1) := by decide +kernel
theorem dX12_laysPair_37 : decode cX12_laysPair 37 = .ok (.iload_n 3, 1) := by decide +kernel
theorem dX12_laysPair_38 : decode cX12_laysPair 38 = .ok (.putfield 282, 3) := by decide +kernel
theorem dX12_laysPair_41 : decode cX12_laysPair 41 = .ok (.aload_n 0, 1) := by decide +kernel
theorem dX12_laysPair_42 : decode cX12_laysPair 42 = .ok (.aload_n 0, 1) := by decide +kernel
theorem dX12_laysPair_43 : decode cX12_laysPair 43 = .ok (.iload 4, 2) := by decide +kernel
theorem dX12_laysPair_45 : decode cX12_laysPair 45 = .ok (.iload 5, 2) := by decide +kernel
theorem dX12_laysPair_47 : decode cX12_laysPair 47 = .ok (.iconst 1, 1) := by decide +kernel
theorem dX12_laysPair_48 : decode cX12_laysPair 48 = .ok (.invokevirtual 285, 3) := by decide +kernel
theorem dX12_laysPair_51 : decode cX12_laysPair 51 = .ok (.putfield 289, 3) := by decide +kernel
theorem dX12_laysPair_54 : decode cX12_laysPair 54 = .ok (.aload_n 0, 1) := by decide +kernel
theorem dX12_laysPair_55 : decode cX12_laysPair 55 = .ok (.aload_n 0, 1) := by decide +kernel
theorem dX12_laysPair_56 : decode cX12_laysPair 56 = .ok (.iload 4, 2) := by decide +kernel
theorem dX12_laysPair_58 : decode cX12_laysPair 58 = .ok (.aload_n 0, 1) := by decide +kernel
theorem dX12_laysPair_59 : decode cX12_laysPair 59 = .ok (.getfield 289, 3) := by decide +kernel
theorem dX12_laysPair_62 : decode cX12_laysPair 62 = .ok (.iconst (-1), 1) := by decide +kernel
theorem dX12_laysPair_63 : decode cX12_laysPair 63 = .ok (.ixor, 1) := by decide +kernel
theorem dX12_laysPair_64 : decode cX12_laysPair 64 = .ok (.iand, 1) := by decide +kernel
theorem dX12_laysPair_65 : decode cX12_laysPair 65 = .ok (.iload 5, 2) := by decide +kernel
theorem dX12_laysPair_67 : decode cX12_laysPair 67 = .ok (.iconst 0, 1) := by decide +kernel
theorem dX12_laysPair_68 : decode cX12_laysPair 68 = .ok (.invokevirtual 285, 3) := by decide +kernel
theorem dX12_laysPair_71 : decode cX12_laysPair 71 = .ok (.putfield 292, 3) := by decide +kernel
theorem dX12_laysPair_74 : decode cX12_laysPair 74 = .ok (.iconst 1, 1) := by decide +kernel
theorem dX12_laysPair_75 : decode cX12_laysPair 75 = .ok (.ireturn, 1) := by decide +kernel
theorem dX12_answerOf_0 : decode cX12_answerOf 0 = .ok (.iconst 1, 1) := by decide +kernel
theorem dX12_answerOf_1 : decode cX12_answerOf 1 = .ok (.iload_n 1, 1) := by decide +kernel
theorem dX12_answerOf_2 : decode cX12_answerOf 2 = .ok (.ishl, 1) := by decide +kernel
theorem dX12_answerOf_3 : decode cX12_answerOf 3 = .ok (.istore_n 2, 1) := by decide +kernel
theorem dX12_answerOf_4 : decode cX12_answerOf 4 = .ok (.aload_n 0, 1) := by decide +kernel
theorem dX12_answerOf_5 : decode cX12_answerOf 5 = .ok (.getfield 289, 3) := by decide +kernel
theorem dX12_answerOf_8 : decode cX12_answerOf 8 = .ok (.iload_n 2, 1) := by decide +kernel
theorem dX12_answerOf_9 : decode cX12_answerOf 9 = .ok (.iand, 1) := by decide +kernel
theorem dX12_answerOf_10 : decode cX12_answerOf 10 = .ok (.ifCond .eq 7, 3) := by decide +kernel
theorem dX12_answerOf_13 : decode cX12_answerOf 13 = .ok (.iconst 1, 1) := by decide +kernel
theorem dX12_answerOf_14 : decode cX12_answerOf 14 = .ok (.goto 4, 3) := by decide +kernel
theorem dX12_answerOf_17 : decode cX12_answerOf 17 = .ok (.iconst 0, 1) := by decide +kernel
theorem dX12_answerOf_18 : decode cX12_answerOf 18 = .ok (.istore_n 3, 1) := by decide +kernel
theorem dX12_answerOf_19 : decode cX12_answerOf 19 = .ok (.iload_n 3, 1) := by decide +kernel
theorem dX12_answerOf_20 : decode cX12_answerOf 20 = .ok (.ifCond .ne 25, 3) := by decide +kernel
theorem dX12_answerOf_23 : decode cX12_answerOf 23 = .ok (.aload_n 0, 1) := by decide +kernel
theorem dX12_answerOf_24 : decode cX12_answerOf 24 = .ok (.getfield 292, 3) := by decide +kernel
theorem dX12_answerOf_27 : decode cX12_answerOf 27 = .ok (.iload_n 2, 1) := by decide +kernel
theorem dX12_answerOf_28 : decode cX12_answerOf 28 = .ok (.iand, 1) := by decide +kernel
theorem dX12_answerOf_29 : decode cX12_answerOf 29 = .ok (.ifCond .ne 16, 3) := by decide +kernel
theorem dX12_answerOf_32 : decode cX12_answerOf 32 = .ok (.aload_n 0, 1) := by decide +kernel
theorem dX12_answerOf_33 : decode cX12_answerOf 33 = .ok (.getfield 289, 3) := by decide +kernel
theorem dX12_answerOf_36 : decode cX12_answerOf 36 = .ok (.aload_n 0, 1) := by decide +kernel
theorem dX12_answerOf_37 : decode cX12_answerOf 37 = .ok (.getfield 292, 3) := by decide +kernel
theorem dX12_answerOf_40 : decode cX12_answerOf 40 = .ok (.ior, 1) := by decide +kernel
theorem dX12_answerOf_41 : decode cX12_answerOf 41 = .ok (.invokestatic 295, 3) := by decide +kernel
theorem dX12_answerOf_44 : decode cX12_answerOf 44 = .ok (.ireturn, 1) := by decide +kernel
theorem dX12_answerOf_45 : decode cX12_answerOf 45 = .ok (.iload_n 3, 1) := by decide +kernel
theorem dX12_answerOf_46 : decode cX12_answerOf 46 = .ok (.ifCond .eq 10, 3) := by decide +kernel
theorem dX12_answerOf_49 : decode cX12_answerOf 49 = .ok (.aload_n 0, 1) := by decide +kernel
theorem dX12_answerOf_50 : decode cX12_answerOf 50 = .ok (.getfield 289, 3) := by decide +kernel
theorem dX12_answerOf_53 : decode cX12_answerOf 53 = .ok (.goto 7, 3) := by decide +kernel
theorem dX12_answerOf_56 : decode cX12_answerOf 56 = .ok (.aload_n 0, 1) := by decide +kernel
theorem dX12_answerOf_57 : decode cX12_answerOf 57 = .ok (.getfield 292, 3) := by decide +kernel
theorem dX12_answerOf_60 : decode cX12_answerOf 60 = .ok (.iload_n 2, 1) := by decide +kernel
theorem dX12_answerOf_61 : decode cX12_answerOf 61 = .ok (.iconst (-1), 1) := by decide +kernel
theorem dX12_answerOf_62 : decode cX12_answerOf 62 = .ok (.ixor, 1) := by decide +kernel
theorem dX12_answerOf_63 : decode cX12_answerOf 63 = .ok (.iand, 1) := by decide +kernel
theorem dX12_answerOf_64 : decode cX12_answerOf 64 = .ok (.istore 4, 2) := by decide +kernel
theorem dX12_answerOf_66 : decode cX12_answerOf 66 = .ok (.iload_n 3, 1) := by decide +kernel
theorem dX12_answerOf_67 : decode cX12_answerOf 67 = .ok (.ifCond .eq 10, 3) := by decide +kernel
theorem dX12_answerOf_70 : decode cX12_answerOf 70 = .ok (.aload_n 0, 1) := by decide +kernel
theorem dX12_answerOf_71 : decode cX12_answerOf 71 = .ok (.getfield 292, 3) := by decide +kernel
theorem dX12_answerOf_74 : decode cX12_answerOf 74 = .ok (.goto 7, 3) := by decide +kernel
theorem dX12_answerOf_77 : decode cX12_answerOf 77 = .ok (.aload_n 0, 1) := by decide +kernel
theorem dX12_answerOf_78 : decode cX12_answerOf 78 = .ok (.getfield 289, 3) := by decide +kernel
theorem dX12_answerOf_81 : decode cX12_answerOf 81 = .ok (.istore 5, 2) := by decide +kernel
theorem dX12_answerOf_83 : decode cX12_answerOf 83 = .ok (.iconst 0, 1) := by decide +kernel
theorem dX12_answerOf_84 : decode cX12_answerOf 84 = .ok (.istore 6, 2) := by decide +kernel
theorem dX12_answerOf_86 : decode cX12_answerOf 86 = .ok (.iload 6, 2) := by decide +kernel
theorem dX12_answerOf_88 : decode cX12_answerOf 88 = .ok (.aload_n 0, 1) := by decide +kernel
theorem dX12_answerOf_89 : decode cX12_answerOf 89 = .ok (.getfield 198, 3) := by decide +kernel
theorem dX12_answerOf_92 : decode cX12_answerOf 92 = .ok (.if_icmp .ge 37, 3) := by decide +kernel
theorem dX12_answerOf_95 : decode cX12_answerOf 95 = .ok (.iload 5, 2) := by decide +kernel
theorem dX12_answerOf_97 : decode cX12_answerOf 97 = .ok (.iload 6, 2) := by decide +kernel
theorem dX12_answerOf_99 : decode cX12_answerOf 99 = .ok (.ishr, 1) := by decide +kernel
theorem dX12_answerOf_100 : decode cX12_answerOf 100 = .ok (.iconst 1, 1) := by decide +kernel
theorem dX12_answerOf_101 : decode cX12_answerOf 101 = .ok (.iand, 1) := by decide +kernel
theorem dX12_answerOf_102 : decode cX12_answerOf 102 = .ok (.iconst 1, 1) := by decide +kernel
theorem dX12_answerOf_103 : decode cX12_answerOf 103 = .ok (.if_icmp .ne 20, 3) := by decide +kernel
theorem dX12_answerOf_106 : decode cX12_answerOf 106 = .ok (.aload_n 0, 1) := by decide +kernel
theorem dX12_answerOf_107 : decode cX12_answerOf 107 = .ok (.iload 4, 2) := by decide +kernel
theorem dX12_answerOf_109 : decode cX12_answerOf 109 = .ok (.iconst 1, 1) := by decide +kernel
theorem dX12_answerOf_110 : decode cX12_answerOf 110 = .ok (.iload 6, 2) := by decide +kernel
theorem dX12_answerOf_112 : decode cX12_answerOf 112 = .ok (.ishl, 1) := by decide +kernel
theorem dX12_answerOf_113 : decode cX12_answerOf 113 = .ok (.ior, 1) := by decide +kernel
theorem dX12_answerOf_114 : decode cX12_answerOf 114 = .ok (.invokevirtual 233, 3) := by decide +kernel
theorem dX12_answerOf_117 : decode cX12_answerOf 117 = .ok (.ifCond .eq 6, 3) := by decide +kernel
theorem dX12_answerOf_120 : decode cX12_answerOf 120 = .ok (.iload 6, 2) := by decide +kernel
theorem dX12_answerOf_122 : decode cX12_answerOf 122 = .ok (.ireturn, 1) := by decide +kernel
theorem dX12_answerOf_123 : decode cX12_answerOf 123 = .ok (.iinc 6 1, 3) := by decide +kernel
theorem dX12_answerOf_126 : decode cX12_answerOf 126 = .ok (.goto (-40), 3) := by decide +kernel
theorem dX12_answerOf_129 : decode cX12_answerOf 129 = .ok (.iconst (-1), 1) := by decide +kernel
theorem dX12_answerOf_130 : decode cX12_answerOf 130 = .ok (.ireturn, 1) := by decide +kernel
theorem dX12_exchangeOf_0 : decode cX12_exchangeOf 0 = .ok (.iconst 1, 1) := by decide +kernel
theorem dX12_exchangeOf_1 : decode cX12_exchangeOf 1 = .ok (.iload_n 1, 1) := by decide +kernel
theorem dX12_exchangeOf_2 : decode cX12_exchangeOf 2 = .ok (.ishl, 1) := by decide +kernel
theorem dX12_exchangeOf_3 : decode cX12_exchangeOf 3 = .ok (.istore_n 2, 1) := by decide +kernel
theorem dX12_exchangeOf_4 : decode cX12_exchangeOf 4 = .ok (.aload_n 0, 1) := by decide +kernel
theorem dX12_exchangeOf_5 : decode cX12_exchangeOf 5 = .ok (.getfield 289, 3) := by decide +kernel
theorem dX12_exchangeOf_8 : decode cX12_exchangeOf 8 = .ok (.iload_n 2, 1) := by decide +kernel
theorem dX12_exchangeOf_9 : decode cX12_exchangeOf 9 = .ok (.iand, 1) := by decide +kernel
theorem dX12_exchangeOf_10 : decode cX12_exchangeOf 10 = .ok (.ifCond .eq 7, 3) := by decide +kernel
theorem dX12_exchangeOf_13 : decode cX12_exchangeOf 13 = .ok (.iconst 1, 1) := by decide +kernel
theorem dX12_exchangeOf_14 : decode cX12_exchangeOf 14 = .ok (.goto 4, 3) := by decide +kernel
theorem dX12_exchangeOf_17 : decode cX12_exchangeOf 17 = .ok (.iconst 0, 1) := by decide +kernel
theorem dX12_exchangeOf_18 : decode cX12_exchangeOf 18 = .ok (.istore_n 3, 1) := by decide +kernel
theorem dX12_exchangeOf_19 : decode cX12_exchangeOf 19 = .ok (.iload_n 3, 1) := by decide +kernel
theorem dX12_exchangeOf_20 : decode cX12_exchangeOf 20 = .ok (.ifCond .eq 10, 3) := by decide +kernel
theorem dX12_exchangeOf_23 : decode cX12_exchangeOf 23 = .ok (.aload_n 0, 1) := by decide +kernel
theorem dX12_exchangeOf_24 : decode cX12_exchangeOf 24 = .ok (.getfield 289, 3) := by decide +kernel
theorem dX12_exchangeOf_27 : decode cX12_exchangeOf 27 = .ok (.goto 7, 3) := by decide +kernel
theorem dX12_exchangeOf_30 : decode cX12_exchangeOf 30 = .ok (.aload_n 0, 1) := by decide +kernel
theorem dX12_exchangeOf_31 : decode cX12_exchangeOf 31 = .ok (.getfield 292, 3) := by decide +kernel
theorem dX12_exchangeOf_34 : decode cX12_exchangeOf 34 = .ok (.iload_n 2, 1) := by decide +kernel
theorem dX12_exchangeOf_35 : decode cX12_exchangeOf 35 = .ok (.iconst (-1), 1) := by decide +kernel
theorem dX12_exchangeOf_36 : decode cX12_exchangeOf 36 = .ok (.ixor, 1) := by decide +kernel
theorem dX12_exchangeOf_37 : decode cX12_exchangeOf 37 = .ok (.iand, 1) := by decide +kernel
theorem dX12_exchangeOf_38 : decode cX12_exchangeOf 38 = .ok (.istore 4, 2) := by decide +kernel
theorem dX12_exchangeOf_40 : decode cX12_exchangeOf 40 = .ok (.iload_n 3, 1) := by decide +kernel
theorem dX12_exchangeOf_41 : decode cX12_exchangeOf 41 = .ok (.ifCond .eq 10, 3) := by decide +kernel
theorem dX12_exchangeOf_44 : decode cX12_exchangeOf 44 = .ok (.aload_n 0, 1) := by decide +kernel
theorem dX12_exchangeOf_45 : decode cX12_exchangeOf 45 = .ok (.getfield 292, 3) := by decide +kernel
theorem dX12_exchangeOf_48 : decode cX12_exchangeOf 48 = .ok (.goto 7, 3) := by decide +kernel
theorem dX12_exchangeOf_51 : decode cX12_exchangeOf 51 = .ok (.aload_n 0, 1) := by decide +kernel
theorem dX12_exchangeOf_52 : decode cX12_exchangeOf 52 = .ok (.getfield 289, 3) := by decide +kernel
theorem dX12_exchangeOf_55 : decode cX12_exchangeOf 55 = .ok (.istore 5, 2) := by decide +kernel
theorem dX12_exchangeOf_57 : decode cX12_exchangeOf 57 = .ok (.iconst 0, 1) := by decide +kernel
theorem dX12_exchangeOf_58 : decode cX12_exchangeOf 58 = .ok (.istore 6, 2) := by decide +kernel
theorem dX12_exchangeOf_60 : decode cX12_exchangeOf 60 = .ok (.iload 6, 2) := by decide +kernel
theorem dX12_exchangeOf_62 : decode cX12_exchangeOf 62 = .ok (.aload_n 0, 1) := by decide +kernel
theorem dX12_exchangeOf_63 : decode cX12_exchangeOf 63 = .ok (.getfield 198, 3) := by decide +kernel
theorem dX12_exchangeOf_66 : decode cX12_exchangeOf 66 = .ok (.if_icmp .ge 55, 3) := by decide +kernel
theorem dX12_exchangeOf_69 : decode cX12_exchangeOf 69 = .ok (.iload 5, 2) := by decide +kernel
theorem dX12_exchangeOf_71 : decode cX12_exchangeOf 71 = .ok (.iload 6, 2) := by decide +kernel
theorem dX12_exchangeOf_73 : decode cX12_exchangeOf 73 = .ok (.ishr, 1) := by decide +kernel
theorem dX12_exchangeOf_74 : decode cX12_exchangeOf 74 = .ok (.iconst 1, 1) := by decide +kernel
theorem dX12_exchangeOf_75 : decode cX12_exchangeOf 75 = .ok (.iand, 1) := by decide +kernel
theorem dX12_exchangeOf_76 : decode cX12_exchangeOf 76 = .ok (.iconst 1, 1) := by decide +kernel
theorem dX12_exchangeOf_77 : decode cX12_exchangeOf 77 = .ok (.if_icmp .ne 38, 3) := by decide +kernel
theorem dX12_exchangeOf_80 : decode cX12_exchangeOf 80 = .ok (.aload_n 0, 1) := by decide +kernel
theorem dX12_exchangeOf_81 : decode cX12_exchangeOf 81 = .ok (.iload 4, 2) := by decide +kernel
theorem dX12_exchangeOf_83 : decode cX12_exchangeOf 83 = .ok (.iconst 1, 1) := by decide +kernel
theorem dX12_exchangeOf_84 : decode cX12_exchangeOf 84 = .ok (.iload 6, 2) := by decide +kernel
theorem dX12_exchangeOf_86 : decode cX12_exchangeOf 86 = .ok (.ishl, 1) := by decide +kernel
theorem dX12_exchangeOf_87 : decode cX12_exchangeOf 87 = .ok (.ior, 1) := by decide +kernel
theorem dX12_exchangeOf_88 : decode cX12_exchangeOf 88 = .ok (.invokevirtual 233, 3) := by decide +kernel
theorem dX12_exchangeOf_91 : decode cX12_exchangeOf 91 = .ok (.ifCond .eq 24, 3) := by decide +kernel
theorem dX12_exchangeOf_94 : decode cX12_exchangeOf 94 = .ok (.aload_n 0, 1) := by decide +kernel
theorem dX12_exchangeOf_95 : decode cX12_exchangeOf 95 = .ok (.iload 5, 2) := by decide +kernel
theorem dX12_exchangeOf_97 : decode cX12_exchangeOf 97 = .ok (.iconst 1, 1) := by decide +kernel
theorem dX12_exchangeOf_98 : decode cX12_exchangeOf 98 = .ok (.iload 6, 2) := by decide +kernel
theorem dX12_exchangeOf_100 : decode cX12_exchangeOf 100 = .ok (.ishl, 1) := by decide +kernel
theorem dX12_exchangeOf_101 : decode cX12_exchangeOf 101 = .ok (.iconst (-1), 1) := by decide +kernel
theorem dX12_exchangeOf_102 : decode cX12_exchangeOf 102 = .ok (.ixor, 1) := by decide +kernel
theorem dX12_exchangeOf_103 : decode cX12_exchangeOf 103 = .ok (.iand, 1) := by decide +kernel
theorem dX12_exchangeOf_104 : decode cX12_exchangeOf 104 = .ok (.iload_n 2, 1) := by decide +kernel
theorem dX12_exchangeOf_105 : decode cX12_exchangeOf 105 = .ok (.ior, 1) := by decide +kernel
theorem dX12_exchangeOf_106 : decode cX12_exchangeOf 106 = .ok (.invokevirtual 233, 3) := by decide +kernel
theorem dX12_exchangeOf_109 : decode cX12_exchangeOf 109 = .ok (.ifCond .eq 6, 3) := by decide +kernel
theorem dX12_exchangeOf_112 : decode cX12_exchangeOf 112 = .ok (.iload 6, 2) := by decide +kernel
theorem dX12_exchangeOf_114 : decode cX12_exchangeOf 114 = .ok (.ireturn, 1) := by decide +kernel
theorem dX12_exchangeOf_115 : decode cX12_exchangeOf 115 = .ok (.iinc 6 1, 3) := by decide +kernel
theorem dX12_exchangeOf_118 : decode cX12_exchangeOf 118 = .ok (.goto (-58), 3) := by decide +kernel
theorem dX12_exchangeOf_121 : decode cX12_exchangeOf 121 = .ok (.iconst (-1), 1) := by decide +kernel
theorem dX12_exchangeOf_122 : decode cX12_exchangeOf 122 = .ok (.ireturn, 1) := by decide +kernel
theorem dX12_isKnot_0 : decode cX12_isKnot 0 = .ok (.iload_n 1, 1) := by decide +kernel
theorem dX12_isKnot_1 : decode cX12_isKnot 1 = .ok (.ifCond .lt 15, 3) := by decide +kernel
theorem dX12_isKnot_4 : decode cX12_isKnot 4 = .ok (.iload_n 1, 1) := by decide +kernel
theorem dX12_isKnot_5 : decode cX12_isKnot 5 = .ok (.aload_n 0, 1) := by decide +kernel
theorem dX12_isKnot_6 : decode cX12_isKnot 6 = .ok (.getfield 64, 3) := by decide +kernel
theorem dX12_isKnot_9 : decode cX12_isKnot 9 = .ok (.if_icmp .ge 7, 3) := by decide +kernel
theorem dX12_isKnot_12 : decode cX12_isKnot 12 = .ok (.iconst 1, 1) := by decide +kernel
theorem dX12_isKnot_13 : decode cX12_isKnot 13 = .ok (.goto 4, 3) := by decide +kernel
theorem dX12_isKnot_16 : decode cX12_isKnot 16 = .ok (.iconst 0, 1) := by decide +kernel
theorem dX12_isKnot_17 : decode cX12_isKnot 17 = .ok (.ireturn, 1) := by decide +kernel
theorem dX12_isLine_0 : decode cX12_isLine 0 = .ok (.iload_n 1, 1) := by decide +kernel
theorem dX12_isLine_1 : decode cX12_isLine 1 = .ok (.ifCond .lt 15, 3) := by decide +kernel
theorem dX12_isLine_4 : decode cX12_isLine 4 = .ok (.iload_n 1, 1) := by decide +kernel
theorem dX12_isLine_5 : decode cX12_isLine 5 = .ok (.aload_n 0, 1) := by decide +kernel
theorem dX12_isLine_6 : decode cX12_isLine 6 = .ok (.getfield 198, 3) := by decide +kernel
theorem dX12_isLine_9 : decode cX12_isLine 9 = .ok (.if_icmp .ge 7, 3) := by decide +kernel
theorem dX12_isLine_12 : decode cX12_isLine 12 = .ok (.iconst 1, 1) := by decide +kernel
theorem dX12_isLine_13 : decode cX12_isLine 13 = .ok (.goto 4, 3) := by decide +kernel
theorem dX12_isLine_16 : decode cX12_isLine 16 = .ok (.iconst 0, 1) := by decide +kernel
theorem dX12_isLine_17 : decode cX12_isLine 17 = .ok (.ireturn, 1) := by decide +kernel
theorem dX12_isOpen_0 : decode cX12_isOpen 0 = .ok (.aload_n 0, 1) := by decide +kernel
theorem dX12_isOpen_1 : decode cX12_isOpen 1 = .ok (.invokevirtual 298, 3) := by decide +kernel
theorem dX12_isOpen_4 : decode cX12_isOpen 4 = .ok (.iload_n 1, 1) := by decide +kernel
theorem dX12_isOpen_5 : decode cX12_isOpen 5 = .ok (.ishr, 1) := by decide +kernel
theorem dX12_isOpen_6 : decode cX12_isOpen 6 = .ok (.iconst 1, 1) := by decide +kernel
theorem dX12_isOpen_7 : decode cX12_isOpen 7 = .ok (.iand, 1) := by decide +kernel
theorem dX12_isOpen_8 : decode cX12_isOpen 8 = .ok (.iconst 1, 1) := by decide +kernel
theorem dX12_isOpen_9 : decode cX12_isOpen 9 = .ok (.if_icmp .ne 7, 3) := by decide +kernel
theorem dX12_isOpen_12 : decode cX12_isOpen 12 = .ok (.iconst 1, 1) := by decide +kernel
theorem dX12_isOpen_13 : decode cX12_isOpen 13 = .ok (.goto 4, 3) := by decide +kernel
theorem dX12_isOpen_16 : decode cX12_isOpen 16 = .ok (.iconst 0, 1) := by decide +kernel
theorem dX12_isOpen_17 : decode cX12_isOpen 17 = .ok (.ireturn, 1) := by decide +kernel
theorem dX12_isOver_0 : decode cX12_isOver 0 = .ok (.aload_n 0, 1) := by decide +kernel
theorem dX12_isOver_1 : decode cX12_isOver 1 = .ok (.aload_n 0, 1) := by decide +kernel
theorem dX12_isOver_2 : decode cX12_isOver 2 = .ok (.getfield 201, 3) := by decide +kernel
theorem dX12_isOver_5 : decode cX12_isOver 5 = .ok (.aload_n 0, 1) := by decide +kernel
theorem dX12_isOver_6 : decode cX12_isOver 6 = .ok (.getfield 204, 3) := by decide +kernel
theorem dX12_isOver_9 : decode cX12_isOver 9 = .ok (.invokevirtual 301, 3) := by decide +kernel
theorem dX12_isOver_12 : decode cX12_isOver 12 = .ok (.iconst 2, 1) := by decide +kernel
theorem dX12_isOver_13 : decode cX12_isOver 13 = .ok (.if_icmp .eq 7, 3) := by decide +kernel
theorem dX12_isOver_16 : decode cX12_isOver 16 = .ok (.iconst 1, 1) := by decide +kernel
theorem dX12_isOver_17 : decode cX12_isOver 17 = .ok (.goto 4, 3) := by decide +kernel
theorem dX12_isOver_20 : decode cX12_isOver 20 = .ok (.iconst 0, 1) := by decide +kernel
theorem dX12_isOver_21 : decode cX12_isOver 21 = .ok (.ireturn, 1) := by decide +kernel
theorem dX12_line_0 : decode cX12_line 0 = .ok (.aload_n 0, 1) := by decide +kernel
theorem dX12_line_1 : decode cX12_line 1 = .ok (.iconst 0, 1) := by decide +kernel
theorem dX12_line_2 : decode cX12_line 2 = .ok (.putfield 73, 3) := by decide +kernel
theorem dX12_line_5 : decode cX12_line 5 = .ok (.aload_n 0, 1) := by decide +kernel
theorem dX12_line_6 : decode cX12_line 6 = .ok (.iload_n 1, 1) := by decide +kernel
theorem dX12_line_7 : decode cX12_line 7 = .ok (.invokevirtual 304, 3) := by decide +kernel
theorem dX12_line_10 : decode cX12_line 10 = .ok (.ifCond .ne 10, 3) := by decide +kernel
theorem dX12_line_13 : decode cX12_line 13 = .ok (.aload_n 0, 1) := by decide +kernel
theorem dX12_line_14 : decode cX12_line 14 = .ok (.iconst 1, 1) := by decide +kernel
theorem dX12_line_15 : decode cX12_line 15 = .ok (.putfield 73, 3) := by decide +kernel
theorem dX12_line_18 : decode cX12_line 18 = .ok (.iconst 0, 1) := by decide +kernel
theorem dX12_line_19 : decode cX12_line 19 = .ok (.ireturn, 1) := by decide +kernel
theorem dX12_line_20 : decode cX12_line 20 = .ok (.iload_n 2, 1) := by decide +kernel
theorem dX12_line_21 : decode cX12_line 21 = .ok (.tableswitch 75 0 2 #[27, 34, 41], 27) := by decide +kernel
theorem dX12_line_48 : decode cX12_line 48 = .ok (.aload_n 0, 1) := by decide +kernel
theorem dX12_line_49 : decode cX12_line 49 = .ok (.getfield 13, 3) := by decide +kernel
theorem dX12_line_52 : decode cX12_line 52 = .ok (.iload_n 1, 1) := by decide +kernel
theorem dX12_line_53 : decode cX12_line 53 = .ok (.iaload, 1) := by decide +kernel
theorem dX12_line_54 : decode cX12_line 54 = .ok (.ireturn, 1) := by decide +kernel
theorem dX12_line_55 : decode cX12_line 55 = .ok (.aload_n 0, 1) := by decide +kernel
theorem dX12_line_56 : decode cX12_line 56 = .ok (.getfield 16, 3) := by decide +kernel
theorem dX12_line_59 : decode cX12_line 59 = .ok (.iload_n 1, 1) := by decide +kernel
theorem dX12_line_60 : decode cX12_line 60 = .ok (.iaload, 1) := by decide +kernel
theorem dX12_line_61 : decode cX12_line 61 = .ok (.ireturn, 1) := by decide +kernel
theorem dX12_line_62 : decode cX12_line 62 = .ok (.aload_n 0, 1) := by decide +kernel
theorem dX12_line_63 : decode cX12_line 63 = .ok (.getfield 201, 3) := by decide +kernel
theorem dX12_line_66 : decode cX12_line 66 = .ok (.iload_n 1, 1) := by decide +kernel
theorem dX12_line_67 : decode cX12_line 67 = .ok (.ishr, 1) := by decide +kernel
theorem dX12_line_68 : decode cX12_line 68 = .ok (.iconst 1, 1) := by decide +kernel
theorem dX12_line_69 : decode cX12_line 69 = .ok (.iand, 1) := by decide +kernel
theorem dX12_line_70 : decode cX12_line 70 = .ok (.iconst 1, 1) := by decide +kernel
theorem dX12_line_71 : decode cX12_line 71 = .ok (.if_icmp .ne 7, 3) := by decide +kernel
theorem dX12_line_74 : decode cX12_line 74 = .ok (.iconst 1, 1) := by decide +kernel
theorem dX12_line_75 : decode cX12_line 75 = .ok (.goto 20, 3) := by decide +kernel
theorem dX12_line_78 : decode cX12_line 78 = .ok (.aload_n 0, 1) := by decide +kernel
theorem dX12_line_79 : decode cX12_line 79 = .ok (.getfield 204, 3) := by decide +kernel
theorem dX12_line_82 : decode cX12_line 82 = .ok (.iload_n 1, 1) := by decide +kernel
theorem dX12_line_83 : decode cX12_line 83 = .ok (.ishr, 1) := by decide +kernel
theorem dX12_line_84 : decode cX12_line 84 = .ok (.iconst 1, 1) := by decide +kernel
theorem dX12_line_85 : decode cX12_line 85 = .ok (.iand, 1) := by decide +kernel
theorem dX12_line_86 : decode cX12_line 86 = .ok (.iconst 1, 1) := by decide +kernel
theorem dX12_line_87 : decode cX12_line 87 = .ok (.if_icmp .ne 7, 3) := by decide +kernel
theorem dX12_line_90 : decode cX12_line 90 = .ok (.iconst 2, 1) := by decide +kernel
theorem dX12_line_91 : decode cX12_line 91 = .ok (.goto 4, 3) := by decide +kernel
theorem dX12_line_94 : decode cX12_line 94 = .ok (.iconst 0, 1) := by decide +kernel
theorem dX12_line_95 : decode cX12_line 95 = .ok (.ireturn, 1) := by decide +kernel
theorem dX12_line_96 : decode cX12_line 96 = .ok (.aload_n 0, 1) := by decide +kernel
theorem dX12_line_97 : decode cX12_line 97 = .ok (.iconst 2, 1) := by decide +kernel
theorem dX12_line_98 : decode cX12_line 98 = .ok (.putfield 73, 3) := by decide +kernel
theorem dX12_line_101 : decode cX12_line 101 = .ok (.iconst 0, 1) := by decide +kernel
theorem dX12_line_102 : decode cX12_line 102 = .ok (.ireturn, 1) := by decide +kernel
theorem dX12_place_0 : decode cX12_place 0 = .ok (.aload_n 0, 1) := by decide +kernel
theorem dX12_place_1 : decode cX12_place 1 = .ok (.iconst 0, 1) := by decide +kernel
theorem dX12_place_2 : decode cX12_place 2 = .ok (.putfield 73, 3) := by decide +kernel
theorem dX12_place_5 : decode cX12_place 5 = .ok (.aload_n 0, 1) := by decide +kernel
theorem dX12_place_6 : decode cX12_place 6 = .ok (.iload_n 1, 1) := by decide +kernel
theorem dX12_place_7 : decode cX12_place 7 = .ok (.invokevirtual 307, 3) := by decide +kernel
theorem dX12_place_10 : decode cX12_place 10 = .ok (.ifCond .ne 5, 3) := by decide +kernel
theorem dX12_place_13 : decode cX12_place 13 = .ok (.iconst (-1), 1) := by decide +kernel
theorem dX12_place_14 : decode cX12_place 14 = .ok (.ireturn, 1) := by decide +kernel
theorem dX12_place_15 : decode cX12_place 15 = .ok (.aload_n 0, 1) := by decide +kernel
theorem dX12_place_16 : decode cX12_place 16 = .ok (.aload_n 0, 1) := by decide +kernel
theorem dX12_place_17 : decode cX12_place 17 = .ok (.getfield 201, 3) := by decide +kernel
theorem dX12_place_20 : decode cX12_place 20 = .ok (.invokevirtual 220, 3) := by decide +kernel
theorem dX12_place_23 : decode cX12_place 23 = .ok (.aload_n 0, 1) := by decide +kernel
theorem dX12_place_24 : decode cX12_place 24 = .ok (.getfield 32, 3) := by decide +kernel
theorem dX12_place_27 : decode cX12_place 27 = .ok (.iload_n 1, 1) := by decide +kernel
theorem dX12_place_28 : decode cX12_place 28 = .ok (.iaload, 1) := by decide +kernel
theorem dX12_place_29 : decode cX12_place 29 = .ok (.ireturn, 1) := by decide +kernel
theorem dX12_reaches_0 : decode cX12_reaches 0 = .ok (.aload_n 0, 1) := by decide +kernel
theorem dX12_reaches_1 : decode cX12_reaches 1 = .ok (.iconst 0, 1) := by decide +kernel
theorem dX12_reaches_2 : decode cX12_reaches 2 = .ok (.putfield 73, 3) := by decide +kernel
theorem dX12_reaches_5 : decode cX12_reaches 5 = .ok (.aload_n 0, 1) := by decide +kernel
theorem dX12_reaches_6 : decode cX12_reaches 6 = .ok (.iload_n 1, 1) := by decide +kernel
theorem dX12_reaches_7 : decode cX12_reaches 7 = .ok (.invokevirtual 307, 3) := by decide +kernel
theorem dX12_reaches_10 : decode cX12_reaches 10 = .ok (.ifCond .eq 12, 3) := by decide +kernel
theorem dX12_reaches_13 : decode cX12_reaches 13 = .ok (.iload_n 2, 1) := by decide +kernel
theorem dX12_reaches_14 : decode cX12_reaches 14 = .ok (.ifCond .lt 8, 3) := by decide +kernel
theorem dX12_reaches_17 : decode cX12_reaches 17 = .ok (.iload_n 2, 1) := by decide +kernel
theorem dX12_reaches_18 : decode cX12_reaches 18 = .ok (.iconst 1, 1) := by decide +kernel
theorem dX12_reaches_19 : decode cX12_reaches 19 = .ok (.if_icmp .le 5, 3) := by decide +kernel
theorem dX12_reaches_22 : decode cX12_reaches 22 = .ok (.iconst (-1), 1) := by decide +kernel
theorem dX12_reaches_23 : decode cX12_reaches 23 = .ok (.ireturn, 1) := by decide +kernel
theorem dX12_reaches_24 : decode cX12_reaches 24 = .ok (.aload_n 0, 1) := by decide +kernel
theorem dX12_reaches_25 : decode cX12_reaches 25 = .ok (.iload_n 2, 1) := by decide +kernel
theorem dX12_reaches_26 : decode cX12_reaches 26 = .ok (.ifCond .ne 10, 3) := by decide +kernel
theorem dX12_reaches_29 : decode cX12_reaches 29 = .ok (.aload_n 0, 1) := by decide +kernel
theorem dX12_reaches_30 : decode cX12_reaches 30 = .ok (.getfield 201, 3) := by decide +kernel
theorem dX12_reaches_33 : decode cX12_reaches 33 = .ok (.goto 14, 3) := by decide +kernel
theorem dX12_reaches_36 : decode cX12_reaches 36 = .ok (.aload_n 0, 1) := by decide +kernel
theorem dX12_reaches_37 : decode cX12_reaches 37 = .ok (.invokevirtual 223, 3) := by decide +kernel
theorem dX12_reaches_40 : decode cX12_reaches 40 = .ok (.aload_n 0, 1) := by decide +kernel
theorem dX12_reaches_41 : decode cX12_reaches 41 = .ok (.getfield 204, 3) := by decide +kernel
theorem dX12_reaches_44 : decode cX12_reaches 44 = .ok (.iconst (-1), 1) := by decide +kernel
theorem dX12_reaches_45 : decode cX12_reaches 45 = .ok (.ixor, 1) := by decide +kernel
theorem dX12_reaches_46 : decode cX12_reaches 46 = .ok (.iand, 1) := by decide +kernel
theorem dX12_reaches_47 : decode cX12_reaches 47 = .ok (.invokevirtual 220, 3) := by decide +kernel
theorem dX12_reaches_50 : decode cX12_reaches 50 = .ok (.iconst 0, 1) := by decide +kernel
theorem dX12_reaches_51 : decode cX12_reaches 51 = .ok (.istore_n 3, 1) := by decide +kernel
theorem dX12_reaches_52 : decode cX12_reaches 52 = .ok (.iconst 0, 1) := by decide +kernel
theorem dX12_reaches_53 : decode cX12_reaches 53 = .ok (.istore 4, 2) := by decide +kernel
theorem dX12_reaches_55 : decode cX12_reaches 55 = .ok (.iload 4, 2) := by decide +kernel
theorem dX12_reaches_57 : decode cX12_reaches 57 = .ok (.aload_n 0, 1) := by decide +kernel
theorem dX12_reaches_58 : decode cX12_reaches 58 = .ok (.getfield 64, 3) := by decide +kernel
theorem dX12_reaches_61 : decode cX12_reaches 61 = .ok (.if_icmp .ge 36, 3) := by decide +kernel
theorem dX12_reaches_64 : decode cX12_reaches 64 = .ok (.iload_n 3, 1) := by decide +kernel
theorem dX12_reaches_65 : decode cX12_reaches 65 = .ok (.aload_n 0, 1) := by decide +kernel
theorem dX12_reaches_66 : decode cX12_reaches 66 = .ok (.getfield 32, 3) := by decide +kernel
theorem dX12_reaches_69 : decode cX12_reaches 69 = .ok (.iload 4, 2) := by decide +kernel
theorem dX12_reaches_71 : decode cX12_reaches 71 = .ok (.iaload, 1) := by decide +kernel
theorem dX12_reaches_72 : decode cX12_reaches 72 = .ok (.aload_n 0, 1) := by decide +kernel
theorem dX12_reaches_73 : decode cX12_reaches 73 = .ok (.getfield 32, 3) := by decide +kernel
theorem dX12_reaches_76 : decode cX12_reaches 76 = .ok (.iload_n 1, 1) := by decide +kernel
theorem dX12_reaches_77 : decode cX12_reaches 77 = .ok (.iaload, 1) := by decide +kernel
theorem dX12_reaches_78 : decode cX12_reaches 78 = .ok (.if_icmp .ne 10, 3) := by decide +kernel
theorem dX12_reaches_81 : decode cX12_reaches 81 = .ok (.iconst 1, 1) := by decide +kernel
theorem dX12_reaches_82 : decode cX12_reaches 82 = .ok (.iload 4, 2) := by decide +kernel
theorem dX12_reaches_84 : decode cX12_reaches 84 = .ok (.ishl, 1) := by decide +kernel
theorem dX12_reaches_85 : decode cX12_reaches 85 = .ok (.goto 4, 3) := by decide +kernel
theorem dX12_reaches_88 : decode cX12_reaches 88 = .ok (.iconst 0, 1) := by decide +kernel
theorem dX12_reaches_89 : decode cX12_reaches 89 = .ok (.ior, 1) := by decide +kernel
theorem dX12_reaches_90 : decode cX12_reaches 90 = .ok (.istore_n 3, 1) := by decide +kernel
theorem dX12_reaches_91 : decode cX12_reaches 91 = .ok (.iinc 4 1, 3) := by decide +kernel
theorem dX12_reaches_94 : decode cX12_reaches 94 = .ok (.goto (-39), 3) := by decide +kernel
theorem dX12_reaches_97 : decode cX12_reaches 97 = .ok (.iload_n 3, 1) := by decide +kernel
theorem dX12_reaches_98 : decode cX12_reaches 98 = .ok (.ireturn, 1) := by decide +kernel
theorem dX12_writes_0 : decode cX12_writes 0 = .ok (.aload_n 0, 1) := by decide +kernel
theorem dX12_writes_1 : decode cX12_writes 1 = .ok (.getfield 213, 3) := by decide +kernel
theorem dX12_writes_4 : decode cX12_writes 4 = .ok (.bipush 40, 2) := by decide +kernel
theorem dX12_writes_6 : decode cX12_writes 6 = .ok (.if_icmp .ne 43, 3) := by decide +kernel
theorem dX12_writes_9 : decode cX12_writes 9 = .ok (.iconst 0, 1) := by decide +kernel
theorem dX12_writes_10 : decode cX12_writes 10 = .ok (.istore_n 2, 1) := by decide +kernel
theorem dX12_writes_11 : decode cX12_writes 11 = .ok (.iload_n 2, 1) := by decide +kernel
theorem dX12_writes_12 : decode cX12_writes 12 = .ok (.iconst 1, 1) := by decide +kernel
theorem dX12_writes_13 : decode cX12_writes 13 = .ok (.iadd, 1) := by decide +kernel
theorem dX12_writes_14 : decode cX12_writes 14 = .ok (.bipush 40, 2) := by decide +kernel
theorem dX12_writes_16 : decode cX12_writes 16 = .ok (.if_icmp .ge 23, 3) := by decide +kernel
theorem dX12_writes_19 : decode cX12_writes 19 = .ok (.aload_n 0, 1) := by decide +kernel
theorem dX12_writes_20 : decode cX12_writes 20 = .ok (.getfield 19, 3) := by decide +kernel
theorem dX12_writes_23 : decode cX12_writes 23 = .ok (.iload_n 2, 1) := by decide +kernel
theorem dX12_writes_24 : decode cX12_writes 24 = .ok (.aload_n 0, 1) := by decide +kernel
theorem dX12_writes_25 : decode cX12_writes 25 = .ok (.getfield 19, 3) := by decide +kernel
theorem dX12_writes_28 : decode cX12_writes 28 = .ok (.iload_n 2, 1) := by decide +kernel
theorem dX12_writes_29 : decode cX12_writes 29 = .ok (.iconst 1, 1) := by decide +kernel
theorem dX12_writes_30 : decode cX12_writes 30 = .ok (.iadd, 1) := by decide +kernel
theorem dX12_writes_31 : decode cX12_writes 31 = .ok (.iaload, 1) := by decide +kernel
theorem dX12_writes_32 : decode cX12_writes 32 = .ok (.iastore, 1) := by decide +kernel
theorem dX12_writes_33 : decode cX12_writes 33 = .ok (.iinc 2 1, 3) := by decide +kernel
theorem dX12_writes_36 : decode cX12_writes 36 = .ok (.goto (-25), 3) := by decide +kernel
theorem dX12_writes_39 : decode cX12_writes 39 = .ok (.aload_n 0, 1) := by decide +kernel
theorem dX12_writes_40 : decode cX12_writes 40 = .ok (.dup, 1) := by decide +kernel
theorem dX12_writes_41 : decode cX12_writes 41 = .ok (.getfield 213, 3) := by decide +kernel
theorem dX12_writes_44 : decode cX12_writes 44 = .ok (.iconst 1, 1) := by decide +kernel
theorem dX12_writes_45 : decode cX12_writes 45 = .ok (.isub, 1) := by decide +kernel
theorem dX12_writes_46 : decode cX12_writes 46 = .ok (.putfield 213, 3) := by decide +kernel
theorem dX12_writes_49 : decode cX12_writes 49 = .ok (.aload_n 0, 1) := by decide +kernel
theorem dX12_writes_50 : decode cX12_writes 50 = .ok (.getfield 19, 3) := by decide +kernel
theorem dX12_writes_53 : decode cX12_writes 53 = .ok (.aload_n 0, 1) := by decide +kernel
theorem dX12_writes_54 : decode cX12_writes 54 = .ok (.getfield 213, 3) := by decide +kernel
theorem dX12_writes_57 : decode cX12_writes 57 = .ok (.iload_n 1, 1) := by decide +kernel
theorem dX12_writes_58 : decode cX12_writes 58 = .ok (.iastore, 1) := by decide +kernel
theorem dX12_writes_59 : decode cX12_writes 59 = .ok (.aload_n 0, 1) := by decide +kernel
theorem dX12_writes_60 : decode cX12_writes 60 = .ok (.dup, 1) := by decide +kernel
theorem dX12_writes_61 : decode cX12_writes 61 = .ok (.getfield 213, 3) := by decide +kernel
theorem dX12_writes_64 : decode cX12_writes 64 = .ok (.iconst 1, 1) := by decide +kernel
theorem dX12_writes_65 : decode cX12_writes 65 = .ok (.iadd, 1) := by decide +kernel
theorem dX12_writes_66 : decode cX12_writes 66 = .ok (.putfield 213, 3) := by decide +kernel
theorem dX12_writes_69 : decode cX12_writes 69 = .ok (.aload_n 0, 1) := by decide +kernel
theorem dX12_writes_70 : decode cX12_writes 70 = .ok (.iconst 1, 1) := by decide +kernel
theorem dX12_writes_71 : decode cX12_writes 71 = .ok (.aload_n 0, 1) := by decide +kernel
theorem dX12_writes_72 : decode cX12_writes 72 = .ok (.getfield 70, 3) := by decide +kernel
theorem dX12_writes_75 : decode cX12_writes 75 = .ok (.isub, 1) := by decide +kernel
theorem dX12_writes_76 : decode cX12_writes 76 = .ok (.putfield 70, 3) := by decide +kernel
theorem dX12_writes_79 : decode cX12_writes 79 = .ok (.return_, 1) := by decide +kernel
theorem dX12_move_0 : decode cX12_move 0 = .ok (.aload_n 0, 1) := by decide +kernel
theorem dX12_move_1 : decode cX12_move 1 = .ok (.iconst 0, 1) := by decide +kernel
theorem dX12_move_2 : decode cX12_move 2 = .ok (.putfield 73, 3) := by decide +kernel
theorem dX12_move_5 : decode cX12_move 5 = .ok (.aload_n 0, 1) := by decide +kernel
theorem dX12_move_6 : decode cX12_move 6 = .ok (.iload_n 1, 1) := by decide +kernel
theorem dX12_move_7 : decode cX12_move 7 = .ok (.invokevirtual 304, 3) := by decide +kernel
theorem dX12_move_10 : decode cX12_move 10 = .ok (.ifCond .ne 5, 3) := by decide +kernel
theorem dX12_move_13 : decode cX12_move 13 = .ok (.iconst (-1), 1) := by decide +kernel
theorem dX12_move_14 : decode cX12_move 14 = .ok (.ireturn, 1) := by decide +kernel
theorem dX12_move_15 : decode cX12_move 15 = .ok (.aload_n 0, 1) := by decide +kernel
theorem dX12_move_16 : decode cX12_move 16 = .ok (.iload_n 1, 1) := by decide +kernel
theorem dX12_move_17 : decode cX12_move 17 = .ok (.invokevirtual 310, 3) := by decide +kernel
theorem dX12_move_20 : decode cX12_move 20 = .ok (.ifCond .ne 6, 3) := by decide +kernel
theorem dX12_move_23 : decode cX12_move 23 = .ok (.bipush (-2), 2) := by decide +kernel
theorem dX12_move_25 : decode cX12_move 25 = .ok (.ireturn, 1) := by decide +kernel
theorem dX12_move_26 : decode cX12_move 26 = .ok (.aload_n 0, 1) := by decide +kernel
theorem dX12_move_27 : decode cX12_move 27 = .ok (.invokevirtual 313, 3) := by decide +kernel
theorem dX12_move_30 : decode cX12_move 30 = .ok (.ifCond .eq 6, 3) := by decide +kernel
theorem dX12_move_33 : decode cX12_move 33 = .ok (.bipush (-3), 2) := by decide +kernel
theorem dX12_move_35 : decode cX12_move 35 = .ok (.ireturn, 1) := by decide +kernel
theorem dX12_move_36 : decode cX12_move 36 = .ok (.aload_n 0, 1) := by decide +kernel
theorem dX12_move_37 : decode cX12_move 37 = .ok (.getfield 70, 3) := by decide +kernel
theorem dX12_move_40 : decode cX12_move 40 = .ok (.ifCond .ne 18, 3) := by decide +kernel
theorem dX12_move_43 : decode cX12_move 43 = .ok (.aload_n 0, 1) := by decide +kernel
theorem dX12_move_44 : decode cX12_move 44 = .ok (.dup, 1) := by decide +kernel
theorem dX12_move_45 : decode cX12_move 45 = .ok (.getfield 201, 3) := by decide +kernel
theorem dX12_move_48 : decode cX12_move 48 = .ok (.iconst 1, 1) := by decide +kernel
theorem dX12_move_49 : decode cX12_move 49 = .ok (.iload_n 1, 1) := by decide +kernel
theorem dX12_move_50 : decode cX12_move 50 = .ok (.ishl, 1) := by decide +kernel
theorem dX12_move_51 : decode cX12_move 51 = .ok (.ior, 1) := by decide +kernel
theorem dX12_move_52 : decode cX12_move 52 = .ok (.putfield 201, 3) := by decide +kernel
theorem dX12_move_55 : decode cX12_move 55 = .ok (.goto 15, 3) := by decide +kernel
theorem dX12_move_58 : decode cX12_move 58 = .ok (.aload_n 0, 1) := by decide +kernel
theorem dX12_move_59 : decode cX12_move 59 = .ok (.dup, 1) := by decide +kernel
theorem dX12_move_60 : decode cX12_move 60 = .ok (.getfield 204, 3) := by decide +kernel
theorem dX12_move_63 : decode cX12_move 63 = .ok (.iconst 1, 1) := by decide +kernel
theorem dX12_move_64 : decode cX12_move 64 = .ok (.iload_n 1, 1) := by decide +kernel
theorem dX12_move_65 : decode cX12_move 65 = .ok (.ishl, 1) := by decide +kernel
theorem dX12_move_66 : decode cX12_move 66 = .ok (.ior, 1) := by decide +kernel
theorem dX12_move_67 : decode cX12_move 67 = .ok (.putfield 204, 3) := by decide +kernel
theorem dX12_move_70 : decode cX12_move 70 = .ok (.aload_n 0, 1) := by decide +kernel
theorem dX12_move_71 : decode cX12_move 71 = .ok (.iload_n 1, 1) := by decide +kernel
theorem dX12_move_72 : decode cX12_move 72 = .ok (.invokevirtual 317, 3) := by decide +kernel
theorem dX12_move_75 : decode cX12_move 75 = .ok (.aload_n 0, 1) := by decide +kernel
theorem dX12_move_76 : decode cX12_move 76 = .ok (.aload_n 0, 1) := by decide +kernel
theorem dX12_move_77 : decode cX12_move 77 = .ok (.getfield 201, 3) := by decide +kernel
theorem dX12_move_80 : decode cX12_move 80 = .ok (.aload_n 0, 1) := by decide +kernel
theorem dX12_move_81 : decode cX12_move 81 = .ok (.getfield 204, 3) := by decide +kernel
theorem dX12_move_84 : decode cX12_move 84 = .ok (.invokevirtual 301, 3) := by decide +kernel
theorem dX12_move_87 : decode cX12_move 87 = .ok (.ireturn, 1) := by decide +kernel
theorem dX12_pass_0 : decode cX12_pass 0 = .ok (.aload_n 0, 1) := by decide +kernel
theorem dX12_pass_1 : decode cX12_pass 1 = .ok (.iconst 0, 1) := by decide +kernel
theorem dX12_pass_2 : decode cX12_pass 2 = .ok (.putfield 73, 3) := by decide +kernel
theorem dX12_pass_5 : decode cX12_pass 5 = .ok (.aload_n 0, 1) := by decide +kernel
theorem dX12_pass_6 : decode cX12_pass 6 = .ok (.invokevirtual 313, 3) := by decide +kernel
theorem dX12_pass_9 : decode cX12_pass 9 = .ok (.ifCond .eq 5, 3) := by decide +kernel
theorem dX12_pass_12 : decode cX12_pass 12 = .ok (.iconst 0, 1) := by decide +kernel
theorem dX12_pass_13 : decode cX12_pass 13 = .ok (.ireturn, 1) := by decide +kernel
theorem dX12_pass_14 : decode cX12_pass 14 = .ok (.aload_n 0, 1) := by decide +kernel
theorem dX12_pass_15 : decode cX12_pass 15 = .ok (.bipush (-2), 2) := by decide +kernel
theorem dX12_pass_17 : decode cX12_pass 17 = .ok (.invokevirtual 317, 3) := by decide +kernel
theorem dX12_pass_20 : decode cX12_pass 20 = .ok (.iconst 1, 1) := by decide +kernel
theorem dX12_pass_21 : decode cX12_pass 21 = .ok (.ireturn, 1) := by decide +kernel
theorem dX12_undo_0 : decode cX12_undo 0 = .ok (.aload_n 0, 1) := by decide +kernel
theorem dX12_undo_1 : decode cX12_undo 1 = .ok (.iconst 0, 1) := by decide +kernel
theorem dX12_undo_2 : decode cX12_undo 2 = .ok (.putfield 73, 3) := by decide +kernel
theorem dX12_undo_5 : decode cX12_undo 5 = .ok (.aload_n 0, 1) := by decide +kernel
theorem dX12_undo_6 : decode cX12_undo 6 = .ok (.getfield 213, 3) := by decide +kernel
theorem dX12_undo_9 : decode cX12_undo 9 = .ok (.ifCond .ne 5, 3) := by decide +kernel
theorem dX12_undo_12 : decode cX12_undo 12 = .ok (.iconst (-1), 1) := by decide +kernel
theorem dX12_undo_13 : decode cX12_undo 13 = .ok (.ireturn, 1) := by decide +kernel
theorem dX12_undo_14 : decode cX12_undo 14 = .ok (.aload_n 0, 1) := by decide +kernel
theorem dX12_undo_15 : decode cX12_undo 15 = .ok (.dup, 1) := by decide +kernel
theorem dX12_undo_16 : decode cX12_undo 16 = .ok (.getfield 213, 3) := by decide +kernel
theorem dX12_undo_19 : decode cX12_undo 19 = .ok (.iconst 1, 1) := by decide +kernel
theorem dX12_undo_20 : decode cX12_undo 20 = .ok (.isub, 1) := by decide +kernel
theorem dX12_undo_21 : decode cX12_undo 21 = .ok (.putfield 213, 3) := by decide +kernel
theorem dX12_undo_24 : decode cX12_undo 24 = .ok (.aload_n 0, 1) := by decide +kernel
theorem dX12_undo_25 : decode cX12_undo 25 = .ok (.iconst 1, 1) := by decide +kernel
theorem dX12_undo_26 : decode cX12_undo 26 = .ok (.aload_n 0, 1) := by decide +kernel
theorem dX12_undo_27 : decode cX12_undo 27 = .ok (.getfield 70, 3) := by decide +kernel
theorem dX12_undo_30 : decode cX12_undo 30 = .ok (.isub, 1) := by decide +kernel
theorem dX12_undo_31 : decode cX12_undo 31 = .ok (.putfield 70, 3) := by decide +kernel
theorem dX12_undo_34 : decode cX12_undo 34 = .ok (.aload_n 0, 1) := by decide +kernel
theorem dX12_undo_35 : decode cX12_undo 35 = .ok (.getfield 19, 3) := by decide +kernel
theorem dX12_undo_38 : decode cX12_undo 38 = .ok (.aload_n 0, 1) := by decide +kernel
theorem dX12_undo_39 : decode cX12_undo 39 = .ok (.getfield 213, 3) := by decide +kernel
theorem dX12_undo_42 : decode cX12_undo 42 = .ok (.iaload, 1) := by decide +kernel
theorem dX12_undo_43 : decode cX12_undo 43 = .ok (.istore_n 1, 1) := by decide +kernel
theorem dX12_undo_44 : decode cX12_undo 44 = .ok (.iload_n 1, 1) := by decide +kernel
theorem dX12_undo_45 : decode cX12_undo 45 = .ok (.ifCond .lt 31, 3) := by decide +kernel
theorem dX12_undo_48 : decode cX12_undo 48 = .ok (.aload_n 0, 1) := by decide +kernel
theorem dX12_undo_49 : decode cX12_undo 49 = .ok (.dup, 1) := by decide +kernel
theorem dX12_undo_50 : decode cX12_undo 50 = .ok (.getfield 201, 3) := by decide +kernel
theorem dX12_undo_53 : decode cX12_undo 53 = .ok (.iconst 1, 1) := by decide +kernel
theorem dX12_undo_54 : decode cX12_undo 54 = .ok (.iload_n 1, 1) := by decide +kernel
theorem dX12_undo_55 : decode cX12_undo 55 = .ok (.ishl, 1) := by decide +kernel
theorem dX12_undo_56 : decode cX12_undo 56 = .ok (.iconst (-1), 1) := by decide +kernel
theorem dX12_undo_57 : decode cX12_undo 57 = .ok (.ixor, 1) := by decide +kernel
theorem dX12_undo_58 : decode cX12_undo 58 = .ok (.iand, 1) := by decide +kernel
theorem dX12_undo_59 : decode cX12_undo 59 = .ok (.putfield 201, 3) := by decide +kernel
theorem dX12_undo_62 : decode cX12_undo 62 = .ok (.aload_n 0, 1) := by decide +kernel
theorem dX12_undo_63 : decode cX12_undo 63 = .ok (.dup, 1) := by decide +kernel
theorem dX12_undo_64 : decode cX12_undo 64 = .ok (.getfield 204, 3) := by decide +kernel
theorem dX12_undo_67 : decode cX12_undo 67 = .ok (.iconst 1, 1) := by decide +kernel
theorem dX12_undo_68 : decode cX12_undo 68 = .ok (.iload_n 1, 1) := by decide +kernel
theorem dX12_undo_69 : decode cX12_undo 69 = .ok (.ishl, 1) := by decide +kernel
theorem dX12_undo_70 : decode cX12_undo 70 = .ok (.iconst (-1), 1) := by decide +kernel
theorem dX12_undo_71 : decode cX12_undo 71 = .ok (.ixor, 1) := by decide +kernel
theorem dX12_undo_72 : decode cX12_undo 72 = .ok (.iand, 1) := by decide +kernel
theorem dX12_undo_73 : decode cX12_undo 73 = .ok (.putfield 204, 3) := by decide +kernel
theorem dX12_undo_76 : decode cX12_undo 76 = .ok (.iload_n 1, 1) := by decide +kernel
theorem dX12_undo_77 : decode cX12_undo 77 = .ok (.ireturn, 1) := by decide +kernel
theorem dX12_written_0 : decode cX12_written 0 = .ok (.aload_n 0, 1) := by decide +kernel
theorem dX12_written_1 : decode cX12_written 1 = .ok (.iconst 0, 1) := by decide +kernel
theorem dX12_written_2 : decode cX12_written 2 = .ok (.putfield 73, 3) := by decide +kernel
theorem dX12_written_5 : decode cX12_written 5 = .ok (.iload_n 1, 1) := by decide +kernel
theorem dX12_written_6 : decode cX12_written 6 = .ok (.ifCond .ge 5, 3) := by decide +kernel
theorem dX12_written_9 : decode cX12_written 9 = .ok (.iconst (-1), 1) := by decide +kernel
theorem dX12_written_10 : decode cX12_written 10 = .ok (.ireturn, 1) := by decide +kernel
theorem dX12_written_11 : decode cX12_written 11 = .ok (.iload_n 1, 1) := by decide +kernel
theorem dX12_written_12 : decode cX12_written 12 = .ok (.aload_n 0, 1) := by decide +kernel
theorem dX12_written_13 : decode cX12_written 13 = .ok (.getfield 213, 3) := by decide +kernel
theorem dX12_written_16 : decode cX12_written 16 = .ok (.if_icmp .lt 8, 3) := by decide +kernel
theorem dX12_written_19 : decode cX12_written 19 = .ok (.bipush (-2), 2) := by decide +kernel
theorem dX12_written_21 : decode cX12_written 21 = .ok (.goto 25, 3) := by decide +kernel
theorem dX12_written_24 : decode cX12_written 24 = .ok (.aload_n 0, 1) := by decide +kernel
theorem dX12_written_25 : decode cX12_written 25 = .ok (.getfield 19, 3) := by decide +kernel
theorem dX12_written_28 : decode cX12_written 28 = .ok (.iload_n 1, 1) := by decide +kernel
theorem dX12_written_29 : decode cX12_written 29 = .ok (.iaload, 1) := by decide +kernel
theorem dX12_written_30 : decode cX12_written 30 = .ok (.bipush (-2), 2) := by decide +kernel
theorem dX12_written_32 : decode cX12_written 32 = .ok (.if_icmp .ne 8, 3) := by decide +kernel
theorem dX12_written_35 : decode cX12_written 35 = .ok (.bipush (-3), 2) := by decide +kernel
theorem dX12_written_37 : decode cX12_written 37 = .ok (.goto 9, 3) := by decide +kernel
theorem dX12_written_40 : decode cX12_written 40 = .ok (.aload_n 0, 1) := by decide +kernel
theorem dX12_written_41 : decode cX12_written 41 = .ok (.getfield 19, 3) := by decide +kernel
theorem dX12_written_44 : decode cX12_written 44 = .ok (.iload_n 1, 1) := by decide +kernel
theorem dX12_written_45 : decode cX12_written 45 = .ok (.iaload, 1) := by decide +kernel
theorem dX12_written_46 : decode cX12_written 46 = .ok (.ireturn, 1) := by decide +kernel
theorem dX12_placesNow_0 : decode cX12_placesNow 0 = .ok (.aload_n 0, 1) := by decide +kernel
theorem dX12_placesNow_1 : decode cX12_placesNow 1 = .ok (.aload_n 0, 1) := by decide +kernel
theorem dX12_placesNow_2 : decode cX12_placesNow 2 = .ok (.getfield 201, 3) := by decide +kernel
theorem dX12_placesNow_5 : decode cX12_placesNow 5 = .ok (.invokevirtual 256, 3) := by decide +kernel
theorem dX12_placesNow_8 : decode cX12_placesNow 8 = .ok (.aload_n 0, 1) := by decide +kernel
theorem dX12_placesNow_9 : decode cX12_placesNow 9 = .ok (.invokevirtual 259, 3) := by decide +kernel
theorem dX12_placesNow_12 : decode cX12_placesNow 12 = .ok (.invokestatic 250, 3) := by decide +kernel
theorem dX12_placesNow_15 : decode cX12_placesNow 15 = .ok (.ireturn, 1) := by decide +kernel
theorem dX12_now_0 : decode cX12_now 0 = .ok (.aload_n 0, 1) := by decide +kernel
theorem dX12_now_1 : decode cX12_now 1 = .ok (.iconst 0, 1) := by decide +kernel
theorem dX12_now_2 : decode cX12_now 2 = .ok (.putfield 73, 3) := by decide +kernel
theorem dX12_now_5 : decode cX12_now 5 = .ok (.iload_n 1, 1) := by decide +kernel
theorem dX12_now_6 : decode cX12_now 6 = .ok (.tableswitch 94 0 6 #[42, 47, 60, 68, 76, 84, 89], 42) := by decide +kernel
theorem dX12_now_48 : decode cX12_now 48 = .ok (.aload_n 0, 1) := by decide +kernel
theorem dX12_now_49 : decode cX12_now 49 = .ok (.getfield 70, 3) := by decide +kernel
theorem dX12_now_52 : decode cX12_now 52 = .ok (.ireturn, 1) := by decide +kernel
theorem dX12_now_53 : decode cX12_now 53 = .ok (.aload_n 0, 1) := by decide +kernel
theorem dX12_now_54 : decode cX12_now 54 = .ok (.aload_n 0, 1) := by decide +kernel
theorem dX12_now_55 : decode cX12_now 55 = .ok (.getfield 201, 3) := by decide +kernel
theorem dX12_now_58 : decode cX12_now 58 = .ok (.aload_n 0, 1) := by decide +kernel
theorem dX12_now_59 : decode cX12_now 59 = .ok (.getfield 204, 3) := by decide +kernel
theorem dX12_now_62 : decode cX12_now 62 = .ok (.invokevirtual 301, 3) := by decide +kernel
theorem dX12_now_65 : decode cX12_now 65 = .ok (.ireturn, 1) := by decide +kernel
theorem dX12_now_66 : decode cX12_now 66 = .ok (.aload_n 0, 1) := by decide +kernel
theorem dX12_now_67 : decode cX12_now 67 = .ok (.invokevirtual 298, 3) := by decide +kernel
theorem dX12_now_70 : decode cX12_now 70 = .ok (.invokestatic 250, 3) := by decide +kernel
theorem dX12_now_73 : decode cX12_now 73 = .ok (.ireturn, 1) := by decide +kernel
theorem dX12_now_74 : decode cX12_now 74 = .ok (.aload_n 0, 1) := by decide +kernel
theorem dX12_now_75 : decode cX12_now 75 = .ok (.getfield 201, 3) := by decide +kernel
theorem dX12_now_78 : decode cX12_now 78 = .ok (.invokestatic 250, 3) := by decide +kernel
theorem dX12_now_81 : decode cX12_now 81 = .ok (.ireturn, 1) := by decide +kernel
theorem dX12_now_82 : decode cX12_now 82 = .ok (.aload_n 0, 1) := by decide +kernel
theorem dX12_now_83 : decode cX12_now 83 = .ok (.getfield 204, 3) := by decide +kernel
theorem dX12_now_86 : decode cX12_now 86 = .ok (.invokestatic 250, 3) := by decide +kernel
theorem dX12_now_89 : decode cX12_now 89 = .ok (.ireturn, 1) := by decide +kernel
theorem dX12_now_90 : decode cX12_now 90 = .ok (.aload_n 0, 1) := by decide +kernel
theorem dX12_now_91 : decode cX12_now 91 = .ok (.invokevirtual 320, 3) := by decide +kernel
theorem dX12_now_94 : decode cX12_now 94 = .ok (.ireturn, 1) := by decide +kernel
theorem dX12_now_95 : decode cX12_now 95 = .ok (.aload_n 0, 1) := by decide +kernel
theorem dX12_now_96 : decode cX12_now 96 = .ok (.getfield 213, 3) := by decide +kernel
theorem dX12_now_99 : decode cX12_now 99 = .ok (.ireturn, 1) := by decide +kernel
theorem dX12_now_100 : decode cX12_now 100 = .ok (.iconst (-1), 1) := by decide +kernel
theorem dX12_now_101 : decode cX12_now 101 = .ok (.ireturn, 1) := by decide +kernel
theorem dX12_pair_0 : decode cX12_pair 0 = .ok (.aload_n 0, 1) := by decide +kernel
theorem dX12_pair_1 : decode cX12_pair 1 = .ok (.iconst 0, 1) := by decide +kernel
theorem dX12_pair_2 : decode cX12_pair 2 = .ok (.putfield 73, 3) := by decide +kernel
theorem dX12_pair_5 : decode cX12_pair 5 = .ok (.iload_n 1, 1) := by decide +kernel
theorem dX12_pair_6 : decode cX12_pair 6 = .ok (.ifCond .lt 8, 3) := by decide +kernel
theorem dX12_pair_9 : decode cX12_pair 9 = .ok (.iload_n 1, 1) := by decide +kernel
theorem dX12_pair_10 : decode cX12_pair 10 = .ok (.iconst 3, 1) := by decide +kernel
theorem dX12_pair_11 : decode cX12_pair 11 = .ok (.if_icmp .le 5, 3) := by decide +kernel
theorem dX12_pair_14 : decode cX12_pair 14 = .ok (.iconst (-1), 1) := by decide +kernel
theorem dX12_pair_15 : decode cX12_pair 15 = .ok (.ireturn, 1) := by decide +kernel
theorem dX12_pair_16 : decode cX12_pair 16 = .ok (.aload_n 0, 1) := by decide +kernel
theorem dX12_pair_17 : decode cX12_pair 17 = .ok (.aload_n 0, 1) := by decide +kernel
theorem dX12_pair_18 : decode cX12_pair 18 = .ok (.getfield 201, 3) := by decide +kernel
theorem dX12_pair_21 : decode cX12_pair 21 = .ok (.aload_n 0, 1) := by decide +kernel
theorem dX12_pair_22 : decode cX12_pair 22 = .ok (.getfield 204, 3) := by decide +kernel
theorem dX12_pair_25 : decode cX12_pair 25 = .ok (.invokevirtual 323, 3) := by decide +kernel
theorem dX12_pair_28 : decode cX12_pair 28 = .ok (.ifCond .ne 6, 3) := by decide +kernel
theorem dX12_pair_31 : decode cX12_pair 31 = .ok (.bipush (-2), 2) := by decide +kernel
theorem dX12_pair_33 : decode cX12_pair 33 = .ok (.ireturn, 1) := by decide +kernel
theorem dX12_pair_34 : decode cX12_pair 34 = .ok (.iload_n 1, 1) := by decide +kernel
theorem dX12_pair_35 : decode cX12_pair 35 = .ok (.ifCond .ne 10, 3) := by decide +kernel
theorem dX12_pair_38 : decode cX12_pair 38 = .ok (.aload_n 0, 1) := by decide +kernel
theorem dX12_pair_39 : decode cX12_pair 39 = .ok (.getfield 282, 3) := by decide +kernel
theorem dX12_pair_42 : decode cX12_pair 42 = .ok (.goto 34, 3) := by decide +kernel
theorem dX12_pair_45 : decode cX12_pair 45 = .ok (.iload_n 1, 1) := by decide +kernel
theorem dX12_pair_46 : decode cX12_pair 46 = .ok (.iconst 1, 1) := by decide +kernel
theorem dX12_pair_47 : decode cX12_pair 47 = .ok (.if_icmp .ne 10, 3) := by decide +kernel
theorem dX12_pair_50 : decode cX12_pair 50 = .ok (.aload_n 0, 1) := by decide +kernel
theorem dX12_pair_51 : decode cX12_pair 51 = .ok (.getfield 289, 3) := by decide +kernel
theorem dX12_pair_54 : decode cX12_pair 54 = .ok (.goto 22, 3) := by decide +kernel
theorem dX12_pair_57 : decode cX12_pair 57 = .ok (.iload_n 1, 1) := by decide +kernel
theorem dX12_pair_58 : decode cX12_pair 58 = .ok (.iconst 2, 1) := by decide +kernel
theorem dX12_pair_59 : decode cX12_pair 59 = .ok (.if_icmp .ne 10, 3) := by decide +kernel
theorem dX12_pair_62 : decode cX12_pair 62 = .ok (.aload_n 0, 1) := by decide +kernel
theorem dX12_pair_63 : decode cX12_pair 63 = .ok (.getfield 292, 3) := by decide +kernel
theorem dX12_pair_66 : decode cX12_pair 66 = .ok (.goto 10, 3) := by decide +kernel
theorem dX12_pair_69 : decode cX12_pair 69 = .ok (.aload_n 0, 1) := by decide +kernel
theorem dX12_pair_70 : decode cX12_pair 70 = .ok (.getfield 282, 3) := by decide +kernel
theorem dX12_pair_73 : decode cX12_pair 73 = .ok (.invokestatic 250, 3) := by decide +kernel
theorem dX12_pair_76 : decode cX12_pair 76 = .ok (.ireturn, 1) := by decide +kernel
theorem dX12_set_0 : decode cX12_set 0 = .ok (.aload_n 0, 1) := by decide +kernel
theorem dX12_set_1 : decode cX12_set 1 = .ok (.iconst 0, 1) := by decide +kernel
theorem dX12_set_2 : decode cX12_set 2 = .ok (.putfield 73, 3) := by decide +kernel
theorem dX12_set_5 : decode cX12_set 5 = .ok (.iload_n 1, 1) := by decide +kernel
theorem dX12_set_6 : decode cX12_set 6 = .ok (.ifCond .ge 5, 3) := by decide +kernel
theorem dX12_set_9 : decode cX12_set 9 = .ok (.iconst (-1), 1) := by decide +kernel
theorem dX12_set_10 : decode cX12_set 10 = .ok (.ireturn, 1) := by decide +kernel
theorem dX12_set_11 : decode cX12_set 11 = .ok (.aload_n 0, 1) := by decide +kernel
theorem dX12_set_12 : decode cX12_set 12 = .ok (.aload_n 0, 1) := by decide +kernel
theorem dX12_set_13 : decode cX12_set 13 = .ok (.getfield 201, 3) := by decide +kernel
theorem dX12_set_16 : decode cX12_set 16 = .ok (.aload_n 0, 1) := by decide +kernel
theorem dX12_set_17 : decode cX12_set 17 = .ok (.getfield 204, 3) := by decide +kernel
theorem dX12_set_20 : decode cX12_set 20 = .ok (.iload_n 1, 1) := by decide +kernel
theorem dX12_set_21 : decode cX12_set 21 = .ok (.invokevirtual 278, 3) := by decide +kernel
theorem dX12_set_24 : decode cX12_set 24 = .ok (.istore_n 2, 1) := by decide +kernel
theorem dX12_set_25 : decode cX12_set 25 = .ok (.iload_n 2, 1) := by decide +kernel
theorem dX12_set_26 : decode cX12_set 26 = .ok (.iconst (-1), 1) := by decide +kernel
theorem dX12_set_27 : decode cX12_set 27 = .ok (.if_icmp .ne 8, 3) := by decide +kernel
theorem dX12_set_30 : decode cX12_set 30 = .ok (.bipush (-2), 2) := by decide +kernel
theorem dX12_set_32 : decode cX12_set 32 = .ok (.goto 4, 3) := by decide +kernel
theorem dX12_set_35 : decode cX12_set 35 = .ok (.iload_n 2, 1) := by decide +kernel
theorem dX12_set_36 : decode cX12_set 36 = .ok (.ireturn, 1) := by decide +kernel
theorem dX12_outcome_0 : decode cX12_outcome 0 = .ok (.aload_n 0, 1) := by decide +kernel
theorem dX12_outcome_1 : decode cX12_outcome 1 = .ok (.iconst 0, 1) := by decide +kernel
theorem dX12_outcome_2 : decode cX12_outcome 2 = .ok (.putfield 73, 3) := by decide +kernel
theorem dX12_outcome_5 : decode cX12_outcome 5 = .ok (.aload_n 0, 1) := by decide +kernel
theorem dX12_outcome_6 : decode cX12_outcome 6 = .ok (.aload_n 0, 1) := by decide +kernel
theorem dX12_outcome_7 : decode cX12_outcome 7 = .ok (.getfield 201, 3) := by decide +kernel
theorem dX12_outcome_10 : decode cX12_outcome 10 = .ok (.aload_n 0, 1) := by decide +kernel
theorem dX12_outcome_11 : decode cX12_outcome 11 = .ok (.getfield 204, 3) := by decide +kernel
theorem dX12_outcome_14 : decode cX12_outcome 14 = .ok (.invokevirtual 326, 3) := by decide +kernel
theorem dX12_outcome_17 : decode cX12_outcome 17 = .ok (.ireturn, 1) := by decide +kernel
theorem dX12_winAt_0 : decode cX12_winAt 0 = .ok (.aload_n 0, 1) := by decide +kernel
theorem dX12_winAt_1 : decode cX12_winAt 1 = .ok (.iload_n 2, 1) := by decide +kernel
theorem dX12_winAt_2 : decode cX12_winAt 2 = .ok (.iload_n 3, 1) := by decide +kernel
theorem dX12_winAt_3 : decode cX12_winAt 3 = .ok (.invokevirtual 301, 3) := by decide +kernel
theorem dX12_winAt_6 : decode cX12_winAt 6 = .ok (.iconst 2, 1) := by decide +kernel
theorem dX12_winAt_7 : decode cX12_winAt 7 = .ok (.if_icmp .eq 5, 3) := by decide +kernel
theorem dX12_winAt_10 : decode cX12_winAt 10 = .ok (.iconst (-1), 1) := by decide +kernel
theorem dX12_winAt_11 : decode cX12_winAt 11 = .ok (.ireturn, 1) := by decide +kernel
theorem dX12_winAt_12 : decode cX12_winAt 12 = .ok (.iload 4, 2) := by decide +kernel
theorem dX12_winAt_14 : decode cX12_winAt 14 = .ok (.istore 5, 2) := by decide +kernel
theorem dX12_winAt_16 : decode cX12_winAt 16 = .ok (.aload_n 0, 1) := by decide +kernel
theorem dX12_winAt_17 : decode cX12_winAt 17 = .ok (.iload_n 2, 1) := by decide +kernel
theorem dX12_winAt_18 : decode cX12_winAt 18 = .ok (.iload_n 3, 1) := by decide +kernel
theorem dX12_winAt_19 : decode cX12_winAt 19 = .ok (.invokevirtual 226, 3) := by decide +kernel
theorem dX12_winAt_22 : decode cX12_winAt 22 = .ok (.istore 6, 2) := by decide +kernel
theorem dX12_winAt_24 : decode cX12_winAt 24 = .ok (.iconst 0, 1) := by decide +kernel
theorem dX12_winAt_25 : decode cX12_winAt 25 = .ok (.istore 7, 2) := by decide +kernel
theorem dX12_winAt_27 : decode cX12_winAt 27 = .ok (.iload 7, 2) := by decide +kernel
theorem dX12_winAt_29 : decode cX12_winAt 29 = .ok (.aload_n 0, 1) := by decide +kernel
theorem dX12_winAt_30 : decode cX12_winAt 30 = .ok (.getfield 198, 3) := by decide +kernel
theorem dX12_winAt_33 : decode cX12_winAt 33 = .ok (.if_icmp .ge 45, 3) := by decide +kernel
theorem dX12_winAt_36 : decode cX12_winAt 36 = .ok (.iload 6, 2) := by decide +kernel
theorem dX12_winAt_38 : decode cX12_winAt 38 = .ok (.iload 7, 2) := by decide +kernel
theorem dX12_winAt_40 : decode cX12_winAt 40 = .ok (.ishr, 1) := by decide +kernel
theorem dX12_winAt_41 : decode cX12_winAt 41 = .ok (.iconst 1, 1) := by decide +kernel
theorem dX12_winAt_42 : decode cX12_winAt 42 = .ok (.iand, 1) := by decide +kernel
theorem dX12_winAt_43 : decode cX12_winAt 43 = .ok (.ifCond .eq 29, 3) := by decide +kernel
theorem dX12_winAt_46 : decode cX12_winAt 46 = .ok (.aload_n 0, 1) := by decide +kernel
theorem dX12_winAt_47 : decode cX12_winAt 47 = .ok (.iload_n 1, 1) := by decide +kernel
theorem dX12_winAt_48 : decode cX12_winAt 48 = .ok (.iload 7, 2) := by decide +kernel
theorem dX12_winAt_50 : decode cX12_winAt 50 = .ok (.iload_n 2, 1) := by decide +kernel
theorem dX12_winAt_51 : decode cX12_winAt 51 = .ok (.iload_n 3, 1) := by decide +kernel
theorem dX12_winAt_52 : decode cX12_winAt 52 = .ok (.invokevirtual 329, 3) := by decide +kernel
theorem dX12_winAt_55 : decode cX12_winAt 55 = .ok (.ifCond .ne 6, 3) := by decide +kernel
theorem dX12_winAt_58 : decode cX12_winAt 58 = .ok (.goto 14, 3) := by decide +kernel
theorem dX12_winAt_61 : decode cX12_winAt 61 = .ok (.iload 5, 2) := by decide +kernel
theorem dX12_winAt_63 : decode cX12_winAt 63 = .ok (.ifCond .ne 6, 3) := by decide +kernel
theorem dX12_winAt_66 : decode cX12_winAt 66 = .ok (.iload 7, 2) := by decide +kernel
theorem dX12_winAt_68 : decode cX12_winAt 68 = .ok (.ireturn, 1) := by decide +kernel
theorem dX12_winAt_69 : decode cX12_winAt 69 = .ok (.iinc 5 (-1), 3) := by decide +kernel
theorem dX12_winAt_72 : decode cX12_winAt 72 = .ok (.iinc 7 1, 3) := by decide +kernel
theorem dX12_winAt_75 : decode cX12_winAt 75 = .ok (.goto (-48), 3) := by decide +kernel
theorem dX12_winAt_78 : decode cX12_winAt 78 = .ok (.iconst (-1), 1) := by decide +kernel
theorem dX12_winAt_79 : decode cX12_winAt 79 = .ok (.ireturn, 1) := by decide +kernel
theorem dX12_wins_0 : decode cX12_wins 0 = .ok (.aload_n 0, 1) := by decide +kernel
theorem dX12_wins_1 : decode cX12_wins 1 = .ok (.iconst 0, 1) := by decide +kernel
theorem dX12_wins_2 : decode cX12_wins 2 = .ok (.putfield 73, 3) := by decide +kernel
theorem dX12_wins_5 : decode cX12_wins 5 = .ok (.iload_n 1, 1) := by decide +kernel
theorem dX12_wins_6 : decode cX12_wins 6 = .ok (.ifCond .lt 12, 3) := by decide +kernel
theorem dX12_wins_9 : decode cX12_wins 9 = .ok (.iload_n 1, 1) := by decide +kernel
theorem dX12_wins_10 : decode cX12_wins 10 = .ok (.iconst 1, 1) := by decide +kernel
theorem dX12_wins_11 : decode cX12_wins 11 = .ok (.if_icmp .gt 7, 3) := by decide +kernel
theorem dX12_wins_14 : decode cX12_wins 14 = .ok (.iload_n 2, 1) := by decide +kernel
theorem dX12_wins_15 : decode cX12_wins 15 = .ok (.ifCond .ge 5, 3) := by decide +kernel
theorem dX12_wins_18 : decode cX12_wins 18 = .ok (.iconst (-1), 1) := by decide +kernel
theorem dX12_wins_19 : decode cX12_wins 19 = .ok (.ireturn, 1) := by decide +kernel
theorem dX12_wins_20 : decode cX12_wins 20 = .ok (.aload_n 0, 1) := by decide +kernel
theorem dX12_wins_21 : decode cX12_wins 21 = .ok (.iload_n 1, 1) := by decide +kernel
theorem dX12_wins_22 : decode cX12_wins 22 = .ok (.aload_n 0, 1) := by decide +kernel
theorem dX12_wins_23 : decode cX12_wins 23 = .ok (.getfield 201, 3) := by decide +kernel
theorem dX12_wins_26 : decode cX12_wins 26 = .ok (.aload_n 0, 1) := by decide +kernel
theorem dX12_wins_27 : decode cX12_wins 27 = .ok (.getfield 204, 3) := by decide +kernel
theorem dX12_wins_30 : decode cX12_wins 30 = .ok (.iload_n 2, 1) := by decide +kernel
theorem dX12_wins_31 : decode cX12_wins 31 = .ok (.invokevirtual 333, 3) := by decide +kernel
theorem dX12_wins_34 : decode cX12_wins 34 = .ok (.istore_n 3, 1) := by decide +kernel
theorem dX12_wins_35 : decode cX12_wins 35 = .ok (.iload_n 3, 1) := by decide +kernel
theorem dX12_wins_36 : decode cX12_wins 36 = .ok (.iconst (-1), 1) := by decide +kernel
theorem dX12_wins_37 : decode cX12_wins 37 = .ok (.if_icmp .ne 8, 3) := by decide +kernel
theorem dX12_wins_40 : decode cX12_wins 40 = .ok (.bipush (-2), 2) := by decide +kernel
theorem dX12_wins_42 : decode cX12_wins 42 = .ok (.goto 4, 3) := by decide +kernel
theorem dX12_wins_45 : decode cX12_wins 45 = .ok (.iload_n 3, 1) := by decide +kernel
theorem dX12_wins_46 : decode cX12_wins 46 = .ok (.ireturn, 1) := by decide +kernel
theorem dX12_answer_0 : decode cX12_answer 0 = .ok (.aload_n 0, 1) := by decide +kernel
theorem dX12_answer_1 : decode cX12_answer 1 = .ok (.iconst 0, 1) := by decide +kernel
theorem dX12_answer_2 : decode cX12_answer 2 = .ok (.putfield 73, 3) := by decide +kernel
theorem dX12_answer_5 : decode cX12_answer 5 = .ok (.aload_n 0, 1) := by decide +kernel
theorem dX12_answer_6 : decode cX12_answer 6 = .ok (.iload_n 1, 1) := by decide +kernel
theorem dX12_answer_7 : decode cX12_answer 7 = .ok (.invokevirtual 304, 3) := by decide +kernel
theorem dX12_answer_10 : decode cX12_answer 10 = .ok (.ifCond .ne 5, 3) := by decide +kernel
theorem dX12_answer_13 : decode cX12_answer 13 = .ok (.iconst (-1), 1) := by decide +kernel
theorem dX12_answer_14 : decode cX12_answer 14 = .ok (.ireturn, 1) := by decide +kernel
theorem dX12_answer_15 : decode cX12_answer 15 = .ok (.aload_n 0, 1) := by decide +kernel
theorem dX12_answer_16 : decode cX12_answer 16 = .ok (.iload_n 1, 1) := by decide +kernel
theorem dX12_answer_17 : decode cX12_answer 17 = .ok (.invokevirtual 310, 3) := by decide +kernel
theorem dX12_answer_20 : decode cX12_answer 20 = .ok (.ifCond .ne 6, 3) := by decide +kernel
theorem dX12_answer_23 : decode cX12_answer 23 = .ok (.bipush (-2), 2) := by decide +kernel
theorem dX12_answer_25 : decode cX12_answer 25 = .ok (.ireturn, 1) := by decide +kernel
theorem dX12_answer_26 : decode cX12_answer 26 = .ok (.aload_n 0, 1) := by decide +kernel
theorem dX12_answer_27 : decode cX12_answer 27 = .ok (.aload_n 0, 1) := by decide +kernel
theorem dX12_answer_28 : decode cX12_answer 28 = .ok (.getfield 201, 3) := by decide +kernel
theorem dX12_answer_31 : decode cX12_answer 31 = .ok (.aload_n 0, 1) := by decide +kernel
theorem dX12_answer_32 : decode cX12_answer 32 = .ok (.getfield 204, 3) := by decide +kernel
theorem dX12_answer_35 : decode cX12_answer 35 = .ok (.invokevirtual 323, 3) := by decide +kernel
theorem dX12_answer_38 : decode cX12_answer 38 = .ok (.ifCond .eq 11, 3) := by decide +kernel
theorem dX12_answer_41 : decode cX12_answer 41 = .ok (.aload_n 0, 1) := by decide +kernel
theorem dX12_answer_42 : decode cX12_answer 42 = .ok (.iload_n 1, 1) := by decide +kernel
theorem dX12_answer_43 : decode cX12_answer 43 = .ok (.invokevirtual 337, 3) := by decide +kernel
theorem dX12_answer_46 : decode cX12_answer 46 = .ok (.goto 5, 3) := by decide +kernel
theorem dX12_answer_49 : decode cX12_answer 49 = .ok (.bipush (-3), 2) := by decide +kernel
theorem dX12_answer_51 : decode cX12_answer 51 = .ok (.ireturn, 1) := by decide +kernel
theorem dX12_exchange_0 : decode cX12_exchange 0 = .ok (.aload_n 0, 1) := by decide +kernel
theorem dX12_exchange_1 : decode cX12_exchange 1 = .ok (.iconst 0, 1) := by decide +kernel
theorem dX12_exchange_2 : decode cX12_exchange 2 = .ok (.putfield 73, 3) := by decide +kernel
theorem dX12_exchange_5 : decode cX12_exchange 5 = .ok (.aload_n 0, 1) := by decide +kernel
theorem dX12_exchange_6 : decode cX12_exchange 6 = .ok (.iload_n 1, 1) := by decide +kernel
theorem dX12_exchange_7 : decode cX12_exchange 7 = .ok (.invokevirtual 304, 3) := by decide +kernel
theorem dX12_exchange_10 : decode cX12_exchange 10 = .ok (.ifCond .ne 5, 3) := by decide +kernel
theorem dX12_exchange_13 : decode cX12_exchange 13 = .ok (.iconst (-1), 1) := by decide +kernel
theorem dX12_exchange_14 : decode cX12_exchange 14 = .ok (.ireturn, 1) := by decide +kernel
theorem dX12_exchange_15 : decode cX12_exchange 15 = .ok (.aload_n 0, 1) := by decide +kernel
theorem dX12_exchange_16 : decode cX12_exchange 16 = .ok (.aload_n 0, 1) := by decide +kernel
theorem dX12_exchange_17 : decode cX12_exchange 17 = .ok (.getfield 201, 3) := by decide +kernel
theorem dX12_exchange_20 : decode cX12_exchange 20 = .ok (.aload_n 0, 1) := by decide +kernel
theorem dX12_exchange_21 : decode cX12_exchange 21 = .ok (.getfield 204, 3) := by decide +kernel
theorem dX12_exchange_24 : decode cX12_exchange 24 = .ok (.invokevirtual 323, 3) := by decide +kernel
theorem dX12_exchange_27 : decode cX12_exchange 27 = .ok (.ifCond .ne 6, 3) := by decide +kernel
theorem dX12_exchange_30 : decode cX12_exchange 30 = .ok (.bipush (-3), 2) := by decide +kernel
theorem dX12_exchange_32 : decode cX12_exchange 32 = .ok (.ireturn, 1) := by decide +kernel
theorem dX12_exchange_33 : decode cX12_exchange 33 = .ok (.aload_n 0, 1) := by decide +kernel
theorem dX12_exchange_34 : decode cX12_exchange 34 = .ok (.getfield 289, 3) := by decide +kernel
theorem dX12_exchange_37 : decode cX12_exchange 37 = .ok (.aload_n 0, 1) := by decide +kernel
theorem dX12_exchange_38 : decode cX12_exchange 38 = .ok (.getfield 292, 3) := by decide +kernel
theorem dX12_exchange_41 : decode cX12_exchange 41 = .ok (.ior, 1) := by decide +kernel
theorem dX12_exchange_42 : decode cX12_exchange 42 = .ok (.iload_n 1, 1) := by decide +kernel
theorem dX12_exchange_43 : decode cX12_exchange 43 = .ok (.ishr, 1) := by decide +kernel
theorem dX12_exchange_44 : decode cX12_exchange 44 = .ok (.iconst 1, 1) := by decide +kernel
theorem dX12_exchange_45 : decode cX12_exchange 45 = .ok (.iand, 1) := by decide +kernel
theorem dX12_exchange_46 : decode cX12_exchange 46 = .ok (.iconst 1, 1) := by decide +kernel
theorem dX12_exchange_47 : decode cX12_exchange 47 = .ok (.if_icmp .ne 11, 3) := by decide +kernel
theorem dX12_exchange_50 : decode cX12_exchange 50 = .ok (.aload_n 0, 1) := by decide +kernel
theorem dX12_exchange_51 : decode cX12_exchange 51 = .ok (.iload_n 1, 1) := by decide +kernel
theorem dX12_exchange_52 : decode cX12_exchange 52 = .ok (.invokevirtual 340, 3) := by decide +kernel
theorem dX12_exchange_55 : decode cX12_exchange 55 = .ok (.goto 5, 3) := by decide +kernel
theorem dX12_exchange_58 : decode cX12_exchange 58 = .ok (.bipush (-2), 2) := by decide +kernel
theorem dX12_exchange_60 : decode cX12_exchange 60 = .ok (.ireturn, 1) := by decide +kernel
theorem dX12_plays_0 : decode cX12_plays 0 = .ok (.aload_n 0, 1) := by decide +kernel
theorem dX12_plays_1 : decode cX12_plays 1 = .ok (.getfield 201, 3) := by decide +kernel
theorem dX12_plays_4 : decode cX12_plays 4 = .ok (.istore_n 1, 1) := by decide +kernel
theorem dX12_plays_5 : decode cX12_plays 5 = .ok (.aload_n 0, 1) := by decide +kernel
theorem dX12_plays_6 : decode cX12_plays 6 = .ok (.getfield 204, 3) := by decide +kernel
theorem dX12_plays_9 : decode cX12_plays 9 = .ok (.istore_n 2, 1) := by decide +kernel
theorem dX12_plays_10 : decode cX12_plays 10 = .ok (.aload_n 0, 1) := by decide +kernel
theorem dX12_plays_11 : decode cX12_plays 11 = .ok (.getfield 70, 3) := by decide +kernel
theorem dX12_plays_14 : decode cX12_plays 14 = .ok (.istore_n 3, 1) := by decide +kernel
theorem dX12_plays_15 : decode cX12_plays 15 = .ok (.aload_n 0, 1) := by decide +kernel
theorem dX12_plays_16 : decode cX12_plays 16 = .ok (.iconst 0, 1) := by decide +kernel
theorem dX12_plays_17 : decode cX12_plays 17 = .ok (.putfield 343, 3) := by decide +kernel
theorem dX12_plays_20 : decode cX12_plays 20 = .ok (.aload_n 0, 1) := by decide +kernel
theorem dX12_plays_21 : decode cX12_plays 21 = .ok (.iload_n 1, 1) := by decide +kernel
theorem dX12_plays_22 : decode cX12_plays 22 = .ok (.iload_n 2, 1) := by decide +kernel
theorem dX12_plays_23 : decode cX12_plays 23 = .ok (.invokevirtual 301, 3) := by decide +kernel
theorem dX12_plays_26 : decode cX12_plays 26 = .ok (.iconst 2, 1) := by decide +kernel
theorem dX12_plays_27 : decode cX12_plays 27 = .ok (.if_icmp .ne 79, 3) := by decide +kernel
theorem dX12_plays_30 : decode cX12_plays 30 = .ok (.aload_n 0, 1) := by decide +kernel
theorem dX12_plays_31 : decode cX12_plays 31 = .ok (.iload_n 3, 1) := by decide +kernel
theorem dX12_plays_32 : decode cX12_plays 32 = .ok (.iload_n 1, 1) := by decide +kernel
theorem dX12_plays_33 : decode cX12_plays 33 = .ok (.iload_n 2, 1) := by decide +kernel
theorem dX12_plays_34 : decode cX12_plays 34 = .ok (.iconst 0, 1) := by decide +kernel
theorem dX12_plays_35 : decode cX12_plays 35 = .ok (.invokevirtual 333, 3) := by decide +kernel
theorem dX12_plays_38 : decode cX12_plays 38 = .ok (.istore 4, 2) := by decide +kernel
theorem dX12_plays_40 : decode cX12_plays 40 = .ok (.iload 4, 2) := by decide +kernel
theorem dX12_plays_42 : decode cX12_plays 42 = .ok (.iconst (-1), 1) := by decide +kernel
theorem dX12_plays_43 : decode cX12_plays 43 = .ok (.if_icmp .ne 14, 3) := by decide +kernel
theorem dX12_plays_46 : decode cX12_plays 46 = .ok (.aload_n 0, 1) := by decide +kernel
theorem dX12_plays_47 : decode cX12_plays 47 = .ok (.iload_n 1, 1) := by decide +kernel
theorem dX12_plays_48 : decode cX12_plays 48 = .ok (.iload_n 2, 1) := by decide +kernel
theorem dX12_plays_49 : decode cX12_plays 49 = .ok (.invokevirtual 226, 3) := by decide +kernel
theorem dX12_plays_52 : decode cX12_plays 52 = .ok (.invokestatic 295, 3) := by decide +kernel
theorem dX12_plays_55 : decode cX12_plays 55 = .ok (.istore 4, 2) := by decide +kernel
theorem dX12_plays_57 : decode cX12_plays 57 = .ok (.iload_n 3, 1) := by decide +kernel
theorem dX12_plays_58 : decode cX12_plays 58 = .ok (.ifCond .ne 13, 3) := by decide +kernel
theorem dX12_plays_61 : decode cX12_plays 61 = .ok (.iload_n 1, 1) := by decide +kernel
theorem dX12_plays_62 : decode cX12_plays 62 = .ok (.iconst 1, 1) := by decide +kernel
theorem dX12_plays_63 : decode cX12_plays 63 = .ok (.iload 4, 2) := by decide +kernel
theorem dX12_plays_65 : decode cX12_plays 65 = .ok (.ishl, 1) := by decide +kernel
theorem dX12_plays_66 : decode cX12_plays 66 = .ok (.ior, 1) := by decide +kernel
theorem dX12_plays_67 : decode cX12_plays 67 = .ok (.istore_n 1, 1) := by decide +kernel
theorem dX12_plays_68 : decode cX12_plays 68 = .ok (.goto 10, 3) := by decide +kernel
theorem dX12_plays_71 : decode cX12_plays 71 = .ok (.iload_n 2, 1) := by decide +kernel
theorem dX12_plays_72 : decode cX12_plays 72 = .ok (.iconst 1, 1) := by decide +kernel
theorem dX12_plays_73 : decode cX12_plays 73 = .ok (.iload 4, 2) := by decide +kernel
theorem dX12_plays_75 : decode cX12_plays 75 = .ok (.ishl, 1) := by decide +kernel
theorem dX12_plays_76 : decode cX12_plays 76 = .ok (.ior, 1) := by decide +kernel
theorem dX12_plays_77 : decode cX12_plays 77 = .ok (.istore_n 2, 1) := by decide +kernel
theorem dX12_plays_78 : decode cX12_plays 78 = .ok (.aload_n 0, 1) := by decide +kernel
theorem dX12_plays_79 : decode cX12_plays 79 = .ok (.getfield 53, 3) := by decide +kernel
theorem dX12_plays_82 : decode cX12_plays 82 = .ok (.aload_n 0, 1) := by decide +kernel
theorem dX12_plays_83 : decode cX12_plays 83 = .ok (.getfield 343, 3) := by decide +kernel
theorem dX12_plays_86 : decode cX12_plays 86 = .ok (.iload 4, 2) := by decide +kernel
theorem dX12_plays_88 : decode cX12_plays 88 = .ok (.iastore, 1) := by decide +kernel
theorem dX12_plays_89 : decode cX12_plays 89 = .ok (.aload_n 0, 1) := by decide +kernel
theorem dX12_plays_90 : decode cX12_plays 90 = .ok (.dup, 1) := by decide +kernel
theorem dX12_plays_91 : decode cX12_plays 91 = .ok (.getfield 343, 3) := by decide +kernel
theorem dX12_plays_94 : decode cX12_plays 94 = .ok (.iconst 1, 1) := by decide +kernel
theorem dX12_plays_95 : decode cX12_plays 95 = .ok (.iadd, 1) := by decide +kernel
theorem dX12_plays_96 : decode cX12_plays 96 = .ok (.putfield 343, 3) := by decide +kernel
theorem dX12_plays_99 : decode cX12_plays 99 = .ok (.iconst 1, 1) := by decide +kernel
theorem dX12_plays_100 : decode cX12_plays 100 = .ok (.iload_n 3, 1) := by decide +kernel
theorem dX12_plays_101 : decode cX12_plays 101 = .ok (.isub, 1) := by decide +kernel
theorem dX12_plays_102 : decode cX12_plays 102 = .ok (.istore_n 3, 1) := by decide +kernel
theorem dX12_plays_103 : decode cX12_plays 103 = .ok (.goto (-83), 3) := by decide +kernel
theorem dX12_plays_106 : decode cX12_plays 106 = .ok (.return_, 1) := by decide +kernel
theorem dX12_played_0 : decode cX12_played 0 = .ok (.aload_n 0, 1) := by decide +kernel
theorem dX12_played_1 : decode cX12_played 1 = .ok (.iconst 0, 1) := by decide +kernel
theorem dX12_played_2 : decode cX12_played 2 = .ok (.putfield 73, 3) := by decide +kernel
theorem dX12_played_5 : decode cX12_played 5 = .ok (.iload_n 1, 1) := by decide +kernel
theorem dX12_played_6 : decode cX12_played 6 = .ok (.iconst (-1), 1) := by decide +kernel
theorem dX12_played_7 : decode cX12_played 7 = .ok (.if_icmp .ge 6, 3) := by decide +kernel
theorem dX12_played_10 : decode cX12_played 10 = .ok (.bipush (-3), 2) := by decide +kernel
theorem dX12_played_12 : decode cX12_played 12 = .ok (.ireturn, 1) := by decide +kernel
theorem dX12_played_13 : decode cX12_played 13 = .ok (.aload_n 0, 1) := by decide +kernel
theorem dX12_played_14 : decode cX12_played 14 = .ok (.invokevirtual 346, 3) := by decide +kernel
theorem dX12_played_17 : decode cX12_played 17 = .ok (.iload_n 1, 1) := by decide +kernel
theorem dX12_played_18 : decode cX12_played 18 = .ok (.iconst (-1), 1) := by decide +kernel
theorem dX12_played_19 : decode cX12_played 19 = .ok (.if_icmp .ne 10, 3) := by decide +kernel
theorem dX12_played_22 : decode cX12_played 22 = .ok (.aload_n 0, 1) := by decide +kernel
theorem dX12_played_23 : decode cX12_played 23 = .ok (.getfield 343, 3) := by decide +kernel
theorem dX12_played_26 : decode cX12_played 26 = .ok (.goto 22, 3) := by decide +kernel
theorem dX12_played_29 : decode cX12_played 29 = .ok (.iload_n 1, 1) := by decide +kernel
theorem dX12_played_30 : decode cX12_played 30 = .ok (.aload_n 0, 1) := by decide +kernel
theorem dX12_played_31 : decode cX12_played 31 = .ok (.getfield 343, 3) := by decide +kernel
theorem dX12_played_34 : decode cX12_played 34 = .ok (.if_icmp .ge 12, 3) := by decide +kernel
theorem dX12_played_37 : decode cX12_played 37 = .ok (.aload_n 0, 1) := by decide +kernel
theorem dX12_played_38 : decode cX12_played 38 = .ok (.getfield 53, 3) := by decide +kernel
theorem dX12_played_41 : decode cX12_played 41 = .ok (.iload_n 1, 1) := by decide +kernel
theorem dX12_played_42 : decode cX12_played 42 = .ok (.iaload, 1) := by decide +kernel
theorem dX12_played_43 : decode cX12_played 43 = .ok (.goto 5, 3) := by decide +kernel
theorem dX12_played_46 : decode cX12_played 46 = .ok (.bipush (-2), 2) := by decide +kernel
theorem dX12_played_48 : decode cX12_played 48 = .ok (.ireturn, 1) := by decide +kernel
theorem dX12_verifies_0 : decode cX12_verifies 0 = .ok (.aload_n 0, 1) := by decide +kernel
theorem dX12_verifies_1 : decode cX12_verifies 1 = .ok (.iload_n 1, 1) := by decide +kernel
theorem dX12_verifies_2 : decode cX12_verifies 2 = .ok (.iload_n 2, 1) := by decide +kernel
theorem dX12_verifies_3 : decode cX12_verifies 3 = .ok (.invokevirtual 301, 3) := by decide +kernel
theorem dX12_verifies_6 : decode cX12_verifies 6 = .ok (.istore_n 3, 1) := by decide +kernel
theorem dX12_verifies_7 : decode cX12_verifies 7 = .ok (.iload_n 3, 1) := by decide +kernel
theorem dX12_verifies_8 : decode cX12_verifies 8 = .ok (.iconst 2, 1) := by decide +kernel
theorem dX12_verifies_9 : decode cX12_verifies 9 = .ok (.if_icmp .eq 32, 3) := by decide +kernel
theorem dX12_verifies_12 : decode cX12_verifies 12 = .ok (.aload_n 0, 1) := by decide +kernel
theorem dX12_verifies_13 : decode cX12_verifies 13 = .ok (.dup, 1) := by decide +kernel
theorem dX12_verifies_14 : decode cX12_verifies 14 = .ok (.getfield 349, 3) := by decide +kernel
theorem dX12_verifies_17 : decode cX12_verifies 17 = .ok (.iconst 1, 1) := by decide +kernel
theorem dX12_verifies_18 : decode cX12_verifies 18 = .ok (.iadd, 1) := by decide +kernel
theorem dX12_verifies_19 : decode cX12_verifies 19 = .ok (.putfield 349, 3) := by decide +kernel
theorem dX12_verifies_22 : decode cX12_verifies 22 = .ok (.aload_n 0, 1) := by decide +kernel
theorem dX12_verifies_23 : decode cX12_verifies 23 = .ok (.dup, 1) := by decide +kernel
theorem dX12_verifies_24 : decode cX12_verifies 24 = .ok (.getfield 352, 3) := by decide +kernel
theorem dX12_verifies_27 : decode cX12_verifies 27 = .ok (.iload_n 3, 1) := by decide +kernel
theorem dX12_verifies_28 : decode cX12_verifies 28 = .ok (.ifCond .ne 7, 3) := by decide +kernel
theorem dX12_verifies_31 : decode cX12_verifies 31 = .ok (.iconst 1, 1) := by decide +kernel
theorem dX12_verifies_32 : decode cX12_verifies 32 = .ok (.goto 4, 3) := by decide +kernel
theorem dX12_verifies_35 : decode cX12_verifies 35 = .ok (.iconst 0, 1) := by decide +kernel
theorem dX12_verifies_36 : decode cX12_verifies 36 = .ok (.iadd, 1) := by decide +kernel
theorem dX12_verifies_37 : decode cX12_verifies 37 = .ok (.putfield 352, 3) := by decide +kernel
theorem dX12_verifies_40 : decode cX12_verifies 40 = .ok (.return_, 1) := by decide +kernel
theorem dX12_verifies_41 : decode cX12_verifies 41 = .ok (.aload_n 0, 1) := by decide +kernel
theorem dX12_verifies_42 : decode cX12_verifies 42 = .ok (.iload_n 1, 1) := by decide +kernel
theorem dX12_verifies_43 : decode cX12_verifies 43 = .ok (.iload_n 2, 1) := by decide +kernel
theorem dX12_verifies_44 : decode cX12_verifies 44 = .ok (.invokevirtual 226, 3) := by decide +kernel
theorem dX12_verifies_47 : decode cX12_verifies 47 = .ok (.istore 4, 2) := by decide +kernel
theorem dX12_verifies_49 : decode cX12_verifies 49 = .ok (.iconst 0, 1) := by decide +kernel
theorem dX12_verifies_50 : decode cX12_verifies 50 = .ok (.istore 5, 2) := by decide +kernel
theorem dX12_verifies_52 : decode cX12_verifies 52 = .ok (.iload 5, 2) := by decide +kernel
theorem dX12_verifies_54 : decode cX12_verifies 54 = .ok (.aload_n 0, 1) := by decide +kernel
theorem dX12_verifies_55 : decode cX12_verifies 55 = .ok (.getfield 198, 3) := by decide +kernel
theorem dX12_verifies_58 : decode cX12_verifies 58 = .ok (.if_icmp .ge 53, 3) := by decide +kernel
theorem dX12_verifies_61 : decode cX12_verifies 61 = .ok (.iload 4, 2) := by decide +kernel
theorem dX12_verifies_63 : decode cX12_verifies 63 = .ok (.iload 5, 2) := by decide +kernel
theorem dX12_verifies_65 : decode cX12_verifies 65 = .ok (.ishr, 1) := by decide +kernel
theorem dX12_verifies_66 : decode cX12_verifies 66 = .ok (.iconst 1, 1) := by decide +kernel
theorem dX12_verifies_67 : decode cX12_verifies 67 = .ok (.iand, 1) := by decide +kernel
theorem dX12_verifies_68 : decode cX12_verifies 68 = .ok (.ifCond .ne 6, 3) := by decide +kernel
theorem dX12_verifies_71 : decode cX12_verifies 71 = .ok (.goto 34, 3) := by decide +kernel
theorem dX12_verifies_74 : decode cX12_verifies 74 = .ok (.aload_n 0, 1) := by decide +kernel
theorem dX12_verifies_75 : decode cX12_verifies 75 = .ok (.iload_n 1, 1) := by decide +kernel
theorem dX12_verifies_76 : decode cX12_verifies 76 = .ok (.iload_n 2, 1) := by decide +kernel
theorem dX12_verifies_77 : decode cX12_verifies 77 = .ok (.invokevirtual 323, 3) := by decide +kernel
theorem dX12_verifies_80 : decode cX12_verifies 80 = .ok (.pop, 1) := by decide +kernel
theorem dX12_verifies_81 : decode cX12_verifies 81 = .ok (.aload_n 0, 1) := by decide +kernel
theorem dX12_verifies_82 : decode cX12_verifies 82 = .ok (.iload 5, 2) := by decide +kernel
theorem dX12_verifies_84 : decode cX12_verifies 84 = .ok (.invokevirtual 337, 3) := by decide +kernel
theorem dX12_verifies_87 : decode cX12_verifies 87 = .ok (.istore 6, 2) := by decide +kernel
theorem dX12_verifies_89 : decode cX12_verifies 89 = .ok (.aload_n 0, 1) := by decide +kernel
theorem dX12_verifies_90 : decode cX12_verifies 90 = .ok (.iload_n 1, 1) := by decide +kernel
theorem dX12_verifies_91 : decode cX12_verifies 91 = .ok (.iconst 1, 1) := by decide +kernel
theorem dX12_verifies_92 : decode cX12_verifies 92 = .ok (.iload 6, 2) := by decide +kernel
theorem dX12_verifies_94 : decode cX12_verifies 94 = .ok (.ishl, 1) := by decide +kernel
theorem dX12_verifies_95 : decode cX12_verifies 95 = .ok (.ior, 1) := by decide +kernel
theorem dX12_verifies_96 : decode cX12_verifies 96 = .ok (.iload_n 2, 1) := by decide +kernel
theorem dX12_verifies_97 : decode cX12_verifies 97 = .ok (.iconst 1, 1) := by decide +kernel
theorem dX12_verifies_98 : decode cX12_verifies 98 = .ok (.iload 5, 2) := by decide +kernel
theorem dX12_verifies_100 : decode cX12_verifies 100 = .ok (.ishl, 1) := by decide +kernel
theorem dX12_verifies_101 : decode cX12_verifies 101 = .ok (.ior, 1) := by decide +kernel
theorem dX12_verifies_102 : decode cX12_verifies 102 = .ok (.invokevirtual 355, 3) := by decide +kernel
theorem dX12_verifies_105 : decode cX12_verifies 105 = .ok (.iinc 5 1, 3) := by decide +kernel
theorem dX12_verifies_108 : decode cX12_verifies 108 = .ok (.goto (-56), 3) := by decide +kernel
theorem dX12_verifies_111 : decode cX12_verifies 111 = .ok (.return_, 1) := by decide +kernel
theorem dX12_verified_0 : decode cX12_verified 0 = .ok (.aload_n 0, 1) := by decide +kernel
theorem dX12_verified_1 : decode cX12_verified 1 = .ok (.iconst 0, 1) := by decide +kernel
theorem dX12_verified_2 : decode cX12_verified 2 = .ok (.putfield 73, 3) := by decide +kernel
theorem dX12_verified_5 : decode cX12_verified 5 = .ok (.iload_n 1, 1) := by decide +kernel
theorem dX12_verified_6 : decode cX12_verified 6 = .ok (.ifCond .lt 8, 3) := by decide +kernel
theorem dX12_verified_9 : decode cX12_verified 9 = .ok (.iload_n 1, 1) := by decide +kernel
theorem dX12_verified_10 : decode cX12_verified 10 = .ok (.iconst 1, 1) := by decide +kernel
theorem dX12_verified_11 : decode cX12_verified 11 = .ok (.if_icmp .le 5, 3) := by decide +kernel
theorem dX12_verified_14 : decode cX12_verified 14 = .ok (.iconst (-1), 1) := by decide +kernel
theorem dX12_verified_15 : decode cX12_verified 15 = .ok (.ireturn, 1) := by decide +kernel
theorem dX12_verified_16 : decode cX12_verified 16 = .ok (.aload_n 0, 1) := by decide +kernel
theorem dX12_verified_17 : decode cX12_verified 17 = .ok (.invokevirtual 298, 3) := by decide +kernel
theorem dX12_verified_20 : decode cX12_verified 20 = .ok (.invokestatic 250, 3) := by decide +kernel
theorem dX12_verified_23 : decode cX12_verified 23 = .ok (.bipush 10, 2) := by decide +kernel
theorem dX12_verified_25 : decode cX12_verified 25 = .ok (.if_icmp .gt 18, 3) := by decide +kernel
theorem dX12_verified_28 : decode cX12_verified 28 = .ok (.aload_n 0, 1) := by decide +kernel
theorem dX12_verified_29 : decode cX12_verified 29 = .ok (.aload_n 0, 1) := by decide +kernel
theorem dX12_verified_30 : decode cX12_verified 30 = .ok (.getfield 201, 3) := by decide +kernel
theorem dX12_verified_33 : decode cX12_verified 33 = .ok (.aload_n 0, 1) := by decide +kernel
theorem dX12_verified_34 : decode cX12_verified 34 = .ok (.getfield 204, 3) := by decide +kernel
theorem dX12_verified_37 : decode cX12_verified 37 = .ok (.invokevirtual 323, 3) := by decide +kernel
theorem dX12_verified_40 : decode cX12_verified 40 = .ok (.ifCond .ne 6, 3) := by decide +kernel
theorem dX12_verified_43 : decode cX12_verified 43 = .ok (.bipush (-2), 2) := by decide +kernel
theorem dX12_verified_45 : decode cX12_verified 45 = .ok (.ireturn, 1) := by decide +kernel
theorem dX12_verified_46 : decode cX12_verified 46 = .ok (.aload_n 0, 1) := by decide +kernel
theorem dX12_verified_47 : decode cX12_verified 47 = .ok (.iconst 0, 1) := by decide +kernel
theorem dX12_verified_48 : decode cX12_verified 48 = .ok (.putfield 349, 3) := by decide +kernel
theorem dX12_verified_51 : decode cX12_verified 51 = .ok (.aload_n 0, 1) := by decide +kernel
theorem dX12_verified_52 : decode cX12_verified 52 = .ok (.iconst 0, 1) := by decide +kernel
