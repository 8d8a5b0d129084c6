theorem dX12_verified_53 : decode cX12_verified 53 = .ok (.putfield 352, 3) := by decide +kernel
theorem dX12_verified_56 : decode cX12_verified 56 = .ok (.aload_n 0, 1) := by decide +kernel
theorem dX12_verified_57 : decode cX12_verified 57 = .ok (.aload_n 0, 1) := by decide +kernel
theorem dX12_verified_58 : decode cX12_verified 58 = .ok (.getfield 201, 3) := by decide +kernel
theorem dX12_verified_61 : decode cX12_verified 61 = .ok (.aload_n 0, 1) := by decide +kernel
theorem dX12_verified_62 : decode cX12_verified 62 = .ok (.getfield 204, 3) := by decide +kernel
theorem dX12_verified_65 : decode cX12_verified 65 = .ok (.invokevirtual 355, 3) := by decide +kernel
theorem dX12_verified_68 : decode cX12_verified 68 = .ok (.iload_n 1, 1) := by decide +kernel
theorem dX12_verified_69 : decode cX12_verified 69 = .ok (.ifCond .ne 10, 3) := by decide +kernel
theorem dX12_verified_72 : decode cX12_verified 72 = .ok (.aload_n 0, 1) := by decide +kernel
theorem dX12_verified_73 : decode cX12_verified 73 = .ok (.getfield 349, 3) := by decide +kernel
theorem dX12_verified_76 : decode cX12_verified 76 = .ok (.goto 7, 3) := by decide +kernel
theorem dX12_verified_79 : decode cX12_verified 79 = .ok (.aload_n 0, 1) := by decide +kernel
theorem dX12_verified_80 : decode cX12_verified 80 = .ok (.getfield 352, 3) := by decide +kernel
theorem dX12_verified_83 : decode cX12_verified 83 = .ok (.ireturn, 1) := by decide +kernel
theorem dX12_cutBy_0 : decode cX12_cutBy 0 = .ok (.aload_n 0, 1) := by decide +kernel
theorem dX12_cutBy_1 : decode cX12_cutBy 1 = .ok (.iload_n 1, 1) := by decide +kernel
theorem dX12_cutBy_2 : decode cX12_cutBy 2 = .ok (.iload_n 2, 1) := by decide +kernel
theorem dX12_cutBy_3 : decode cX12_cutBy 3 = .ok (.invokevirtual 226, 3) := by decide +kernel
theorem dX12_cutBy_6 : decode cX12_cutBy 6 = .ok (.istore_n 3, 1) := by decide +kernel
theorem dX12_cutBy_7 : decode cX12_cutBy 7 = .ok (.iconst 0, 1) := by decide +kernel
theorem dX12_cutBy_8 : decode cX12_cutBy 8 = .ok (.istore 4, 2) := by decide +kernel
theorem dX12_cutBy_10 : decode cX12_cutBy 10 = .ok (.iload 4, 2) := by decide +kernel
theorem dX12_cutBy_12 : decode cX12_cutBy 12 = .ok (.aload_n 0, 1) := by decide +kernel
theorem dX12_cutBy_13 : decode cX12_cutBy 13 = .ok (.getfield 198, 3) := by decide +kernel
theorem dX12_cutBy_16 : decode cX12_cutBy 16 = .ok (.if_icmp .ge 36, 3) := by decide +kernel
theorem dX12_cutBy_19 : decode cX12_cutBy 19 = .ok (.iload_n 3, 1) := by decide +kernel
theorem dX12_cutBy_20 : decode cX12_cutBy 20 = .ok (.iload 4, 2) := by decide +kernel
theorem dX12_cutBy_22 : decode cX12_cutBy 22 = .ok (.ishr, 1) := by decide +kernel
theorem dX12_cutBy_23 : decode cX12_cutBy 23 = .ok (.iconst 1, 1) := by decide +kernel
theorem dX12_cutBy_24 : decode cX12_cutBy 24 = .ok (.iand, 1) := by decide +kernel
theorem dX12_cutBy_25 : decode cX12_cutBy 25 = .ok (.iconst 1, 1) := by decide +kernel
theorem dX12_cutBy_26 : decode cX12_cutBy 26 = .ok (.if_icmp .ne 20, 3) := by decide +kernel
theorem dX12_cutBy_29 : decode cX12_cutBy 29 = .ok (.aload_n 0, 1) := by decide +kernel
theorem dX12_cutBy_30 : decode cX12_cutBy 30 = .ok (.iload_n 1, 1) := by decide +kernel
theorem dX12_cutBy_31 : decode cX12_cutBy 31 = .ok (.iload_n 2, 1) := by decide +kernel
theorem dX12_cutBy_32 : decode cX12_cutBy 32 = .ok (.iconst 1, 1) := by decide +kernel
theorem dX12_cutBy_33 : decode cX12_cutBy 33 = .ok (.iload 4, 2) := by decide +kernel
theorem dX12_cutBy_35 : decode cX12_cutBy 35 = .ok (.ishl, 1) := by decide +kernel
theorem dX12_cutBy_36 : decode cX12_cutBy 36 = .ok (.ior, 1) := by decide +kernel
theorem dX12_cutBy_37 : decode cX12_cutBy 37 = .ok (.invokevirtual 272, 3) := by decide +kernel
theorem dX12_cutBy_40 : decode cX12_cutBy 40 = .ok (.ifCond .ne 6, 3) := by decide +kernel
theorem dX12_cutBy_43 : decode cX12_cutBy 43 = .ok (.iload 4, 2) := by decide +kernel
theorem dX12_cutBy_45 : decode cX12_cutBy 45 = .ok (.ireturn, 1) := by decide +kernel
theorem dX12_cutBy_46 : decode cX12_cutBy 46 = .ok (.iinc 4 1, 3) := by decide +kernel
theorem dX12_cutBy_49 : decode cX12_cutBy 49 = .ok (.goto (-39), 3) := by decide +kernel
theorem dX12_cutBy_52 : decode cX12_cutBy 52 = .ok (.iconst (-1), 1) := by decide +kernel
theorem dX12_cutBy_53 : decode cX12_cutBy 53 = .ok (.ireturn, 1) := by decide +kernel
theorem dX12_cutAnswer_0 : decode cX12_cutAnswer 0 = .ok (.aload_n 0, 1) := by decide +kernel
theorem dX12_cutAnswer_1 : decode cX12_cutAnswer 1 = .ok (.iconst 0, 1) := by decide +kernel
theorem dX12_cutAnswer_2 : decode cX12_cutAnswer 2 = .ok (.putfield 73, 3) := by decide +kernel
theorem dX12_cutAnswer_5 : decode cX12_cutAnswer 5 = .ok (.aload_n 0, 1) := by decide +kernel
theorem dX12_cutAnswer_6 : decode cX12_cutAnswer 6 = .ok (.iload_n 1, 1) := by decide +kernel
theorem dX12_cutAnswer_7 : decode cX12_cutAnswer 7 = .ok (.invokevirtual 304, 3) := by decide +kernel
theorem dX12_cutAnswer_10 : decode cX12_cutAnswer 10 = .ok (.ifCond .ne 5, 3) := by decide +kernel
theorem dX12_cutAnswer_13 : decode cX12_cutAnswer 13 = .ok (.iconst (-1), 1) := by decide +kernel
theorem dX12_cutAnswer_14 : decode cX12_cutAnswer 14 = .ok (.ireturn, 1) := by decide +kernel
theorem dX12_cutAnswer_15 : decode cX12_cutAnswer 15 = .ok (.aload_n 0, 1) := by decide +kernel
theorem dX12_cutAnswer_16 : decode cX12_cutAnswer 16 = .ok (.iload_n 1, 1) := by decide +kernel
theorem dX12_cutAnswer_17 : decode cX12_cutAnswer 17 = .ok (.invokevirtual 310, 3) := by decide +kernel
theorem dX12_cutAnswer_20 : decode cX12_cutAnswer 20 = .ok (.ifCond .eq 25, 3) := by decide +kernel
theorem dX12_cutAnswer_23 : decode cX12_cutAnswer 23 = .ok (.aload_n 0, 1) := by decide +kernel
theorem dX12_cutAnswer_24 : decode cX12_cutAnswer 24 = .ok (.invokevirtual 313, 3) := by decide +kernel
theorem dX12_cutAnswer_27 : decode cX12_cutAnswer 27 = .ok (.ifCond .ne 18, 3) := by decide +kernel
theorem dX12_cutAnswer_30 : decode cX12_cutAnswer 30 = .ok (.aload_n 0, 1) := by decide +kernel
theorem dX12_cutAnswer_31 : decode cX12_cutAnswer 31 = .ok (.aload_n 0, 1) := by decide +kernel
theorem dX12_cutAnswer_32 : decode cX12_cutAnswer 32 = .ok (.getfield 201, 3) := by decide +kernel
theorem dX12_cutAnswer_35 : decode cX12_cutAnswer 35 = .ok (.iconst 1, 1) := by decide +kernel
theorem dX12_cutAnswer_36 : decode cX12_cutAnswer 36 = .ok (.iload_n 1, 1) := by decide +kernel
theorem dX12_cutAnswer_37 : decode cX12_cutAnswer 37 = .ok (.ishl, 1) := by decide +kernel
theorem dX12_cutAnswer_38 : decode cX12_cutAnswer 38 = .ok (.ior, 1) := by decide +kernel
theorem dX12_cutAnswer_39 : decode cX12_cutAnswer 39 = .ok (.invokevirtual 230, 3) := by decide +kernel
theorem dX12_cutAnswer_42 : decode cX12_cutAnswer 42 = .ok (.ifCond .eq 6, 3) := by decide +kernel
theorem dX12_cutAnswer_45 : decode cX12_cutAnswer 45 = .ok (.bipush (-2), 2) := by decide +kernel
theorem dX12_cutAnswer_47 : decode cX12_cutAnswer 47 = .ok (.ireturn, 1) := by decide +kernel
theorem dX12_cutAnswer_48 : decode cX12_cutAnswer 48 = .ok (.aload_n 0, 1) := by decide +kernel
theorem dX12_cutAnswer_49 : decode cX12_cutAnswer 49 = .ok (.aload_n 0, 1) := by decide +kernel
theorem dX12_cutAnswer_50 : decode cX12_cutAnswer 50 = .ok (.getfield 201, 3) := by decide +kernel
theorem dX12_cutAnswer_53 : decode cX12_cutAnswer 53 = .ok (.iconst 1, 1) := by decide +kernel
theorem dX12_cutAnswer_54 : decode cX12_cutAnswer 54 = .ok (.iload_n 1, 1) := by decide +kernel
theorem dX12_cutAnswer_55 : decode cX12_cutAnswer 55 = .ok (.ishl, 1) := by decide +kernel
theorem dX12_cutAnswer_56 : decode cX12_cutAnswer 56 = .ok (.ior, 1) := by decide +kernel
theorem dX12_cutAnswer_57 : decode cX12_cutAnswer 57 = .ok (.aload_n 0, 1) := by decide +kernel
theorem dX12_cutAnswer_58 : decode cX12_cutAnswer 58 = .ok (.getfield 204, 3) := by decide +kernel
theorem dX12_cutAnswer_61 : decode cX12_cutAnswer 61 = .ok (.invokevirtual 358, 3) := by decide +kernel
theorem dX12_cutAnswer_64 : decode cX12_cutAnswer 64 = .ok (.istore_n 2, 1) := by decide +kernel
theorem dX12_cutAnswer_65 : decode cX12_cutAnswer 65 = .ok (.iload_n 2, 1) := by decide +kernel
theorem dX12_cutAnswer_66 : decode cX12_cutAnswer 66 = .ok (.iconst (-1), 1) := by decide +kernel
theorem dX12_cutAnswer_67 : decode cX12_cutAnswer 67 = .ok (.if_icmp .ne 8, 3) := by decide +kernel
theorem dX12_cutAnswer_70 : decode cX12_cutAnswer 70 = .ok (.bipush (-2), 2) := by decide +kernel
theorem dX12_cutAnswer_72 : decode cX12_cutAnswer 72 = .ok (.goto 4, 3) := by decide +kernel
theorem dX12_cutAnswer_75 : decode cX12_cutAnswer 75 = .ok (.iload_n 2, 1) := by decide +kernel
theorem dX12_cutAnswer_76 : decode cX12_cutAnswer 76 = .ok (.ireturn, 1) := by decide +kernel
theorem dX12_verifiesCut_0 : decode cX12_verifiesCut 0 = .ok (.aload_n 0, 1) := by decide +kernel
theorem dX12_verifiesCut_1 : decode cX12_verifiesCut 1 = .ok (.iload_n 1, 1) := by decide +kernel
theorem dX12_verifiesCut_2 : decode cX12_verifiesCut 2 = .ok (.iload_n 2, 1) := by decide +kernel
theorem dX12_verifiesCut_3 : decode cX12_verifiesCut 3 = .ok (.invokevirtual 301, 3) := by decide +kernel
theorem dX12_verifiesCut_6 : decode cX12_verifiesCut 6 = .ok (.istore_n 3, 1) := by decide +kernel
theorem dX12_verifiesCut_7 : decode cX12_verifiesCut 7 = .ok (.iload_n 3, 1) := by decide +kernel
theorem dX12_verifiesCut_8 : decode cX12_verifiesCut 8 = .ok (.iconst 2, 1) := by decide +kernel
theorem dX12_verifiesCut_9 : decode cX12_verifiesCut 9 = .ok (.if_icmp .eq 33, 3) := by decide +kernel
theorem dX12_verifiesCut_12 : decode cX12_verifiesCut 12 = .ok (.aload_n 0, 1) := by decide +kernel
theorem dX12_verifiesCut_13 : decode cX12_verifiesCut 13 = .ok (.dup, 1) := by decide +kernel
theorem dX12_verifiesCut_14 : decode cX12_verifiesCut 14 = .ok (.getfield 349, 3) := by decide +kernel
theorem dX12_verifiesCut_17 : decode cX12_verifiesCut 17 = .ok (.iconst 1, 1) := by decide +kernel
theorem dX12_verifiesCut_18 : decode cX12_verifiesCut 18 = .ok (.iadd, 1) := by decide +kernel
theorem dX12_verifiesCut_19 : decode cX12_verifiesCut 19 = .ok (.putfield 349, 3) := by decide +kernel
theorem dX12_verifiesCut_22 : decode cX12_verifiesCut 22 = .ok (.aload_n 0, 1) := by decide +kernel
theorem dX12_verifiesCut_23 : decode cX12_verifiesCut 23 = .ok (.dup, 1) := by decide +kernel
theorem dX12_verifiesCut_24 : decode cX12_verifiesCut 24 = .ok (.getfield 352, 3) := by decide +kernel
theorem dX12_verifiesCut_27 : decode cX12_verifiesCut 27 = .ok (.iload_n 3, 1) := by decide +kernel
theorem dX12_verifiesCut_28 : decode cX12_verifiesCut 28 = .ok (.iconst 1, 1) := by decide +kernel
theorem dX12_verifiesCut_29 : decode cX12_verifiesCut 29 = .ok (.if_icmp .ne 7, 3) := by decide +kernel
theorem dX12_verifiesCut_32 : decode cX12_verifiesCut 32 = .ok (.iconst 1, 1) := by decide +kernel
theorem dX12_verifiesCut_33 : decode cX12_verifiesCut 33 = .ok (.goto 4, 3) := by decide +kernel
theorem dX12_verifiesCut_36 : decode cX12_verifiesCut 36 = .ok (.iconst 0, 1) := by decide +kernel
theorem dX12_verifiesCut_37 : decode cX12_verifiesCut 37 = .ok (.iadd, 1) := by decide +kernel
theorem dX12_verifiesCut_38 : decode cX12_verifiesCut 38 = .ok (.putfield 352, 3) := by decide +kernel
theorem dX12_verifiesCut_41 : decode cX12_verifiesCut 41 = .ok (.return_, 1) := by decide +kernel
theorem dX12_verifiesCut_42 : decode cX12_verifiesCut 42 = .ok (.aload_n 0, 1) := by decide +kernel
theorem dX12_verifiesCut_43 : decode cX12_verifiesCut 43 = .ok (.iload_n 1, 1) := by decide +kernel
theorem dX12_verifiesCut_44 : decode cX12_verifiesCut 44 = .ok (.iload_n 2, 1) := by decide +kernel
theorem dX12_verifiesCut_45 : decode cX12_verifiesCut 45 = .ok (.invokevirtual 226, 3) := by decide +kernel
theorem dX12_verifiesCut_48 : decode cX12_verifiesCut 48 = .ok (.istore 4, 2) := by decide +kernel
theorem dX12_verifiesCut_50 : decode cX12_verifiesCut 50 = .ok (.iconst 0, 1) := by decide +kernel
theorem dX12_verifiesCut_51 : decode cX12_verifiesCut 51 = .ok (.istore 5, 2) := by decide +kernel
theorem dX12_verifiesCut_53 : decode cX12_verifiesCut 53 = .ok (.iload 5, 2) := by decide +kernel
theorem dX12_verifiesCut_55 : decode cX12_verifiesCut 55 = .ok (.aload_n 0, 1) := by decide +kernel
theorem dX12_verifiesCut_56 : decode cX12_verifiesCut 56 = .ok (.getfield 198, 3) := by decide +kernel
theorem dX12_verifiesCut_59 : decode cX12_verifiesCut 59 = .ok (.if_icmp .ge 76, 3) := by decide +kernel
theorem dX12_verifiesCut_62 : decode cX12_verifiesCut 62 = .ok (.iload 4, 2) := by decide +kernel
theorem dX12_verifiesCut_64 : decode cX12_verifiesCut 64 = .ok (.iload 5, 2) := by decide +kernel
theorem dX12_verifiesCut_66 : decode cX12_verifiesCut 66 = .ok (.ishr, 1) := by decide +kernel
theorem dX12_verifiesCut_67 : decode cX12_verifiesCut 67 = .ok (.iconst 1, 1) := by decide +kernel
theorem dX12_verifiesCut_68 : decode cX12_verifiesCut 68 = .ok (.iand, 1) := by decide +kernel
theorem dX12_verifiesCut_69 : decode cX12_verifiesCut 69 = .ok (.ifCond .ne 6, 3) := by decide +kernel
theorem dX12_verifiesCut_72 : decode cX12_verifiesCut 72 = .ok (.goto 57, 3) := by decide +kernel
theorem dX12_verifiesCut_75 : decode cX12_verifiesCut 75 = .ok (.iload_n 1, 1) := by decide +kernel
theorem dX12_verifiesCut_76 : decode cX12_verifiesCut 76 = .ok (.iconst 1, 1) := by decide +kernel
theorem dX12_verifiesCut_77 : decode cX12_verifiesCut 77 = .ok (.iload 5, 2) := by decide +kernel
theorem dX12_verifiesCut_79 : decode cX12_verifiesCut 79 = .ok (.ishl, 1) := by decide +kernel
theorem dX12_verifiesCut_80 : decode cX12_verifiesCut 80 = .ok (.ior, 1) := by decide +kernel
theorem dX12_verifiesCut_81 : decode cX12_verifiesCut 81 = .ok (.istore 6, 2) := by decide +kernel
theorem dX12_verifiesCut_83 : decode cX12_verifiesCut 83 = .ok (.aload_n 0, 1) := by decide +kernel
theorem dX12_verifiesCut_84 : decode cX12_verifiesCut 84 = .ok (.iload 6, 2) := by decide +kernel
theorem dX12_verifiesCut_86 : decode cX12_verifiesCut 86 = .ok (.iload_n 2, 1) := by decide +kernel
theorem dX12_verifiesCut_87 : decode cX12_verifiesCut 87 = .ok (.invokevirtual 301, 3) := by decide +kernel
theorem dX12_verifiesCut_90 : decode cX12_verifiesCut 90 = .ok (.iconst 2, 1) := by decide +kernel
theorem dX12_verifiesCut_91 : decode cX12_verifiesCut 91 = .ok (.if_icmp .ne 13, 3) := by decide +kernel
theorem dX12_verifiesCut_94 : decode cX12_verifiesCut 94 = .ok (.aload_n 0, 1) := by decide +kernel
theorem dX12_verifiesCut_95 : decode cX12_verifiesCut 95 = .ok (.iload 6, 2) := by decide +kernel
theorem dX12_verifiesCut_97 : decode cX12_verifiesCut 97 = .ok (.iload_n 2, 1) := by decide +kernel
theorem dX12_verifiesCut_98 : decode cX12_verifiesCut 98 = .ok (.invokevirtual 358, 3) := by decide +kernel
theorem dX12_verifiesCut_101 : decode cX12_verifiesCut 101 = .ok (.goto 4, 3) := by decide +kernel
theorem dX12_verifiesCut_104 : decode cX12_verifiesCut 104 = .ok (.iconst (-1), 1) := by decide +kernel
theorem dX12_verifiesCut_105 : decode cX12_verifiesCut 105 = .ok (.istore 7, 2) := by decide +kernel
theorem dX12_verifiesCut_107 : decode cX12_verifiesCut 107 = .ok (.aload_n 0, 1) := by decide +kernel
theorem dX12_verifiesCut_108 : decode cX12_verifiesCut 108 = .ok (.iload 6, 2) := by decide +kernel
theorem dX12_verifiesCut_110 : decode cX12_verifiesCut 110 = .ok (.iload 7, 2) := by decide +kernel
theorem dX12_verifiesCut_112 : decode cX12_verifiesCut 112 = .ok (.iconst (-1), 1) := by decide +kernel
theorem dX12_verifiesCut_113 : decode cX12_verifiesCut 113 = .ok (.if_icmp .ne 7, 3) := by decide +kernel
theorem dX12_verifiesCut_116 : decode cX12_verifiesCut 116 = .ok (.iload_n 2, 1) := by decide +kernel
theorem dX12_verifiesCut_117 : decode cX12_verifiesCut 117 = .ok (.goto 9, 3) := by decide +kernel
theorem dX12_verifiesCut_120 : decode cX12_verifiesCut 120 = .ok (.iload_n 2, 1) := by decide +kernel
theorem dX12_verifiesCut_121 : decode cX12_verifiesCut 121 = .ok (.iconst 1, 1) := by decide +kernel
theorem dX12_verifiesCut_122 : decode cX12_verifiesCut 122 = .ok (.iload 7, 2) := by decide +kernel
theorem dX12_verifiesCut_124 : decode cX12_verifiesCut 124 = .ok (.ishl, 1) := by decide +kernel
theorem dX12_verifiesCut_125 : decode cX12_verifiesCut 125 = .ok (.ior, 1) := by decide +kernel
theorem dX12_verifiesCut_126 : decode cX12_verifiesCut 126 = .ok (.invokevirtual 361, 3) := by decide +kernel
theorem dX12_verifiesCut_129 : decode cX12_verifiesCut 129 = .ok (.iinc 5 1, 3) := by decide +kernel
theorem dX12_verifiesCut_132 : decode cX12_verifiesCut 132 = .ok (.goto (-79), 3) := by decide +kernel
theorem dX12_verifiesCut_135 : decode cX12_verifiesCut 135 = .ok (.return_, 1) := by decide +kernel
theorem dX12_verifiedForCut_0 : decode cX12_verifiedForCut 0 = .ok (.aload_n 0, 1) := by decide +kernel
theorem dX12_verifiedForCut_1 : decode cX12_verifiedForCut 1 = .ok (.iconst 0, 1) := by decide +kernel
theorem dX12_verifiedForCut_2 : decode cX12_verifiedForCut 2 = .ok (.putfield 73, 3) := by decide +kernel
theorem dX12_verifiedForCut_5 : decode cX12_verifiedForCut 5 = .ok (.iload_n 1, 1) := by decide +kernel
theorem dX12_verifiedForCut_6 : decode cX12_verifiedForCut 6 = .ok (.ifCond .lt 8, 3) := by decide +kernel
theorem dX12_verifiedForCut_9 : decode cX12_verifiedForCut 9 = .ok (.iload_n 1, 1) := by decide +kernel
theorem dX12_verifiedForCut_10 : decode cX12_verifiedForCut 10 = .ok (.iconst 1, 1) := by decide +kernel
theorem dX12_verifiedForCut_11 : decode cX12_verifiedForCut 11 = .ok (.if_icmp .le 5, 3) := by decide +kernel
theorem dX12_verifiedForCut_14 : decode cX12_verifiedForCut 14 = .ok (.iconst (-1), 1) := by decide +kernel
theorem dX12_verifiedForCut_15 : decode cX12_verifiedForCut 15 = .ok (.ireturn, 1) := by decide +kernel
theorem dX12_verifiedForCut_16 : decode cX12_verifiedForCut 16 = .ok (.aload_n 0, 1) := by decide +kernel
theorem dX12_verifiedForCut_17 : decode cX12_verifiedForCut 17 = .ok (.invokevirtual 298, 3) := by decide +kernel
theorem dX12_verifiedForCut_20 : decode cX12_verifiedForCut 20 = .ok (.invokestatic 250, 3) := by decide +kernel
theorem dX12_verifiedForCut_23 : decode cX12_verifiedForCut 23 = .ok (.bipush 10, 2) := by decide +kernel
theorem dX12_verifiedForCut_25 : decode cX12_verifiedForCut 25 = .ok (.if_icmp .gt 18, 3) := by decide +kernel
theorem dX12_verifiedForCut_28 : decode cX12_verifiedForCut 28 = .ok (.aload_n 0, 1) := by decide +kernel
theorem dX12_verifiedForCut_29 : decode cX12_verifiedForCut 29 = .ok (.aload_n 0, 1) := by decide +kernel
theorem dX12_verifiedForCut_30 : decode cX12_verifiedForCut 30 = .ok (.getfield 201, 3) := by decide +kernel
theorem dX12_verifiedForCut_33 : decode cX12_verifiedForCut 33 = .ok (.aload_n 0, 1) := by decide +kernel
theorem dX12_verifiedForCut_34 : decode cX12_verifiedForCut 34 = .ok (.getfield 204, 3) := by decide +kernel
theorem dX12_verifiedForCut_37 : decode cX12_verifiedForCut 37 = .ok (.invokevirtual 272, 3) := by decide +kernel
theorem dX12_verifiedForCut_40 : decode cX12_verifiedForCut 40 = .ok (.ifCond .eq 6, 3) := by decide +kernel
theorem dX12_verifiedForCut_43 : decode cX12_verifiedForCut 43 = .ok (.bipush (-2), 2) := by decide +kernel
theorem dX12_verifiedForCut_45 : decode cX12_verifiedForCut 45 = .ok (.ireturn, 1) := by decide +kernel
theorem dX12_verifiedForCut_46 : decode cX12_verifiedForCut 46 = .ok (.aload_n 0, 1) := by decide +kernel
theorem dX12_verifiedForCut_47 : decode cX12_verifiedForCut 47 = .ok (.iconst 0, 1) := by decide +kernel
theorem dX12_verifiedForCut_48 : decode cX12_verifiedForCut 48 = .ok (.putfield 349, 3) := by decide +kernel
theorem dX12_verifiedForCut_51 : decode cX12_verifiedForCut 51 = .ok (.aload_n 0, 1) := by decide +kernel
theorem dX12_verifiedForCut_52 : decode cX12_verifiedForCut 52 = .ok (.iconst 0, 1) := by decide +kernel
theorem dX12_verifiedForCut_53 : decode cX12_verifiedForCut 53 = .ok (.putfield 352, 3) := by decide +kernel
theorem dX12_verifiedForCut_56 : decode cX12_verifiedForCut 56 = .ok (.aload_n 0, 1) := by decide +kernel
theorem dX12_verifiedForCut_57 : decode cX12_verifiedForCut 57 = .ok (.aload_n 0, 1) := by decide +kernel
theorem dX12_verifiedForCut_58 : decode cX12_verifiedForCut 58 = .ok (.getfield 201, 3) := by decide +kernel
theorem dX12_verifiedForCut_61 : decode cX12_verifiedForCut 61 = .ok (.aload_n 0, 1) := by decide +kernel
theorem dX12_verifiedForCut_62 : decode cX12_verifiedForCut 62 = .ok (.getfield 204, 3) := by decide +kernel
theorem dX12_verifiedForCut_65 : decode cX12_verifiedForCut 65 = .ok (.invokevirtual 361, 3) := by decide +kernel
theorem dX12_verifiedForCut_68 : decode cX12_verifiedForCut 68 = .ok (.iload_n 1, 1) := by decide +kernel
theorem dX12_verifiedForCut_69 : decode cX12_verifiedForCut 69 = .ok (.ifCond .ne 10, 3) := by decide +kernel
theorem dX12_verifiedForCut_72 : decode cX12_verifiedForCut 72 = .ok (.aload_n 0, 1) := by decide +kernel
theorem dX12_verifiedForCut_73 : decode cX12_verifiedForCut 73 = .ok (.getfield 349, 3) := by decide +kernel
theorem dX12_verifiedForCut_76 : decode cX12_verifiedForCut 76 = .ok (.goto 7, 3) := by decide +kernel
theorem dX12_verifiedForCut_79 : decode cX12_verifiedForCut 79 = .ok (.aload_n 0, 1) := by decide +kernel
theorem dX12_verifiedForCut_80 : decode cX12_verifiedForCut 80 = .ok (.getfield 352, 3) := by decide +kernel
theorem dX12_verifiedForCut_83 : decode cX12_verifiedForCut 83 = .ok (.ireturn, 1) := by decide +kernel
theorem dX12_laysThrees_0 : decode cX12_laysThrees 0 = .ok (.iconst 1, 1) := by decide +kernel
theorem dX12_laysThrees_1 : decode cX12_laysThrees 1 = .ok (.istore_n 1, 1) := by decide +kernel
theorem dX12_laysThrees_2 : decode cX12_laysThrees 2 = .ok (.aload_n 0, 1) := by decide +kernel
theorem dX12_laysThrees_3 : decode cX12_laysThrees 3 = .ok (.invokevirtual 298, 3) := by decide +kernel
theorem dX12_laysThrees_6 : decode cX12_laysThrees 6 = .ok (.istore_n 2, 1) := by decide +kernel
theorem dX12_laysThrees_7 : decode cX12_laysThrees 7 = .ok (.iconst 0, 1) := by decide +kernel
theorem dX12_laysThrees_8 : decode cX12_laysThrees 8 = .ok (.istore_n 3, 1) := by decide +kernel
theorem dX12_laysThrees_9 : decode cX12_laysThrees 9 = .ok (.iload_n 3, 1) := by decide +kernel
theorem dX12_laysThrees_10 : decode cX12_laysThrees 10 = .ok (.aload_n 0, 1) := by decide +kernel
theorem dX12_laysThrees_11 : decode cX12_laysThrees 11 = .ok (.getfield 198, 3) := by decide +kernel
theorem dX12_laysThrees_14 : decode cX12_laysThrees 14 = .ok (.if_icmp .ge 38, 3) := by decide +kernel
theorem dX12_laysThrees_17 : decode cX12_laysThrees 17 = .ok (.aload_n 0, 1) := by decide +kernel
theorem dX12_laysThrees_18 : decode cX12_laysThrees 18 = .ok (.getfield 61, 3) := by decide +kernel
theorem dX12_laysThrees_21 : decode cX12_laysThrees 21 = .ok (.iload_n 3, 1) := by decide +kernel
theorem dX12_laysThrees_22 : decode cX12_laysThrees 22 = .ok (.iconst 0, 1) := by decide +kernel
theorem dX12_laysThrees_23 : decode cX12_laysThrees 23 = .ok (.iastore, 1) := by decide +kernel
theorem dX12_laysThrees_24 : decode cX12_laysThrees 24 = .ok (.iload_n 2, 1) := by decide +kernel
theorem dX12_laysThrees_25 : decode cX12_laysThrees 25 = .ok (.iload_n 3, 1) := by decide +kernel
theorem dX12_laysThrees_26 : decode cX12_laysThrees 26 = .ok (.ishr, 1) := by decide +kernel
theorem dX12_laysThrees_27 : decode cX12_laysThrees 27 = .ok (.iconst 1, 1) := by decide +kernel
theorem dX12_laysThrees_28 : decode cX12_laysThrees 28 = .ok (.iand, 1) := by decide +kernel
theorem dX12_laysThrees_29 : decode cX12_laysThrees 29 = .ok (.ifCond .ne 6, 3) := by decide +kernel
theorem dX12_laysThrees_32 : decode cX12_laysThrees 32 = .ok (.goto 14, 3) := by decide +kernel
theorem dX12_laysThrees_35 : decode cX12_laysThrees 35 = .ok (.aload_n 0, 1) := by decide +kernel
theorem dX12_laysThrees_36 : decode cX12_laysThrees 36 = .ok (.getfield 61, 3) := by decide +kernel
theorem dX12_laysThrees_39 : decode cX12_laysThrees 39 = .ok (.iload_n 3, 1) := by decide +kernel
theorem dX12_laysThrees_40 : decode cX12_laysThrees 40 = .ok (.iload_n 1, 1) := by decide +kernel
theorem dX12_laysThrees_41 : decode cX12_laysThrees 41 = .ok (.iastore, 1) := by decide +kernel
theorem dX12_laysThrees_42 : decode cX12_laysThrees 42 = .ok (.iload_n 1, 1) := by decide +kernel
theorem dX12_laysThrees_43 : decode cX12_laysThrees 43 = .ok (.iconst 3, 1) := by decide +kernel
theorem dX12_laysThrees_44 : decode cX12_laysThrees 44 = .ok (.imul, 1) := by decide +kernel
theorem dX12_laysThrees_45 : decode cX12_laysThrees 45 = .ok (.istore_n 1, 1) := by decide +kernel
theorem dX12_laysThrees_46 : decode cX12_laysThrees 46 = .ok (.iinc 3 1, 3) := by decide +kernel
theorem dX12_laysThrees_49 : decode cX12_laysThrees 49 = .ok (.goto (-40), 3) := by decide +kernel
theorem dX12_laysThrees_52 : decode cX12_laysThrees 52 = .ok (.iconst 0, 1) := by decide +kernel
theorem dX12_laysThrees_53 : decode cX12_laysThrees 53 = .ok (.istore_n 3, 1) := by decide +kernel
theorem dX12_laysThrees_54 : decode cX12_laysThrees 54 = .ok (.iload_n 3, 1) := by decide +kernel
theorem dX12_laysThrees_55 : decode cX12_laysThrees 55 = .ok (.iconst 2, 1) := by decide +kernel
theorem dX12_laysThrees_56 : decode cX12_laysThrees 56 = .ok (.iload_n 1, 1) := by decide +kernel
theorem dX12_laysThrees_57 : decode cX12_laysThrees 57 = .ok (.imul, 1) := by decide +kernel
theorem dX12_laysThrees_58 : decode cX12_laysThrees 58 = .ok (.if_icmp .ge 16, 3) := by decide +kernel
theorem dX12_laysThrees_61 : decode cX12_laysThrees 61 = .ok (.aload_n 0, 1) := by decide +kernel
theorem dX12_laysThrees_62 : decode cX12_laysThrees 62 = .ok (.getfield 57, 3) := by decide +kernel
theorem dX12_laysThrees_65 : decode cX12_laysThrees 65 = .ok (.iload_n 3, 1) := by decide +kernel
theorem dX12_laysThrees_66 : decode cX12_laysThrees 66 = .ok (.iconst 0, 1) := by decide +kernel
theorem dX12_laysThrees_67 : decode cX12_laysThrees 67 = .ok (.bastore, 1) := by decide +kernel
theorem dX12_laysThrees_68 : decode cX12_laysThrees 68 = .ok (.iinc 3 1, 3) := by decide +kernel
theorem dX12_laysThrees_71 : decode cX12_laysThrees 71 = .ok (.goto (-17), 3) := by decide +kernel
theorem dX12_laysThrees_74 : decode cX12_laysThrees 74 = .ok (.return_, 1) := by decide +kernel
theorem dX12_winner_0 : decode cX12_winner 0 = .ok (.aload_n 0, 1) := by decide +kernel
theorem dX12_winner_1 : decode cX12_winner 1 = .ok (.getfield 57, 3) := by decide +kernel
theorem dX12_winner_4 : decode cX12_winner 4 = .ok (.iconst 2, 1) := by decide +kernel
theorem dX12_winner_5 : decode cX12_winner 5 = .ok (.iload_n 1, 1) := by decide +kernel
theorem dX12_winner_6 : decode cX12_winner 6 = .ok (.imul, 1) := by decide +kernel
theorem dX12_winner_7 : decode cX12_winner 7 = .ok (.iload 4, 2) := by decide +kernel
theorem dX12_winner_9 : decode cX12_winner 9 = .ok (.iadd, 1) := by decide +kernel
theorem dX12_winner_10 : decode cX12_winner 10 = .ok (.baload, 1) := by decide +kernel
theorem dX12_winner_11 : decode cX12_winner 11 = .ok (.ifCond .le 17, 3) := by decide +kernel
theorem dX12_winner_14 : decode cX12_winner 14 = .ok (.aload_n 0, 1) := by decide +kernel
theorem dX12_winner_15 : decode cX12_winner 15 = .ok (.getfield 57, 3) := by decide +kernel
theorem dX12_winner_18 : decode cX12_winner 18 = .ok (.iconst 2, 1) := by decide +kernel
theorem dX12_winner_19 : decode cX12_winner 19 = .ok (.iload_n 1, 1) := by decide +kernel
theorem dX12_winner_20 : decode cX12_winner 20 = .ok (.imul, 1) := by decide +kernel
theorem dX12_winner_21 : decode cX12_winner 21 = .ok (.iload 4, 2) := by decide +kernel
theorem dX12_winner_23 : decode cX12_winner 23 = .ok (.iadd, 1) := by decide +kernel
theorem dX12_winner_24 : decode cX12_winner 24 = .ok (.baload, 1) := by decide +kernel
theorem dX12_winner_25 : decode cX12_winner 25 = .ok (.iconst 1, 1) := by decide +kernel
theorem dX12_winner_26 : decode cX12_winner 26 = .ok (.isub, 1) := by decide +kernel
theorem dX12_winner_27 : decode cX12_winner 27 = .ok (.ireturn, 1) := by decide +kernel
theorem dX12_winner_28 : decode cX12_winner 28 = .ok (.aload_n 0, 1) := by decide +kernel
theorem dX12_winner_29 : decode cX12_winner 29 = .ok (.iload_n 2, 1) := by decide +kernel
theorem dX12_winner_30 : decode cX12_winner 30 = .ok (.iload_n 3, 1) := by decide +kernel
theorem dX12_winner_31 : decode cX12_winner 31 = .ok (.invokevirtual 301, 3) := by decide +kernel
theorem dX12_winner_34 : decode cX12_winner 34 = .ok (.istore 5, 2) := by decide +kernel
theorem dX12_winner_36 : decode cX12_winner 36 = .ok (.iload 5, 2) := by decide +kernel
theorem dX12_winner_38 : decode cX12_winner 38 = .ok (.iconst 2, 1) := by decide +kernel
theorem dX12_winner_39 : decode cX12_winner 39 = .ok (.if_icmp .ne 109, 3) := by decide +kernel
theorem dX12_winner_42 : decode cX12_winner 42 = .ok (.iconst 1, 1) := by decide +kernel
theorem dX12_winner_43 : decode cX12_winner 43 = .ok (.iload 4, 2) := by decide +kernel
theorem dX12_winner_45 : decode cX12_winner 45 = .ok (.isub, 1) := by decide +kernel
theorem dX12_winner_46 : decode cX12_winner 46 = .ok (.istore 5, 2) := by decide +kernel
theorem dX12_winner_48 : decode cX12_winner 48 = .ok (.aload_n 0, 1) := by decide +kernel
theorem dX12_winner_49 : decode cX12_winner 49 = .ok (.iload_n 2, 1) := by decide +kernel
theorem dX12_winner_50 : decode cX12_winner 50 = .ok (.iload_n 3, 1) := by decide +kernel
theorem dX12_winner_51 : decode cX12_winner 51 = .ok (.invokevirtual 226, 3) := by decide +kernel
theorem dX12_winner_54 : decode cX12_winner 54 = .ok (.istore 6, 2) := by decide +kernel
theorem dX12_winner_56 : decode cX12_winner 56 = .ok (.iconst 0, 1) := by decide +kernel
theorem dX12_winner_57 : decode cX12_winner 57 = .ok (.istore 7, 2) := by decide +kernel
theorem dX12_winner_59 : decode cX12_winner 59 = .ok (.iload 7, 2) := by decide +kernel
theorem dX12_winner_61 : decode cX12_winner 61 = .ok (.aload_n 0, 1) := by decide +kernel
theorem dX12_winner_62 : decode cX12_winner 62 = .ok (.getfield 198, 3) := by decide +kernel
theorem dX12_winner_65 : decode cX12_winner 65 = .ok (.if_icmp .ge 83, 3) := by decide +kernel
theorem dX12_winner_68 : decode cX12_winner 68 = .ok (.iload 5, 2) := by decide +kernel
theorem dX12_winner_70 : decode cX12_winner 70 = .ok (.iload 4, 2) := by decide +kernel
theorem dX12_winner_72 : decode cX12_winner 72 = .ok (.if_icmp .eq 76, 3) := by decide +kernel
theorem dX12_winner_75 : decode cX12_winner 75 = .ok (.iload 6, 2) := by decide +kernel
theorem dX12_winner_77 : decode cX12_winner 77 = .ok (.iload 7, 2) := by decide +kernel
theorem dX12_winner_79 : decode cX12_winner 79 = .ok (.ishr, 1) := by decide +kernel
theorem dX12_winner_80 : decode cX12_winner 80 = .ok (.iconst 1, 1) := by decide +kernel
theorem dX12_winner_81 : decode cX12_winner 81 = .ok (.iand, 1) := by decide +kernel
theorem dX12_winner_82 : decode cX12_winner 82 = .ok (.ifCond .ne 6, 3) := by decide +kernel
theorem dX12_winner_85 : decode cX12_winner 85 = .ok (.goto 57, 3) := by decide +kernel
theorem dX12_winner_88 : decode cX12_winner 88 = .ok (.iload 4, 2) := by decide +kernel
theorem dX12_winner_90 : decode cX12_winner 90 = .ok (.ifCond .ne 27, 3) := by decide +kernel
theorem dX12_winner_93 : decode cX12_winner 93 = .ok (.aload_n 0, 1) := by decide +kernel
theorem dX12_winner_94 : decode cX12_winner 94 = .ok (.iload_n 1, 1) := by decide +kernel
theorem dX12_winner_95 : decode cX12_winner 95 = .ok (.aload_n 0, 1) := by decide +kernel
theorem dX12_winner_96 : decode cX12_winner 96 = .ok (.getfield 61, 3) := by decide +kernel
theorem dX12_winner_99 : decode cX12_winner 99 = .ok (.iload 7, 2) := by decide +kernel
theorem dX12_winner_101 : decode cX12_winner 101 = .ok (.iaload, 1) := by decide +kernel
theorem dX12_winner_102 : decode cX12_winner 102 = .ok (.iadd, 1) := by decide +kernel
theorem dX12_winner_103 : decode cX12_winner 103 = .ok (.iload_n 2, 1) := by decide +kernel
theorem dX12_winner_104 : decode cX12_winner 104 = .ok (.iconst 1, 1) := by decide +kernel
theorem dX12_winner_105 : decode cX12_winner 105 = .ok (.iload 7, 2) := by decide +kernel
theorem dX12_winner_107 : decode cX12_winner 107 = .ok (.ishl, 1) := by decide +kernel
theorem dX12_winner_108 : decode cX12_winner 108 = .ok (.ior, 1) := by decide +kernel
theorem dX12_winner_109 : decode cX12_winner 109 = .ok (.iload_n 3, 1) := by decide +kernel
theorem dX12_winner_110 : decode cX12_winner 110 = .ok (.iconst 1, 1) := by decide +kernel
theorem dX12_winner_111 : decode cX12_winner 111 = .ok (.invokevirtual 364, 3) := by decide +kernel
theorem dX12_winner_114 : decode cX12_winner 114 = .ok (.goto 26, 3) := by decide +kernel
theorem dX12_winner_117 : decode cX12_winner 117 = .ok (.aload_n 0, 1) := by decide +kernel
theorem dX12_winner_118 : decode cX12_winner 118 = .ok (.iload_n 1, 1) := by decide +kernel
theorem dX12_winner_119 : decode cX12_winner 119 = .ok (.iconst 2, 1) := by decide +kernel
theorem dX12_winner_120 : decode cX12_winner 120 = .ok (.aload_n 0, 1) := by decide +kernel
theorem dX12_winner_121 : decode cX12_winner 121 = .ok (.getfield 61, 3) := by decide +kernel
theorem dX12_winner_124 : decode cX12_winner 124 = .ok (.iload 7, 2) := by decide +kernel
theorem dX12_winner_126 : decode cX12_winner 126 = .ok (.iaload, 1) := by decide +kernel
theorem dX12_winner_127 : decode cX12_winner 127 = .ok (.imul, 1) := by decide +kernel
theorem dX12_winner_128 : decode cX12_winner 128 = .ok (.iadd, 1) := by decide +kernel
theorem dX12_winner_129 : decode cX12_winner 129 = .ok (.iload_n 2, 1) := by decide +kernel
theorem dX12_winner_130 : decode cX12_winner 130 = .ok (.iload_n 3, 1) := by decide +kernel
theorem dX12_winner_131 : decode cX12_winner 131 = .ok (.iconst 1, 1) := by decide +kernel
theorem dX12_winner_132 : decode cX12_winner 132 = .ok (.iload 7, 2) := by decide +kernel
theorem dX12_winner_134 : decode cX12_winner 134 = .ok (.ishl, 1) := by decide +kernel
theorem dX12_winner_135 : decode cX12_winner 135 = .ok (.ior, 1) := by decide +kernel
theorem dX12_winner_136 : decode cX12_winner 136 = .ok (.iconst 0, 1) := by decide +kernel
theorem dX12_winner_137 : decode cX12_winner 137 = .ok (.invokevirtual 364, 3) := by decide +kernel
theorem dX12_winner_140 : decode cX12_winner 140 = .ok (.istore 5, 2) := by decide +kernel
theorem dX12_winner_142 : decode cX12_winner 142 = .ok (.iinc 7 1, 3) := by decide +kernel
theorem dX12_winner_145 : decode cX12_winner 145 = .ok (.goto (-86), 3) := by decide +kernel
theorem dX12_winner_148 : decode cX12_winner 148 = .ok (.aload_n 0, 1) := by decide +kernel
theorem dX12_winner_149 : decode cX12_winner 149 = .ok (.getfield 57, 3) := by decide +kernel
theorem dX12_winner_152 : decode cX12_winner 152 = .ok (.iconst 2, 1) := by decide +kernel
theorem dX12_winner_153 : decode cX12_winner 153 = .ok (.iload_n 1, 1) := by decide +kernel
theorem dX12_winner_154 : decode cX12_winner 154 = .ok (.imul, 1) := by decide +kernel
theorem dX12_winner_155 : decode cX12_winner 155 = .ok (.iload 4, 2) := by decide +kernel
theorem dX12_winner_157 : decode cX12_winner 157 = .ok (.iadd, 1) := by decide +kernel
theorem dX12_winner_158 : decode cX12_winner 158 = .ok (.iload 5, 2) := by decide +kernel
theorem dX12_winner_160 : decode cX12_winner 160 = .ok (.iconst 1, 1) := by decide +kernel
theorem dX12_winner_161 : decode cX12_winner 161 = .ok (.iadd, 1) := by decide +kernel
theorem dX12_winner_162 : decode cX12_winner 162 = .ok (.i2b, 1) := by decide +kernel
theorem dX12_winner_163 : decode cX12_winner 163 = .ok (.bastore, 1) := by decide +kernel
theorem dX12_winner_164 : decode cX12_winner 164 = .ok (.iload 5, 2) := by decide +kernel
theorem dX12_winner_166 : decode cX12_winner 166 = .ok (.ireturn, 1) := by decide +kernel
theorem dX12_full_0 : decode cX12_full 0 = .ok (.aload_n 0, 1) := by decide +kernel
theorem dX12_full_1 : decode cX12_full 1 = .ok (.iconst 0, 1) := by decide +kernel
theorem dX12_full_2 : decode cX12_full 2 = .ok (.putfield 73, 3) := by decide +kernel
theorem dX12_full_5 : decode cX12_full 5 = .ok (.iload_n 1, 1) := by decide +kernel
theorem dX12_full_6 : decode cX12_full 6 = .ok (.ifCond .lt 8, 3) := by decide +kernel
theorem dX12_full_9 : decode cX12_full 9 = .ok (.iload_n 1, 1) := by decide +kernel
theorem dX12_full_10 : decode cX12_full 10 = .ok (.iconst 1, 1) := by decide +kernel
theorem dX12_full_11 : decode cX12_full 11 = .ok (.if_icmp .le 5, 3) := by decide +kernel
theorem dX12_full_14 : decode cX12_full 14 = .ok (.iconst (-1), 1) := by decide +kernel
theorem dX12_full_15 : decode cX12_full 15 = .ok (.ireturn, 1) := by decide +kernel
theorem dX12_full_16 : decode cX12_full 16 = .ok (.aload_n 0, 1) := by decide +kernel
theorem dX12_full_17 : decode cX12_full 17 = .ok (.invokevirtual 298, 3) := by decide +kernel
theorem dX12_full_20 : decode cX12_full 20 = .ok (.invokestatic 250, 3) := by decide +kernel
theorem dX12_full_23 : decode cX12_full 23 = .ok (.bipush 10, 2) := by decide +kernel
theorem dX12_full_25 : decode cX12_full 25 = .ok (.if_icmp .le 6, 3) := by decide +kernel
theorem dX12_full_28 : decode cX12_full 28 = .ok (.bipush (-2), 2) := by decide +kernel
theorem dX12_full_30 : decode cX12_full 30 = .ok (.ireturn, 1) := by decide +kernel
theorem dX12_full_31 : decode cX12_full 31 = .ok (.aload_n 0, 1) := by decide +kernel
theorem dX12_full_32 : decode cX12_full 32 = .ok (.invokevirtual 367, 3) := by decide +kernel
theorem dX12_full_35 : decode cX12_full 35 = .ok (.aload_n 0, 1) := by decide +kernel
theorem dX12_full_36 : decode cX12_full 36 = .ok (.iconst 0, 1) := by decide +kernel
theorem dX12_full_37 : decode cX12_full 37 = .ok (.aload_n 0, 1) := by decide +kernel
theorem dX12_full_38 : decode cX12_full 38 = .ok (.getfield 201, 3) := by decide +kernel
theorem dX12_full_41 : decode cX12_full 41 = .ok (.aload_n 0, 1) := by decide +kernel
theorem dX12_full_42 : decode cX12_full 42 = .ok (.getfield 204, 3) := by decide +kernel
theorem dX12_full_45 : decode cX12_full 45 = .ok (.iload_n 1, 1) := by decide +kernel
theorem dX12_full_46 : decode cX12_full 46 = .ok (.invokevirtual 364, 3) := by decide +kernel
theorem dX12_full_49 : decode cX12_full 49 = .ok (.ireturn, 1) := by decide +kernel
theorem dX12_positions_0 : decode cX12_positions 0 = .ok (.aload_n 0, 1) := by decide +kernel
theorem dX12_positions_1 : decode cX12_positions 1 = .ok (.iconst 0, 1) := by decide +kernel
theorem dX12_positions_2 : decode cX12_positions 2 = .ok (.putfield 73, 3) := by decide +kernel
theorem dX12_positions_5 : decode cX12_positions 5 = .ok (.iload_n 1, 1) := by decide +kernel
theorem dX12_positions_6 : decode cX12_positions 6 = .ok (.ifCond .lt 8, 3) := by decide +kernel
theorem dX12_positions_9 : decode cX12_positions 9 = .ok (.iload_n 1, 1) := by decide +kernel
theorem dX12_positions_10 : decode cX12_positions 10 = .ok (.iconst 3, 1) := by decide +kernel
theorem dX12_positions_11 : decode cX12_positions 11 = .ok (.if_icmp .le 5, 3) := by decide +kernel
theorem dX12_positions_14 : decode cX12_positions 14 = .ok (.iconst (-1), 1) := by decide +kernel
theorem dX12_positions_15 : decode cX12_positions 15 = .ok (.ireturn, 1) := by decide +kernel
theorem dX12_positions_16 : decode cX12_positions 16 = .ok (.aload_n 0, 1) := by decide +kernel
theorem dX12_positions_17 : decode cX12_positions 17 = .ok (.invokevirtual 298, 3) := by decide +kernel
theorem dX12_positions_20 : decode cX12_positions 20 = .ok (.istore_n 2, 1) := by decide +kernel
theorem dX12_positions_21 : decode cX12_positions 21 = .ok (.iload_n 2, 1) := by decide +kernel
theorem dX12_positions_22 : decode cX12_positions 22 = .ok (.invokestatic 250, 3) := by decide +kernel
theorem dX12_positions_25 : decode cX12_positions 25 = .ok (.bipush 10, 2) := by decide +kernel
theorem dX12_positions_27 : decode cX12_positions 27 = .ok (.if_icmp .le 6, 3) := by decide +kernel
theorem dX12_positions_30 : decode cX12_positions 30 = .ok (.bipush (-2), 2) := by decide +kernel
theorem dX12_positions_32 : decode cX12_positions 32 = .ok (.ireturn, 1) := by decide +kernel
theorem dX12_positions_33 : decode cX12_positions 33 = .ok (.iconst 0, 1) := by decide +kernel
theorem dX12_positions_34 : decode cX12_positions 34 = .ok (.istore_n 3, 1) := by decide +kernel
theorem dX12_positions_35 : decode cX12_positions 35 = .ok (.iload_n 2, 1) := by decide +kernel
theorem dX12_positions_36 : decode cX12_positions 36 = .ok (.istore 4, 2) := by decide +kernel
theorem dX12_positions_38 : decode cX12_positions 38 = .ok (.iload_n 2, 1) := by decide +kernel
theorem dX12_positions_39 : decode cX12_positions 39 = .ok (.iload 4, 2) := by decide +kernel
theorem dX12_positions_41 : decode cX12_positions 41 = .ok (.iconst (-1), 1) := by decide +kernel
theorem dX12_positions_42 : decode cX12_positions 42 = .ok (.ixor, 1) := by decide +kernel
theorem dX12_positions_43 : decode cX12_positions 43 = .ok (.iand, 1) := by decide +kernel
theorem dX12_positions_44 : decode cX12_positions 44 = .ok (.istore 5, 2) := by decide +kernel
theorem dX12_positions_46 : decode cX12_positions 46 = .ok (.iload 5, 2) := by decide +kernel
theorem dX12_positions_48 : decode cX12_positions 48 = .ok (.istore 6, 2) := by decide +kernel
theorem dX12_positions_50 : decode cX12_positions 50 = .ok (.iload_n 3, 1) := by decide +kernel
theorem dX12_positions_51 : decode cX12_positions 51 = .ok (.iload_n 1, 1) := by decide +kernel
theorem dX12_positions_52 : decode cX12_positions 52 = .ok (.iconst 3, 1) := by decide +kernel
theorem dX12_positions_53 : decode cX12_positions 53 = .ok (.if_icmp .eq 25, 3) := by decide +kernel
theorem dX12_positions_56 : decode cX12_positions 56 = .ok (.aload_n 0, 1) := by decide +kernel
theorem dX12_positions_57 : decode cX12_positions 57 = .ok (.aload_n 0, 1) := by decide +kernel
theorem dX12_positions_58 : decode cX12_positions 58 = .ok (.getfield 201, 3) := by decide +kernel
theorem dX12_positions_61 : decode cX12_positions 61 = .ok (.iload 4, 2) := by decide +kernel
theorem dX12_positions_63 : decode cX12_positions 63 = .ok (.ior, 1) := by decide +kernel
theorem dX12_positions_64 : decode cX12_positions 64 = .ok (.aload_n 0, 1) := by decide +kernel
theorem dX12_positions_65 : decode cX12_positions 65 = .ok (.getfield 204, 3) := by decide +kernel
theorem dX12_positions_68 : decode cX12_positions 68 = .ok (.iload 6, 2) := by decide +kernel
theorem dX12_positions_70 : decode cX12_positions 70 = .ok (.ior, 1) := by decide +kernel
theorem dX12_positions_71 : decode cX12_positions 71 = .ok (.invokevirtual 301, 3) := by decide +kernel
theorem dX12_positions_74 : decode cX12_positions 74 = .ok (.iload_n 1, 1) := by decide +kernel
theorem dX12_positions_75 : decode cX12_positions 75 = .ok (.if_icmp .ne 7, 3) := by decide +kernel
theorem dX12_positions_78 : decode cX12_positions 78 = .ok (.iconst 1, 1) := by decide +kernel
theorem dX12_positions_79 : decode cX12_positions 79 = .ok (.goto 4, 3) := by decide +kernel
theorem dX12_positions_82 : decode cX12_positions 82 = .ok (.iconst 0, 1) := by decide +kernel
theorem dX12_positions_83 : decode cX12_positions 83 = .ok (.iadd, 1) := by decide +kernel
theorem dX12_positions_84 : decode cX12_positions 84 = .ok (.istore_n 3, 1) := by decide +kernel
theorem dX12_positions_85 : decode cX12_positions 85 = .ok (.iload 6, 2) := by decide +kernel
theorem dX12_positions_87 : decode cX12_positions 87 = .ok (.ifCond .ne 6, 3) := by decide +kernel
theorem dX12_positions_90 : decode cX12_positions 90 = .ok (.goto 15, 3) := by decide +kernel
theorem dX12_positions_93 : decode cX12_positions 93 = .ok (.iload 6, 2) := by decide +kernel
theorem dX12_positions_95 : decode cX12_positions 95 = .ok (.iconst 1, 1) := by decide +kernel
theorem dX12_positions_96 : decode cX12_positions 96 = .ok (.isub, 1) := by decide +kernel
theorem dX12_positions_97 : decode cX12_positions 97 = .ok (.iload 5, 2) := by decide +kernel
theorem dX12_positions_99 : decode cX12_positions 99 = .ok (.iand, 1) := by decide +kernel
theorem dX12_positions_100 : decode cX12_positions 100 = .ok (.istore 6, 2) := by decide +kernel
theorem dX12_positions_102 : decode cX12_positions 102 = .ok (.goto (-52), 3) := by decide +kernel
theorem dX12_positions_105 : decode cX12_positions 105 = .ok (.iload 4, 2) := by decide +kernel
theorem dX12_positions_107 : decode cX12_positions 107 = .ok (.ifCond .ne 5, 3) := by decide +kernel
theorem dX12_positions_110 : decode cX12_positions 110 = .ok (.iload_n 3, 1) := by decide +kernel
theorem dX12_positions_111 : decode cX12_positions 111 = .ok (.ireturn, 1) := by decide +kernel
theorem dX12_positions_112 : decode cX12_positions 112 = .ok (.iload 4, 2) := by decide +kernel
theorem dX12_positions_114 : decode cX12_positions 114 = .ok (.iconst 1, 1) := by decide +kernel
theorem dX12_positions_115 : decode cX12_positions 115 = .ok (.isub, 1) := by decide +kernel
theorem dX12_positions_116 : decode cX12_positions 116 = .ok (.iload_n 2, 1) := by decide +kernel
theorem dX12_positions_117 : decode cX12_positions 117 = .ok (.iand, 1) := by decide +kernel
theorem dX12_positions_118 : decode cX12_positions 118 = .ok (.istore 4, 2) := by decide +kernel
theorem dX12_positions_120 : decode cX12_positions 120 = .ok (.goto (-82), 3) := by decide +kernel
theorem dX12_isSo_0 : decode cX12_isSo 0 = .ok (.iload_n 1, 1) := by decide +kernel
theorem dX12_isSo_1 : decode cX12_isSo 1 = .ok (.ifCond .ne 14, 3) := by decide +kernel
theorem dX12_isSo_4 : decode cX12_isSo 4 = .ok (.aload_n 0, 1) := by decide +kernel
theorem dX12_isSo_5 : decode cX12_isSo 5 = .ok (.aload_n 0, 1) := by decide +kernel
theorem dX12_isSo_6 : decode cX12_isSo 6 = .ok (.getfield 201, 3) := by decide +kernel
theorem dX12_isSo_9 : decode cX12_isSo 9 = .ok (.iload_n 2, 1) := by decide +kernel
theorem dX12_isSo_10 : decode cX12_isSo 10 = .ok (.ior, 1) := by decide +kernel
theorem dX12_isSo_11 : decode cX12_isSo 11 = .ok (.invokevirtual 230, 3) := by decide +kernel
theorem dX12_isSo_14 : decode cX12_isSo 14 = .ok (.ireturn, 1) := by decide +kernel
theorem dX12_isSo_15 : decode cX12_isSo 15 = .ok (.iload_n 1, 1) := by decide +kernel
theorem dX12_isSo_16 : decode cX12_isSo 16 = .ok (.iconst 1, 1) := by decide +kernel
theorem dX12_isSo_17 : decode cX12_isSo 17 = .ok (.if_icmp .ne 31, 3) := by decide +kernel
theorem dX12_isSo_20 : decode cX12_isSo 20 = .ok (.aload_n 0, 1) := by decide +kernel
theorem dX12_isSo_21 : decode cX12_isSo 21 = .ok (.aload_n 0, 1) := by decide +kernel
theorem dX12_isSo_22 : decode cX12_isSo 22 = .ok (.invokevirtual 223, 3) := by decide +kernel
theorem dX12_isSo_25 : decode cX12_isSo 25 = .ok (.aload_n 0, 1) := by decide +kernel
theorem dX12_isSo_26 : decode cX12_isSo 26 = .ok (.getfield 204, 3) := by decide +kernel
theorem dX12_isSo_29 : decode cX12_isSo 29 = .ok (.iconst (-1), 1) := by decide +kernel
theorem dX12_isSo_30 : decode cX12_isSo 30 = .ok (.ixor, 1) := by decide +kernel
theorem dX12_isSo_31 : decode cX12_isSo 31 = .ok (.iand, 1) := by decide +kernel
theorem dX12_isSo_32 : decode cX12_isSo 32 = .ok (.iload_n 2, 1) := by decide +kernel
theorem dX12_isSo_33 : decode cX12_isSo 33 = .ok (.iconst (-1), 1) := by decide +kernel
theorem dX12_isSo_34 : decode cX12_isSo 34 = .ok (.ixor, 1) := by decide +kernel
theorem dX12_isSo_35 : decode cX12_isSo 35 = .ok (.iand, 1) := by decide +kernel
theorem dX12_isSo_36 : decode cX12_isSo 36 = .ok (.invokevirtual 230, 3) := by decide +kernel
theorem dX12_isSo_39 : decode cX12_isSo 39 = .ok (.ifCond .ne 7, 3) := by decide +kernel
theorem dX12_isSo_42 : decode cX12_isSo 42 = .ok (.iconst 1, 1) := by decide +kernel
theorem dX12_isSo_43 : decode cX12_isSo 43 = .ok (.goto 4, 3) := by decide +kernel
theorem dX12_isSo_46 : decode cX12_isSo 46 = .ok (.iconst 0, 1) := by decide +kernel
theorem dX12_isSo_47 : decode cX12_isSo 47 = .ok (.ireturn, 1) := by decide +kernel
theorem dX12_isSo_48 : decode cX12_isSo 48 = .ok (.iload_n 2, 1) := by decide +kernel
theorem dX12_isSo_49 : decode cX12_isSo 49 = .ok (.invokestatic 250, 3) := by decide +kernel
theorem dX12_isSo_52 : decode cX12_isSo 52 = .ok (.aload_n 0, 1) := by decide +kernel
theorem dX12_isSo_53 : decode cX12_isSo 53 = .ok (.invokevirtual 259, 3) := by decide +kernel
theorem dX12_isSo_56 : decode cX12_isSo 56 = .ok (.invokestatic 250, 3) := by decide +kernel
theorem dX12_isSo_59 : decode cX12_isSo 59 = .ok (.iconst 1, 1) := by decide +kernel
theorem dX12_isSo_60 : decode cX12_isSo 60 = .ok (.isub, 1) := by decide +kernel
theorem dX12_isSo_61 : decode cX12_isSo 61 = .ok (.if_icmp .ne 15, 3) := by decide +kernel
theorem dX12_isSo_64 : decode cX12_isSo 64 = .ok (.aload_n 0, 1) := by decide +kernel
theorem dX12_isSo_65 : decode cX12_isSo 65 = .ok (.iload_n 2, 1) := by decide +kernel
theorem dX12_isSo_66 : decode cX12_isSo 66 = .ok (.invokevirtual 233, 3) := by decide +kernel
theorem dX12_isSo_69 : decode cX12_isSo 69 = .ok (.ifCond .eq 7, 3) := by decide +kernel
theorem dX12_isSo_72 : decode cX12_isSo 72 = .ok (.iconst 1, 1) := by decide +kernel
theorem dX12_isSo_73 : decode cX12_isSo 73 = .ok (.goto 4, 3) := by decide +kernel
theorem dX12_isSo_76 : decode cX12_isSo 76 = .ok (.iconst 0, 1) := by decide +kernel
theorem dX12_isSo_77 : decode cX12_isSo 77 = .ok (.ireturn, 1) := by decide +kernel
theorem dX12_manySo_0 : decode cX12_manySo 0 = .ok (.aload_n 0, 1) := by decide +kernel
theorem dX12_manySo_1 : decode cX12_manySo 1 = .ok (.aload_n 0, 1) := by decide +kernel
theorem dX12_manySo_2 : decode cX12_manySo 2 = .ok (.getfield 201, 3) := by decide +kernel
theorem dX12_manySo_5 : decode cX12_manySo 5 = .ok (.invokevirtual 256, 3) := by decide +kernel
theorem dX12_manySo_8 : decode cX12_manySo 8 = .ok (.aload_n 0, 1) := by decide +kernel
theorem dX12_manySo_9 : decode cX12_manySo 9 = .ok (.invokevirtual 298, 3) := by decide +kernel
theorem dX12_manySo_12 : decode cX12_manySo 12 = .ok (.istore 4, 2) := by decide +kernel
theorem dX12_manySo_14 : decode cX12_manySo 14 = .ok (.iconst 0, 1) := by decide +kernel
theorem dX12_manySo_15 : decode cX12_manySo 15 = .ok (.istore 5, 2) := by decide +kernel
theorem dX12_manySo_17 : decode cX12_manySo 17 = .ok (.iload 4, 2) := by decide +kernel
theorem dX12_manySo_19 : decode cX12_manySo 19 = .ok (.istore 6, 2) := by decide +kernel
theorem dX12_manySo_21 : decode cX12_manySo 21 = .ok (.iload_n 2, 1) := by decide +kernel
theorem dX12_manySo_22 : decode cX12_manySo 22 = .ok (.iconst (-1), 1) := by decide +kernel
theorem dX12_manySo_23 : decode cX12_manySo 23 = .ok (.if_icmp .eq 12, 3) := by decide +kernel
theorem dX12_manySo_26 : decode cX12_manySo 26 = .ok (.iload 6, 2) := by decide +kernel
theorem dX12_manySo_28 : decode cX12_manySo 28 = .ok (.invokestatic 250, 3) := by decide +kernel
theorem dX12_manySo_31 : decode cX12_manySo 31 = .ok (.iload_n 2, 1) := by decide +kernel
theorem dX12_manySo_32 : decode cX12_manySo 32 = .ok (.if_icmp .ne 22, 3) := by decide +kernel
theorem dX12_manySo_35 : decode cX12_manySo 35 = .ok (.iload_n 3, 1) := by decide +kernel
theorem dX12_manySo_36 : decode cX12_manySo 36 = .ok (.iconst (-1), 1) := by decide +kernel
theorem dX12_manySo_37 : decode cX12_manySo 37 = .ok (.if_icmp .eq 13, 3) := by decide +kernel
theorem dX12_manySo_40 : decode cX12_manySo 40 = .ok (.iload 6, 2) := by decide +kernel
theorem dX12_manySo_42 : decode cX12_manySo 42 = .ok (.iload_n 3, 1) := by decide +kernel
theorem dX12_manySo_43 : decode cX12_manySo 43 = .ok (.ishr, 1) := by decide +kernel
theorem dX12_manySo_44 : decode cX12_manySo 44 = .ok (.iconst 1, 1) := by decide +kernel
theorem dX12_manySo_45 : decode cX12_manySo 45 = .ok (.iand, 1) := by decide +kernel
theorem dX12_manySo_46 : decode cX12_manySo 46 = .ok (.iconst 1, 1) := by decide +kernel
theorem dX12_manySo_47 : decode cX12_manySo 47 = .ok (.if_icmp .ne 7, 3) := by decide +kernel
theorem dX12_manySo_50 : decode cX12_manySo 50 = .ok (.iconst 1, 1) := by decide +kernel
theorem dX12_manySo_51 : decode cX12_manySo 51 = .ok (.goto 4, 3) := by decide +kernel
theorem dX12_manySo_54 : decode cX12_manySo 54 = .ok (.iconst 0, 1) := by decide +kernel
theorem dX12_manySo_55 : decode cX12_manySo 55 = .ok (.istore 7, 2) := by decide +kernel
theorem dX12_manySo_57 : decode cX12_manySo 57 = .ok (.iload 5, 2) := by decide +kernel
theorem dX12_manySo_59 : decode cX12_manySo 59 = .ok (.iload 7, 2) := by decide +kernel
theorem dX12_manySo_61 : decode cX12_manySo 61 = .ok (.ifCond .eq 17, 3) := by decide +kernel
theorem dX12_manySo_64 : decode cX12_manySo 64 = .ok (.aload_n 0, 1) := by decide +kernel
theorem dX12_manySo_65 : decode cX12_manySo 65 = .ok (.iload_n 1, 1) := by decide +kernel
theorem dX12_manySo_66 : decode cX12_manySo 66 = .ok (.iload 6, 2) := by decide +kernel
theorem dX12_manySo_68 : decode cX12_manySo 68 = .ok (.invokevirtual 370, 3) := by decide +kernel
theorem dX12_manySo_71 : decode cX12_manySo 71 = .ok (.ifCond .eq 7, 3) := by decide +kernel
theorem dX12_manySo_74 : decode cX12_manySo 74 = .ok (.iconst 1, 1) := by decide +kernel
theorem dX12_manySo_75 : decode cX12_manySo 75 = .ok (.goto 4, 3) := by decide +kernel
theorem dX12_manySo_78 : decode cX12_manySo 78 = .ok (.iconst 0, 1) := by decide +kernel
theorem dX12_manySo_79 : decode cX12_manySo 79 = .ok (.iadd, 1) := by decide +kernel
theorem dX12_manySo_80 : decode cX12_manySo 80 = .ok (.istore 5, 2) := by decide +kernel
theorem dX12_manySo_82 : decode cX12_manySo 82 = .ok (.iload 6, 2) := by decide +kernel
theorem dX12_manySo_84 : decode cX12_manySo 84 = .ok (.ifCond .ne 6, 3) := by decide +kernel
theorem dX12_manySo_87 : decode cX12_manySo 87 = .ok (.iload 5, 2) := by decide +kernel
theorem dX12_manySo_89 : decode cX12_manySo 89 = .ok (.ireturn, 1) := by decide +kernel
theorem dX12_manySo_90 : decode cX12_manySo 90 = .ok (.iload 6, 2) := by decide +kernel
theorem dX12_manySo_92 : decode cX12_manySo 92 = .ok (.iconst 1, 1) := by decide +kernel
theorem dX12_manySo_93 : decode cX12_manySo 93 = .ok (.isub, 1) := by decide +kernel
theorem dX12_manySo_94 : decode cX12_manySo 94 = .ok (.iload 4, 2) := by decide +kernel
theorem dX12_manySo_96 : decode cX12_manySo 96 = .ok (.iand, 1) := by decide +kernel
theorem dX12_manySo_97 : decode cX12_manySo 97 = .ok (.istore 6, 2) := by decide +kernel
theorem dX12_manySo_99 : decode cX12_manySo 99 = .ok (.goto (-78), 3) := by decide +kernel
theorem dX12_leastSo_0 : decode cX12_leastSo 0 = .ok (.aload_n 0, 1) := by decide +kernel
theorem dX12_leastSo_1 : decode cX12_leastSo 1 = .ok (.invokevirtual 298, 3) := by decide +kernel
theorem dX12_leastSo_4 : decode cX12_leastSo 4 = .ok (.istore_n 2, 1) := by decide +kernel
theorem dX12_leastSo_5 : decode cX12_leastSo 5 = .ok (.iconst (-1), 1) := by decide +kernel
theorem dX12_leastSo_6 : decode cX12_leastSo 6 = .ok (.istore_n 3, 1) := by decide +kernel
theorem dX12_leastSo_7 : decode cX12_leastSo 7 = .ok (.iload_n 2, 1) := by decide +kernel
theorem dX12_leastSo_8 : decode cX12_leastSo 8 = .ok (.istore 4, 2) := by decide +kernel
theorem dX12_leastSo_10 : decode cX12_leastSo 10 = .ok (.iload_n 3, 1) := by decide +kernel
theorem dX12_leastSo_11 : decode cX12_leastSo 11 = .ok (.iconst (-1), 1) := by decide +kernel
theorem dX12_leastSo_12 : decode cX12_leastSo 12 = .ok (.if_icmp .eq 15, 3) := by decide +kernel
theorem dX12_leastSo_15 : decode cX12_leastSo 15 = .ok (.iload 4, 2) := by decide +kernel
theorem dX12_leastSo_17 : decode cX12_leastSo 17 = .ok (.invokestatic 250, 3) := by decide +kernel
theorem dX12_leastSo_20 : decode cX12_leastSo 20 = .ok (.iload_n 3, 1) := by decide +kernel
theorem dX12_leastSo_21 : decode cX12_leastSo 21 = .ok (.invokestatic 250, 3) := by decide +kernel
theorem dX12_leastSo_24 : decode cX12_leastSo 24 = .ok (.if_icmp .gt 16, 3) := by decide +kernel
theorem dX12_leastSo_27 : decode cX12_leastSo 27 = .ok (.aload_n 0, 1) := by decide +kernel
theorem dX12_leastSo_28 : decode cX12_leastSo 28 = .ok (.iload_n 1, 1) := by decide +kernel
theorem dX12_leastSo_29 : decode cX12_leastSo 29 = .ok (.iload 4, 2) := by decide +kernel
theorem dX12_leastSo_31 : decode cX12_leastSo 31 = .ok (.invokevirtual 370, 3) := by decide +kernel
theorem dX12_leastSo_34 : decode cX12_leastSo 34 = .ok (.ifCond .eq 6, 3) := by decide +kernel
theorem dX12_leastSo_37 : decode cX12_leastSo 37 = .ok (.iload 4, 2) := by decide +kernel
theorem dX12_leastSo_39 : decode cX12_leastSo 39 = .ok (.istore_n 3, 1) := by decide +kernel
theorem dX12_leastSo_40 : decode cX12_leastSo 40 = .ok (.iload 4, 2) := by decide +kernel
theorem dX12_leastSo_42 : decode cX12_leastSo 42 = .ok (.ifCond .ne 5, 3) := by decide +kernel
theorem dX12_leastSo_45 : decode cX12_leastSo 45 = .ok (.iload_n 3, 1) := by decide +kernel
theorem dX12_leastSo_46 : decode cX12_leastSo 46 = .ok (.ireturn, 1) := by decide +kernel
theorem dX12_leastSo_47 : decode cX12_leastSo 47 = .ok (.iload 4, 2) := by decide +kernel
theorem dX12_leastSo_49 : decode cX12_leastSo 49 = .ok (.iconst 1, 1) := by decide +kernel
theorem dX12_leastSo_50 : decode cX12_leastSo 50 = .ok (.isub, 1) := by decide +kernel
theorem dX12_leastSo_51 : decode cX12_leastSo 51 = .ok (.iload_n 2, 1) := by decide +kernel
theorem dX12_leastSo_52 : decode cX12_leastSo 52 = .ok (.iand, 1) := by decide +kernel
theorem dX12_leastSo_53 : decode cX12_leastSo 53 = .ok (.istore 4, 2) := by decide +kernel
theorem dX12_leastSo_55 : decode cX12_leastSo 55 = .ok (.goto (-45), 3) := by decide +kernel
theorem dX12_wall_0 : decode cX12_wall 0 = .ok (.aload_n 0, 1) := by decide +kernel
theorem dX12_wall_1 : decode cX12_wall 1 = .ok (.iconst 0, 1) := by decide +kernel
theorem dX12_wall_2 : decode cX12_wall 2 = .ok (.putfield 73, 3) := by decide +kernel
theorem dX12_wall_5 : decode cX12_wall 5 = .ok (.iload_n 1, 1) := by decide +kernel
theorem dX12_wall_6 : decode cX12_wall 6 = .ok (.ifCond .lt 8, 3) := by decide +kernel
theorem dX12_wall_9 : decode cX12_wall 9 = .ok (.iload_n 1, 1) := by decide +kernel
theorem dX12_wall_10 : decode cX12_wall 10 = .ok (.iconst 1, 1) := by decide +kernel
theorem dX12_wall_11 : decode cX12_wall 11 = .ok (.if_icmp .le 5, 3) := by decide +kernel
theorem dX12_wall_14 : decode cX12_wall 14 = .ok (.iconst (-1), 1) := by decide +kernel
theorem dX12_wall_15 : decode cX12_wall 15 = .ok (.ireturn, 1) := by decide +kernel
theorem dX12_wall_16 : decode cX12_wall 16 = .ok (.aload_n 0, 1) := by decide +kernel
theorem dX12_wall_17 : decode cX12_wall 17 = .ok (.aload_n 0, 1) := by decide +kernel
theorem dX12_wall_18 : decode cX12_wall 18 = .ok (.getfield 201, 3) := by decide +kernel
theorem dX12_wall_21 : decode cX12_wall 21 = .ok (.invokevirtual 230, 3) := by decide +kernel
theorem dX12_wall_24 : decode cX12_wall 24 = .ok (.ifCond .eq 6, 3) := by decide +kernel
theorem dX12_wall_27 : decode cX12_wall 27 = .ok (.bipush (-2), 2) := by decide +kernel
theorem dX12_wall_29 : decode cX12_wall 29 = .ok (.ireturn, 1) := by decide +kernel
theorem dX12_wall_30 : decode cX12_wall 30 = .ok (.aload_n 0, 1) := by decide +kernel
theorem dX12_wall_31 : decode cX12_wall 31 = .ok (.iconst 1, 1) := by decide +kernel
theorem dX12_wall_32 : decode cX12_wall 32 = .ok (.invokevirtual 373, 3) := by decide +kernel
theorem dX12_wall_35 : decode cX12_wall 35 = .ok (.istore_n 2, 1) := by decide +kernel
theorem dX12_wall_36 : decode cX12_wall 36 = .ok (.iload_n 1, 1) := by decide +kernel
theorem dX12_wall_37 : decode cX12_wall 37 = .ok (.ifCond .ne 10, 3) := by decide +kernel
theorem dX12_wall_40 : decode cX12_wall 40 = .ok (.iload_n 2, 1) := by decide +kernel
theorem dX12_wall_41 : decode cX12_wall 41 = .ok (.invokestatic 250, 3) := by decide +kernel
theorem dX12_wall_44 : decode cX12_wall 44 = .ok (.goto 4, 3) := by decide +kernel
theorem dX12_wall_47 : decode cX12_wall 47 = .ok (.iload_n 2, 1) := by decide +kernel
theorem dX12_wall_48 : decode cX12_wall 48 = .ok (.ireturn, 1) := by decide +kernel
theorem dX12_road_0 : decode cX12_road 0 = .ok (.aload_n 0, 1) := by decide +kernel
theorem dX12_road_1 : decode cX12_road 1 = .ok (.iconst 0, 1) := by decide +kernel
theorem dX12_road_2 : decode cX12_road 2 = .ok (.putfield 73, 3) := by decide +kernel
theorem dX12_road_5 : decode cX12_road 5 = .ok (.iload_n 1, 1) := by decide +kernel
theorem dX12_road_6 : decode cX12_road 6 = .ok (.ifCond .lt 8, 3) := by decide +kernel
theorem dX12_road_9 : decode cX12_road 9 = .ok (.iload_n 1, 1) := by decide +kernel
theorem dX12_road_10 : decode cX12_road 10 = .ok (.iconst 1, 1) := by decide +kernel
theorem dX12_road_11 : decode cX12_road 11 = .ok (.if_icmp .le 5, 3) := by decide +kernel
theorem dX12_road_14 : decode cX12_road 14 = .ok (.iconst (-1), 1) := by decide +kernel
theorem dX12_road_15 : decode cX12_road 15 = .ok (.ireturn, 1) := by decide +kernel
theorem dX12_road_16 : decode cX12_road 16 = .ok (.aload_n 0, 1) := by decide +kernel
theorem dX12_road_17 : decode cX12_road 17 = .ok (.aload_n 0, 1) := by decide +kernel
theorem dX12_road_18 : decode cX12_road 18 = .ok (.getfield 201, 3) := by decide +kernel
theorem dX12_road_21 : decode cX12_road 21 = .ok (.aload_n 0, 1) := by decide +kernel
theorem dX12_road_22 : decode cX12_road 22 = .ok (.getfield 204, 3) := by decide +kernel
theorem dX12_road_25 : decode cX12_road 25 = .ok (.invokevirtual 301, 3) := by decide +kernel
theorem dX12_road_28 : decode cX12_road 28 = .ok (.iconst 1, 1) := by decide +kernel
theorem dX12_road_29 : decode cX12_road 29 = .ok (.if_icmp .ne 6, 3) := by decide +kernel
theorem dX12_road_32 : decode cX12_road 32 = .ok (.bipush (-2), 2) := by decide +kernel
theorem dX12_road_34 : decode cX12_road 34 = .ok (.ireturn, 1) := by decide +kernel
theorem dX12_road_35 : decode cX12_road 35 = .ok (.aload_n 0, 1) := by decide +kernel
theorem dX12_road_36 : decode cX12_road 36 = .ok (.iconst 0, 1) := by decide +kernel
theorem dX12_road_37 : decode cX12_road 37 = .ok (.invokevirtual 373, 3) := by decide +kernel
theorem dX12_road_40 : decode cX12_road 40 = .ok (.istore_n 2, 1) := by decide +kernel
theorem dX12_road_41 : decode cX12_road 41 = .ok (.iload_n 1, 1) := by decide +kernel
theorem dX12_road_42 : decode cX12_road 42 = .ok (.ifCond .ne 10, 3) := by decide +kernel
theorem dX12_road_45 : decode cX12_road 45 = .ok (.iload_n 2, 1) := by decide +kernel
theorem dX12_road_46 : decode cX12_road 46 = .ok (.invokestatic 250, 3) := by decide +kernel
theorem dX12_road_49 : decode cX12_road 49 = .ok (.goto 4, 3) := by decide +kernel
theorem dX12_road_52 : decode cX12_road 52 = .ok (.iload_n 2, 1) := by decide +kernel
theorem dX12_road_53 : decode cX12_road 53 = .ok (.ireturn, 1) := by decide +kernel
theorem dX12_lucky_0 : decode cX12_lucky 0 = .ok (.aload_n 0, 1) := by decide +kernel
theorem dX12_lucky_1 : decode cX12_lucky 1 = .ok (.iconst 0, 1) := by decide +kernel
theorem dX12_lucky_2 : decode cX12_lucky 2 = .ok (.putfield 73, 3) := by decide +kernel
theorem dX12_lucky_5 : decode cX12_lucky 5 = .ok (.iload_n 1, 1) := by decide +kernel
theorem dX12_lucky_6 : decode cX12_lucky 6 = .ok (.iconst (-1), 1) := by decide +kernel
theorem dX12_lucky_7 : decode cX12_lucky 7 = .ok (.if_icmp .lt 14, 3) := by decide +kernel
theorem dX12_lucky_10 : decode cX12_lucky 10 = .ok (.iload_n 1, 1) := by decide +kernel
theorem dX12_lucky_11 : decode cX12_lucky 11 = .ok (.aload_n 0, 1) := by decide +kernel
theorem dX12_lucky_12 : decode cX12_lucky 12 = .ok (.invokevirtual 298, 3) := by decide +kernel
theorem dX12_lucky_15 : decode cX12_lucky 15 = .ok (.invokestatic 250, 3) := by decide +kernel
theorem dX12_lucky_18 : decode cX12_lucky 18 = .ok (.if_icmp .le 8, 3) := by decide +kernel
theorem dX12_lucky_21 : decode cX12_lucky 21 = .ok (.bipush (-2), 2) := by decide +kernel
theorem dX12_lucky_23 : decode cX12_lucky 23 = .ok (.goto 10, 3) := by decide +kernel
theorem dX12_lucky_26 : decode cX12_lucky 26 = .ok (.aload_n 0, 1) := by decide +kernel
theorem dX12_lucky_27 : decode cX12_lucky 27 = .ok (.iconst 0, 1) := by decide +kernel
theorem dX12_lucky_28 : decode cX12_lucky 28 = .ok (.iload_n 1, 1) := by decide +kernel
theorem dX12_lucky_29 : decode cX12_lucky 29 = .ok (.iconst (-1), 1) := by decide +kernel
theorem dX12_lucky_30 : decode cX12_lucky 30 = .ok (.invokevirtual 376, 3) := by decide +kernel
theorem dX12_lucky_33 : decode cX12_lucky 33 = .ok (.ireturn, 1) := by decide +kernel
theorem dX12_walls_0 : decode cX12_walls 0 = .ok (.aload_n 0, 1) := by decide +kernel
theorem dX12_walls_1 : decode cX12_walls 1 = .ok (.iconst 0, 1) := by decide +kernel
theorem dX12_walls_2 : decode cX12_walls 2 = .ok (.putfield 73, 3) := by decide +kernel
theorem dX12_walls_5 : decode cX12_walls 5 = .ok (.iload_n 1, 1) := by decide +kernel
theorem dX12_walls_6 : decode cX12_walls 6 = .ok (.iconst (-1), 1) := by decide +kernel
theorem dX12_walls_7 : decode cX12_walls 7 = .ok (.if_icmp .lt 14, 3) := by decide +kernel
theorem dX12_walls_10 : decode cX12_walls 10 = .ok (.iload_n 1, 1) := by decide +kernel
theorem dX12_walls_11 : decode cX12_walls 11 = .ok (.aload_n 0, 1) := by decide +kernel
theorem dX12_walls_12 : decode cX12_walls 12 = .ok (.invokevirtual 298, 3) := by decide +kernel
theorem dX12_walls_15 : decode cX12_walls 15 = .ok (.invokestatic 250, 3) := by decide +kernel
theorem dX12_walls_18 : decode cX12_walls 18 = .ok (.if_icmp .le 8, 3) := by decide +kernel
theorem dX12_walls_21 : decode cX12_walls 21 = .ok (.bipush (-2), 2) := by decide +kernel
theorem dX12_walls_23 : decode cX12_walls 23 = .ok (.goto 10, 3) := by decide +kernel
theorem dX12_walls_26 : decode cX12_walls 26 = .ok (.aload_n 0, 1) := by decide +kernel
theorem dX12_walls_27 : decode cX12_walls 27 = .ok (.iconst 1, 1) := by decide +kernel
theorem dX12_walls_28 : decode cX12_walls 28 = .ok (.iload_n 1, 1) := by decide +kernel
theorem dX12_walls_29 : decode cX12_walls 29 = .ok (.iconst (-1), 1) := by decide +kernel
theorem dX12_walls_30 : decode cX12_walls 30 = .ok (.invokevirtual 376, 3) := by decide +kernel
theorem dX12_walls_33 : decode cX12_walls 33 = .ok (.ireturn, 1) := by decide +kernel
theorem dX12_wrongLine_0 : decode cX12_wrongLine 0 = .ok (.aload_n 0, 1) := by decide +kernel
theorem dX12_wrongLine_1 : decode cX12_wrongLine 1 = .ok (.iload_n 1, 1) := by decide +kernel
theorem dX12_wrongLine_2 : decode cX12_wrongLine 2 = .ok (.invokevirtual 304, 3) := by decide +kernel
theorem dX12_wrongLine_5 : decode cX12_wrongLine 5 = .ok (.ifCond .ne 7, 3) := by decide +kernel
theorem dX12_wrongLine_8 : decode cX12_wrongLine 8 = .ok (.iconst (-1), 1) := by decide +kernel
theorem dX12_wrongLine_9 : decode cX12_wrongLine 9 = .ok (.goto 17, 3) := by decide +kernel
theorem dX12_wrongLine_12 : decode cX12_wrongLine 12 = .ok (.aload_n 0, 1) := by decide +kernel
theorem dX12_wrongLine_13 : decode cX12_wrongLine 13 = .ok (.iload_n 1, 1) := by decide +kernel
theorem dX12_wrongLine_14 : decode cX12_wrongLine 14 = .ok (.invokevirtual 310, 3) := by decide +kernel
theorem dX12_wrongLine_17 : decode cX12_wrongLine 17 = .ok (.ifCond .eq 7, 3) := by decide +kernel
theorem dX12_wrongLine_20 : decode cX12_wrongLine 20 = .ok (.iconst 0, 1) := by decide +kernel
theorem dX12_wrongLine_21 : decode cX12_wrongLine 21 = .ok (.goto 5, 3) := by decide +kernel
theorem dX12_wrongLine_24 : decode cX12_wrongLine 24 = .ok (.bipush (-2), 2) := by decide +kernel
theorem dX12_wrongLine_26 : decode cX12_wrongLine 26 = .ok (.ireturn, 1) := by decide +kernel
theorem dX12_luckyWith_0 : decode cX12_luckyWith 0 = .ok (.aload_n 0, 1) := by decide +kernel
theorem dX12_luckyWith_1 : decode cX12_luckyWith 1 = .ok (.iconst 0, 1) := by decide +kernel
theorem dX12_luckyWith_2 : decode cX12_luckyWith 2 = .ok (.putfield 73, 3) := by decide +kernel
theorem dX12_luckyWith_5 : decode cX12_luckyWith 5 = .ok (.aload_n 0, 1) := by decide +kernel
theorem dX12_luckyWith_6 : decode cX12_luckyWith 6 = .ok (.iload_n 1, 1) := by decide +kernel
theorem dX12_luckyWith_7 : decode cX12_luckyWith 7 = .ok (.invokevirtual 379, 3) := by decide +kernel
theorem dX12_luckyWith_10 : decode cX12_luckyWith 10 = .ok (.ifCond .ge 11, 3) := by decide +kernel
theorem dX12_luckyWith_13 : decode cX12_luckyWith 13 = .ok (.aload_n 0, 1) := by decide +kernel
theorem dX12_luckyWith_14 : decode cX12_luckyWith 14 = .ok (.iload_n 1, 1) := by decide +kernel
theorem dX12_luckyWith_15 : decode cX12_luckyWith 15 = .ok (.invokevirtual 379, 3) := by decide +kernel
theorem dX12_luckyWith_18 : decode cX12_luckyWith 18 = .ok (.goto 10, 3) := by decide +kernel
theorem dX12_luckyWith_21 : decode cX12_luckyWith 21 = .ok (.aload_n 0, 1) := by decide +kernel
theorem dX12_luckyWith_22 : decode cX12_luckyWith 22 = .ok (.iconst 0, 1) := by decide +kernel
theorem dX12_luckyWith_23 : decode cX12_luckyWith 23 = .ok (.iconst (-1), 1) := by decide +kernel
theorem dX12_luckyWith_24 : decode cX12_luckyWith 24 = .ok (.iload_n 1, 1) := by decide +kernel
theorem dX12_luckyWith_25 : decode cX12_luckyWith 25 = .ok (.invokevirtual 376, 3) := by decide +kernel
theorem dX12_luckyWith_28 : decode cX12_luckyWith 28 = .ok (.ireturn, 1) := by decide +kernel
theorem dX12_trees_0 : decode cX12_trees 0 = .ok (.aload_n 0, 1) := by decide +kernel
theorem dX12_trees_1 : decode cX12_trees 1 = .ok (.iconst 0, 1) := by decide +kernel
theorem dX12_trees_2 : decode cX12_trees 2 = .ok (.putfield 73, 3) := by decide +kernel
theorem dX12_trees_5 : decode cX12_trees 5 = .ok (.aload_n 0, 1) := by decide +kernel
theorem dX12_trees_6 : decode cX12_trees 6 = .ok (.iconst 2, 1) := by decide +kernel
theorem dX12_trees_7 : decode cX12_trees 7 = .ok (.iconst (-1), 1) := by decide +kernel
theorem dX12_trees_8 : decode cX12_trees 8 = .ok (.iconst (-1), 1) := by decide +kernel
theorem dX12_trees_9 : decode cX12_trees 9 = .ok (.invokevirtual 376, 3) := by decide +kernel
theorem dX12_trees_12 : decode cX12_trees 12 = .ok (.ireturn, 1) := by decide +kernel
theorem dX12_treesWith_0 : decode cX12_treesWith 0 = .ok (.aload_n 0, 1) := by decide +kernel
theorem dX12_treesWith_1 : decode cX12_treesWith 1 = .ok (.iconst 0, 1) := by decide +kernel
theorem dX12_treesWith_2 : decode cX12_treesWith 2 = .ok (.putfield 73, 3) := by decide +kernel
theorem dX12_treesWith_5 : decode cX12_treesWith 5 = .ok (.aload_n 0, 1) := by decide +kernel
theorem dX12_treesWith_6 : decode cX12_treesWith 6 = .ok (.iload_n 1, 1) := by decide +kernel
theorem dX12_treesWith_7 : decode cX12_treesWith 7 = .ok (.invokevirtual 379, 3) := by decide +kernel
theorem dX12_treesWith_10 : decode cX12_treesWith 10 = .ok (.ifCond .ge 11, 3) := by decide +kernel
theorem dX12_treesWith_13 : decode cX12_treesWith 13 = .ok (.aload_n 0, 1) := by decide +kernel
theorem dX12_treesWith_14 : decode cX12_treesWith 14 = .ok (.iload_n 1, 1) := by decide +kernel
theorem dX12_treesWith_15 : decode cX12_treesWith 15 = .ok (.invokevirtual 379, 3) := by decide +kernel
theorem dX12_treesWith_18 : decode cX12_treesWith 18 = .ok (.goto 10, 3) := by decide +kernel
theorem dX12_treesWith_21 : decode cX12_treesWith 21 = .ok (.aload_n 0, 1) := by decide +kernel
theorem dX12_treesWith_22 : decode cX12_treesWith 22 = .ok (.iconst 2, 1) := by decide +kernel
theorem dX12_treesWith_23 : decode cX12_treesWith 23 = .ok (.iconst (-1), 1) := by decide +kernel
theorem dX12_treesWith_24 : decode cX12_treesWith 24 = .ok (.iload_n 1, 1) := by decide +kernel
theorem dX12_treesWith_25 : decode cX12_treesWith 25 = .ok (.invokevirtual 376, 3) := by decide +kernel
theorem dX12_treesWith_28 : decode cX12_treesWith 28 = .ok (.ireturn, 1) := by decide +kernel
theorem dX12_pivotsOf_0 : decode cX12_pivotsOf 0 = .ok (.aload_n 0, 1) := by decide +kernel
theorem dX12_pivotsOf_1 : decode cX12_pivotsOf 1 = .ok (.invokevirtual 298, 3) := by decide +kernel
theorem dX12_pivotsOf_4 : decode cX12_pivotsOf 4 = .ok (.iconst 1, 1) := by decide +kernel
theorem dX12_pivotsOf_5 : decode cX12_pivotsOf 5 = .ok (.iload_n 1, 1) := by decide +kernel
theorem dX12_pivotsOf_6 : decode cX12_pivotsOf 6 = .ok (.ishl, 1) := by decide +kernel
theorem dX12_pivotsOf_7 : decode cX12_pivotsOf 7 = .ok (.iconst (-1), 1) := by decide +kernel
theorem dX12_pivotsOf_8 : decode cX12_pivotsOf 8 = .ok (.ixor, 1) := by decide +kernel
theorem dX12_pivotsOf_9 : decode cX12_pivotsOf 9 = .ok (.iand, 1) := by decide +kernel
theorem dX12_pivotsOf_10 : decode cX12_pivotsOf 10 = .ok (.istore_n 2, 1) := by decide +kernel
theorem dX12_pivotsOf_11 : decode cX12_pivotsOf 11 = .ok (.iconst 0, 1) := by decide +kernel
theorem dX12_pivotsOf_12 : decode cX12_pivotsOf 12 = .ok (.istore_n 3, 1) := by decide +kernel
theorem dX12_pivotsOf_13 : decode cX12_pivotsOf 13 = .ok (.iload_n 2, 1) := by decide +kernel
theorem dX12_pivotsOf_14 : decode cX12_pivotsOf 14 = .ok (.istore 4, 2) := by decide +kernel
theorem dX12_pivotsOf_16 : decode cX12_pivotsOf 16 = .ok (.iload_n 3, 1) := by decide +kernel
theorem dX12_pivotsOf_17 : decode cX12_pivotsOf 17 = .ok (.aload_n 0, 1) := by decide +kernel
theorem dX12_pivotsOf_18 : decode cX12_pivotsOf 18 = .ok (.aload_n 0, 1) := by decide +kernel
theorem dX12_pivotsOf_19 : decode cX12_pivotsOf 19 = .ok (.getfield 201, 3) := by decide +kernel
theorem dX12_pivotsOf_22 : decode cX12_pivotsOf 22 = .ok (.iload 4, 2) := by decide +kernel
theorem dX12_pivotsOf_24 : decode cX12_pivotsOf 24 = .ok (.ior, 1) := by decide +kernel
theorem dX12_pivotsOf_25 : decode cX12_pivotsOf 25 = .ok (.invokevirtual 230, 3) := by decide +kernel
theorem dX12_pivotsOf_28 : decode cX12_pivotsOf 28 = .ok (.ifCond .ne 25, 3) := by decide +kernel
theorem dX12_pivotsOf_31 : decode cX12_pivotsOf 31 = .ok (.aload_n 0, 1) := by decide +kernel
theorem dX12_pivotsOf_32 : decode cX12_pivotsOf 32 = .ok (.aload_n 0, 1) := by decide +kernel
theorem dX12_pivotsOf_33 : decode cX12_pivotsOf 33 = .ok (.getfield 201, 3) := by decide +kernel
theorem dX12_pivotsOf_36 : decode cX12_pivotsOf 36 = .ok (.iload 4, 2) := by decide +kernel
theorem dX12_pivotsOf_38 : decode cX12_pivotsOf 38 = .ok (.ior, 1) := by decide +kernel
theorem dX12_pivotsOf_39 : decode cX12_pivotsOf 39 = .ok (.iconst 1, 1) := by decide +kernel
theorem dX12_pivotsOf_40 : decode cX12_pivotsOf 40 = .ok (.iload_n 1, 1) := by decide +kernel
theorem dX12_pivotsOf_41 : decode cX12_pivotsOf 41 = .ok (.ishl, 1) := by decide +kernel
theorem dX12_pivotsOf_42 : decode cX12_pivotsOf 42 = .ok (.ior, 1) := by decide +kernel
theorem dX12_pivotsOf_43 : decode cX12_pivotsOf 43 = .ok (.invokevirtual 230, 3) := by decide +kernel
theorem dX12_pivotsOf_46 : decode cX12_pivotsOf 46 = .ok (.ifCond .eq 7, 3) := by decide +kernel
theorem dX12_pivotsOf_49 : decode cX12_pivotsOf 49 = .ok (.iconst 1, 1) := by decide +kernel
theorem dX12_pivotsOf_50 : decode cX12_pivotsOf 50 = .ok (.goto 4, 3) := by decide +kernel
theorem dX12_pivotsOf_53 : decode cX12_pivotsOf 53 = .ok (.iconst 0, 1) := by decide +kernel
theorem dX12_pivotsOf_54 : decode cX12_pivotsOf 54 = .ok (.iadd, 1) := by decide +kernel
theorem dX12_pivotsOf_55 : decode cX12_pivotsOf 55 = .ok (.istore_n 3, 1) := by decide +kernel
theorem dX12_pivotsOf_56 : decode cX12_pivotsOf 56 = .ok (.iload 4, 2) := by decide +kernel
theorem dX12_pivotsOf_58 : decode cX12_pivotsOf 58 = .ok (.ifCond .ne 5, 3) := by decide +kernel
theorem dX12_pivotsOf_61 : decode cX12_pivotsOf 61 = .ok (.iload_n 3, 1) := by decide +kernel
theorem dX12_pivotsOf_62 : decode cX12_pivotsOf 62 = .ok (.ireturn, 1) := by decide +kernel
theorem dX12_pivotsOf_63 : decode cX12_pivotsOf 63 = .ok (.iload 4, 2) := by decide +kernel
theorem dX12_pivotsOf_65 : decode cX12_pivotsOf 65 = .ok (.iconst 1, 1) := by decide +kernel
theorem dX12_pivotsOf_66 : decode cX12_pivotsOf 66 = .ok (.isub, 1) := by decide +kernel
theorem dX12_pivotsOf_67 : decode cX12_pivotsOf 67 = .ok (.iload_n 2, 1) := by decide +kernel
theorem dX12_pivotsOf_68 : decode cX12_pivotsOf 68 = .ok (.iand, 1) := by decide +kernel
theorem dX12_pivotsOf_69 : decode cX12_pivotsOf 69 = .ok (.istore 4, 2) := by decide +kernel
theorem dX12_pivotsOf_71 : decode cX12_pivotsOf 71 = .ok (.goto (-55), 3) := by decide +kernel
theorem dX12_pivots_0 : decode cX12_pivots 0 = .ok (.aload_n 0, 1) := by decide +kernel
theorem dX12_pivots_1 : decode cX12_pivots 1 = .ok (.iconst 0, 1) := by decide +kernel
theorem dX12_pivots_2 : decode cX12_pivots 2 = .ok (.putfield 73, 3) := by decide +kernel
theorem dX12_pivots_5 : decode cX12_pivots 5 = .ok (.aload_n 0, 1) := by decide +kernel
theorem dX12_pivots_6 : decode cX12_pivots 6 = .ok (.iload_n 1, 1) := by decide +kernel
theorem dX12_pivots_7 : decode cX12_pivots 7 = .ok (.invokevirtual 379, 3) := by decide +kernel
theorem dX12_pivots_10 : decode cX12_pivots 10 = .ok (.ifCond .ge 11, 3) := by decide +kernel
theorem dX12_pivots_13 : decode cX12_pivots 13 = .ok (.aload_n 0, 1) := by decide +kernel
theorem dX12_pivots_14 : decode cX12_pivots 14 = .ok (.iload_n 1, 1) := by decide +kernel
theorem dX12_pivots_15 : decode cX12_pivots 15 = .ok (.invokevirtual 379, 3) := by decide +kernel
theorem dX12_pivots_18 : decode cX12_pivots 18 = .ok (.goto 8, 3) := by decide +kernel
theorem dX12_pivots_21 : decode cX12_pivots 21 = .ok (.aload_n 0, 1) := by decide +kernel
theorem dX12_pivots_22 : decode cX12_pivots 22 = .ok (.iload_n 1, 1) := by decide +kernel
theorem dX12_pivots_23 : decode cX12_pivots 23 = .ok (.invokevirtual 382, 3) := by decide +kernel
theorem dX12_pivots_26 : decode cX12_pivots 26 = .ok (.ireturn, 1) := by decide +kernel
theorem dX12_strong_0 : decode cX12_strong 0 = .ok (.aload_n 0, 1) := by decide +kernel
theorem dX12_strong_1 : decode cX12_strong 1 = .ok (.iconst 0, 1) := by decide +kernel
theorem dX12_strong_2 : decode cX12_strong 2 = .ok (.putfield 73, 3) := by decide +kernel
theorem dX12_strong_5 : decode cX12_strong 5 = .ok (.iload_n 1, 1) := by decide +kernel
theorem dX12_strong_6 : decode cX12_strong 6 = .ok (.ifCond .ge 5, 3) := by decide +kernel
theorem dX12_strong_9 : decode cX12_strong 9 = .ok (.iconst (-1), 1) := by decide +kernel
theorem dX12_strong_10 : decode cX12_strong 10 = .ok (.ireturn, 1) := by decide +kernel
theorem dX12_strong_11 : decode cX12_strong 11 = .ok (.bipush 14, 2) := by decide +kernel
theorem dX12_strong_13 : decode cX12_strong 13 = .ok (.newarray .int, 2) := by decide +kernel
theorem dX12_strong_15 : decode cX12_strong 15 = .ok (.astore_n 2, 1) := by decide +kernel
theorem dX12_strong_16 : decode cX12_strong 16 = .ok (.aload_n 0, 1) := by decide +kernel
theorem dX12_strong_17 : decode cX12_strong 17 = .ok (.invokevirtual 298, 3) := by decide +kernel
theorem dX12_strong_20 : decode cX12_strong 20 = .ok (.istore_n 3, 1) := by decide +kernel
theorem dX12_strong_21 : decode cX12_strong 21 = .ok (.iconst 0, 1) := by decide +kernel
theorem dX12_strong_22 : decode cX12_strong 22 = .ok (.istore 4, 2) := by decide +kernel
theorem dX12_strong_24 : decode cX12_strong 24 = .ok (.iload 4, 2) := by decide +kernel
theorem dX12_strong_26 : decode cX12_strong 26 = .ok (.aload_n 0, 1) := by decide +kernel
theorem dX12_strong_27 : decode cX12_strong 27 = .ok (.getfield 198, 3) := by decide +kernel
theorem dX12_strong_30 : decode cX12_strong 30 = .ok (.if_icmp .ge 33, 3) := by decide +kernel
theorem dX12_strong_33 : decode cX12_strong 33 = .ok (.aload_n 2, 1) := by decide +kernel
theorem dX12_strong_34 : decode cX12_strong 34 = .ok (.iload 4, 2) := by decide +kernel
theorem dX12_strong_36 : decode cX12_strong 36 = .ok (.iload_n 3, 1) := by decide +kernel
theorem dX12_strong_37 : decode cX12_strong 37 = .ok (.iload 4, 2) := by decide +kernel
theorem dX12_strong_39 : decode cX12_strong 39 = .ok (.ishr, 1) := by decide +kernel
theorem dX12_strong_40 : decode cX12_strong 40 = .ok (.iconst 1, 1) := by decide +kernel
theorem dX12_strong_41 : decode cX12_strong 41 = .ok (.iand, 1) := by decide +kernel
theorem dX12_strong_42 : decode cX12_strong 42 = .ok (.iconst 1, 1) := by decide +kernel
theorem dX12_strong_43 : decode cX12_strong 43 = .ok (.if_icmp .ne 12, 3) := by decide +kernel
theorem dX12_strong_46 : decode cX12_strong 46 = .ok (.aload_n 0, 1) := by decide +kernel
theorem dX12_strong_47 : decode cX12_strong 47 = .ok (.iload 4, 2) := by decide +kernel
theorem dX12_strong_49 : decode cX12_strong 49 = .ok (.invokevirtual 382, 3) := by decide +kernel
theorem dX12_strong_52 : decode cX12_strong 52 = .ok (.goto 4, 3) := by decide +kernel
theorem dX12_strong_55 : decode cX12_strong 55 = .ok (.iconst (-1), 1) := by decide +kernel
theorem dX12_strong_56 : decode cX12_strong 56 = .ok (.iastore, 1) := by decide +kernel
theorem dX12_strong_57 : decode cX12_strong 57 = .ok (.iinc 4 1, 3) := by decide +kernel
theorem dX12_strong_60 : decode cX12_strong 60 = .ok (.goto (-36), 3) := by decide +kernel
theorem dX12_strong_63 : decode cX12_strong 63 = .ok (.iconst 0, 1) := by decide +kernel
theorem dX12_strong_64 : decode cX12_strong 64 = .ok (.istore 4, 2) := by decide +kernel
theorem dX12_strong_66 : decode cX12_strong 66 = .ok (.iload 4, 2) := by decide +kernel
theorem dX12_strong_68 : decode cX12_strong 68 = .ok (.aload_n 0, 1) := by decide +kernel
theorem dX12_strong_69 : decode cX12_strong 69 = .ok (.getfield 198, 3) := by decide +kernel
theorem dX12_strong_72 : decode cX12_strong 72 = .ok (.if_icmp .ge 86, 3) := by decide +kernel
theorem dX12_strong_75 : decode cX12_strong 75 = .ok (.iconst 0, 1) := by decide +kernel
theorem dX12_strong_76 : decode cX12_strong 76 = .ok (.istore 5, 2) := by decide +kernel
theorem dX12_strong_78 : decode cX12_strong 78 = .ok (.iconst 0, 1) := by decide +kernel
theorem dX12_strong_79 : decode cX12_strong 79 = .ok (.istore 6, 2) := by decide +kernel
theorem dX12_strong_81 : decode cX12_strong 81 = .ok (.iload 6, 2) := by decide +kernel
theorem dX12_strong_83 : decode cX12_strong 83 = .ok (.aload_n 0, 1) := by decide +kernel
theorem dX12_strong_84 : decode cX12_strong 84 = .ok (.getfield 198, 3) := by decide +kernel
theorem dX12_strong_87 : decode cX12_strong 87 = .ok (.if_icmp .ge 48, 3) := by decide +kernel
theorem dX12_strong_90 : decode cX12_strong 90 = .ok (.iload 5, 2) := by decide +kernel
theorem dX12_strong_92 : decode cX12_strong 92 = .ok (.aload_n 2, 1) := by decide +kernel
theorem dX12_strong_93 : decode cX12_strong 93 = .ok (.iload 6, 2) := by decide +kernel
theorem dX12_strong_95 : decode cX12_strong 95 = .ok (.iaload, 1) := by decide +kernel
theorem dX12_strong_96 : decode cX12_strong 96 = .ok (.aload_n 2, 1) := by decide +kernel
theorem dX12_strong_97 : decode cX12_strong 97 = .ok (.iload 4, 2) := by decide +kernel
theorem dX12_strong_99 : decode cX12_strong 99 = .ok (.iaload, 1) := by decide +kernel
theorem dX12_strong_100 : decode cX12_strong 100 = .ok (.if_icmp .gt 21, 3) := by decide +kernel
theorem dX12_strong_103 : decode cX12_strong 103 = .ok (.aload_n 2, 1) := by decide +kernel
theorem dX12_strong_104 : decode cX12_strong 104 = .ok (.iload 6, 2) := by decide +kernel
theorem dX12_strong_106 : decode cX12_strong 106 = .ok (.iaload, 1) := by decide +kernel
theorem dX12_strong_107 : decode cX12_strong 107 = .ok (.aload_n 2, 1) := by decide +kernel
theorem dX12_strong_108 : decode cX12_strong 108 = .ok (.iload 4, 2) := by decide +kernel
theorem dX12_strong_110 : decode cX12_strong 110 = .ok (.iaload, 1) := by decide +kernel
theorem dX12_strong_111 : decode cX12_strong 111 = .ok (.if_icmp .ne 14, 3) := by decide +kernel
theorem dX12_strong_114 : decode cX12_strong 114 = .ok (.iload 6, 2) := by decide +kernel
theorem dX12_strong_116 : decode cX12_strong 116 = .ok (.iload 4, 2) := by decide +kernel
theorem dX12_strong_118 : decode cX12_strong 118 = .ok (.if_icmp .ge 7, 3) := by decide +kernel
theorem dX12_strong_121 : decode cX12_strong 121 = .ok (.iconst 1, 1) := by decide +kernel
theorem dX12_strong_122 : decode cX12_strong 122 = .ok (.goto 4, 3) := by decide +kernel
theorem dX12_strong_125 : decode cX12_strong 125 = .ok (.iconst 0, 1) := by decide +kernel
theorem dX12_strong_126 : decode cX12_strong 126 = .ok (.iadd, 1) := by decide +kernel
theorem dX12_strong_127 : decode cX12_strong 127 = .ok (.istore 5, 2) := by decide +kernel
theorem dX12_strong_129 : decode cX12_strong 129 = .ok (.iinc 6 1, 3) := by decide +kernel
theorem dX12_strong_132 : decode cX12_strong 132 = .ok (.goto (-51), 3) := by decide +kernel
theorem dX12_strong_135 : decode cX12_strong 135 = .ok (.aload_n 2, 1) := by decide +kernel
theorem dX12_strong_136 : decode cX12_strong 136 = .ok (.iload 4, 2) := by decide +kernel
theorem dX12_strong_138 : decode cX12_strong 138 = .ok (.iaload, 1) := by decide +kernel
theorem dX12_strong_139 : decode cX12_strong 139 = .ok (.iconst (-1), 1) := by decide +kernel
theorem dX12_strong_140 : decode cX12_strong 140 = .ok (.if_icmp .eq 12, 3) := by decide +kernel
theorem dX12_strong_143 : decode cX12_strong 143 = .ok (.iload 5, 2) := by decide +kernel
theorem dX12_strong_145 : decode cX12_strong 145 = .ok (.iload_n 1, 1) := by decide +kernel
theorem dX12_strong_146 : decode cX12_strong 146 = .ok (.if_icmp .ne 6, 3) := by decide +kernel
theorem dX12_strong_149 : decode cX12_strong 149 = .ok (.iload 4, 2) := by decide +kernel
theorem dX12_strong_151 : decode cX12_strong 151 = .ok (.ireturn, 1) := by decide +kernel
theorem dX12_strong_152 : decode cX12_strong 152 = .ok (.iinc 4 1, 3) := by decide +kernel
theorem dX12_strong_155 : decode cX12_strong 155 = .ok (.goto (-89), 3) := by decide +kernel
theorem dX12_strong_158 : decode cX12_strong 158 = .ok (.bipush (-2), 2) := by decide +kernel
theorem dX12_strong_160 : decode cX12_strong 160 = .ok (.ireturn, 1) := by decide +kernel
theorem dX12_needed_0 : decode cX12_needed 0 = .ok (.aload_n 0, 1) := by decide +kernel
theorem dX12_needed_1 : decode cX12_needed 1 = .ok (.iconst 0, 1) := by decide +kernel
theorem dX12_needed_2 : decode cX12_needed 2 = .ok (.putfield 73, 3) := by decide +kernel
theorem dX12_needed_5 : decode cX12_needed 5 = .ok (.aload_n 0, 1) := by decide +kernel
theorem dX12_needed_6 : decode cX12_needed 6 = .ok (.invokevirtual 298, 3) := by decide +kernel
theorem dX12_needed_9 : decode cX12_needed 9 = .ok (.istore_n 1, 1) := by decide +kernel
theorem dX12_needed_10 : decode cX12_needed 10 = .ok (.iload_n 1, 1) := by decide +kernel
theorem dX12_needed_11 : decode cX12_needed 11 = .ok (.istore_n 2, 1) := by decide +kernel
theorem dX12_needed_12 : decode cX12_needed 12 = .ok (.iconst 0, 1) := by decide +kernel
theorem dX12_needed_13 : decode cX12_needed 13 = .ok (.istore_n 3, 1) := by decide +kernel
theorem dX12_needed_14 : decode cX12_needed 14 = .ok (.iload_n 1, 1) := by decide +kernel
theorem dX12_needed_15 : decode cX12_needed 15 = .ok (.istore 4, 2) := by decide +kernel
theorem dX12_needed_17 : decode cX12_needed 17 = .ok (.aload_n 0, 1) := by decide +kernel
theorem dX12_needed_18 : decode cX12_needed 18 = .ok (.aload_n 0, 1) := by decide +kernel
theorem dX12_needed_19 : decode cX12_needed 19 = .ok (.getfield 201, 3) := by decide +kernel
theorem dX12_needed_22 : decode cX12_needed 22 = .ok (.iload 4, 2) := by decide +kernel
theorem dX12_needed_24 : decode cX12_needed 24 = .ok (.ior, 1) := by decide +kernel
theorem dX12_needed_25 : decode cX12_needed 25 = .ok (.invokevirtual 230, 3) := by decide +kernel
theorem dX12_needed_28 : decode cX12_needed 28 = .ok (.ifCond .eq 10, 3) := by decide +kernel
theorem dX12_needed_31 : decode cX12_needed 31 = .ok (.iload_n 2, 1) := by decide +kernel
theorem dX12_needed_32 : decode cX12_needed 32 = .ok (.iload 4, 2) := by decide +kernel
theorem dX12_needed_34 : decode cX12_needed 34 = .ok (.iand, 1) := by decide +kernel
theorem dX12_needed_35 : decode cX12_needed 35 = .ok (.istore_n 2, 1) := by decide +kernel
theorem dX12_needed_36 : decode cX12_needed 36 = .ok (.iconst 1, 1) := by decide +kernel
theorem dX12_needed_37 : decode cX12_needed 37 = .ok (.istore_n 3, 1) := by decide +kernel
theorem dX12_needed_38 : decode cX12_needed 38 = .ok (.iload 4, 2) := by decide +kernel
theorem dX12_needed_40 : decode cX12_needed 40 = .ok (.ifCond .ne 13, 3) := by decide +kernel
theorem dX12_needed_43 : decode cX12_needed 43 = .ok (.iload_n 3, 1) := by decide +kernel
theorem dX12_needed_44 : decode cX12_needed 44 = .ok (.ifCond .eq 7, 3) := by decide +kernel
theorem dX12_needed_47 : decode cX12_needed 47 = .ok (.iload_n 2, 1) := by decide +kernel
theorem dX12_needed_48 : decode cX12_needed 48 = .ok (.goto 4, 3) := by decide +kernel
theorem dX12_needed_51 : decode cX12_needed 51 = .ok (.iconst 0, 1) := by decide +kernel
theorem dX12_needed_52 : decode cX12_needed 52 = .ok (.ireturn, 1) := by decide +kernel
theorem dX12_needed_53 : decode cX12_needed 53 = .ok (.iload 4, 2) := by decide +kernel
theorem dX12_needed_55 : decode cX12_needed 55 = .ok (.iconst 1, 1) := by decide +kernel
theorem dX12_needed_56 : decode cX12_needed 56 = .ok (.isub, 1) := by decide +kernel
theorem dX12_needed_57 : decode cX12_needed 57 = .ok (.iload_n 1, 1) := by decide +kernel
theorem dX12_needed_58 : decode cX12_needed 58 = .ok (.iand, 1) := by decide +kernel
theorem dX12_needed_59 : decode cX12_needed 59 = .ok (.istore 4, 2) := by decide +kernel
theorem dX12_needed_61 : decode cX12_needed 61 = .ok (.goto (-44), 3) := by decide +kernel
theorem dX12_alike_0 : decode cX12_alike 0 = .ok (.aload_n 0, 1) := by decide +kernel
theorem dX12_alike_1 : decode cX12_alike 1 = .ok (.iconst 0, 1) := by decide +kernel
theorem dX12_alike_2 : decode cX12_alike 2 = .ok (.putfield 73, 3) := by decide +kernel
theorem dX12_alike_5 : decode cX12_alike 5 = .ok (.aload_n 0, 1) := by decide +kernel
theorem dX12_alike_6 : decode cX12_alike 6 = .ok (.iload_n 1, 1) := by decide +kernel
theorem dX12_alike_7 : decode cX12_alike 7 = .ok (.invokevirtual 304, 3) := by decide +kernel
theorem dX12_alike_10 : decode cX12_alike 10 = .ok (.ifCond .eq 11, 3) := by decide +kernel
theorem dX12_alike_13 : decode cX12_alike 13 = .ok (.aload_n 0, 1) := by decide +kernel
theorem dX12_alike_14 : decode cX12_alike 14 = .ok (.iload_n 2, 1) := by decide +kernel
theorem dX12_alike_15 : decode cX12_alike 15 = .ok (.invokevirtual 304, 3) := by decide +kernel
theorem dX12_alike_18 : decode cX12_alike 18 = .ok (.ifCond .ne 5, 3) := by decide +kernel
theorem dX12_alike_21 : decode cX12_alike 21 = .ok (.iconst (-1), 1) := by decide +kernel
theorem dX12_alike_22 : decode cX12_alike 22 = .ok (.ireturn, 1) := by decide +kernel
theorem dX12_alike_23 : decode cX12_alike 23 = .ok (.aload_n 0, 1) := by decide +kernel
theorem dX12_alike_24 : decode cX12_alike 24 = .ok (.iload_n 1, 1) := by decide +kernel
theorem dX12_alike_25 : decode cX12_alike 25 = .ok (.invokevirtual 310, 3) := by decide +kernel
theorem dX12_alike_28 : decode cX12_alike 28 = .ok (.ifCond .eq 11, 3) := by decide +kernel
theorem dX12_alike_31 : decode cX12_alike 31 = .ok (.aload_n 0, 1) := by decide +kernel
theorem dX12_alike_32 : decode cX12_alike 32 = .ok (.iload_n 2, 1) := by decide +kernel
theorem dX12_alike_33 : decode cX12_alike 33 = .ok (.invokevirtual 310, 3) := by decide +kernel
theorem dX12_alike_36 : decode cX12_alike 36 = .ok (.ifCond .ne 6, 3) := by decide +kernel
theorem dX12_alike_39 : decode cX12_alike 39 = .ok (.bipush (-2), 2) := by decide +kernel
theorem dX12_alike_41 : decode cX12_alike 41 = .ok (.ireturn, 1) := by decide +kernel
theorem dX12_alike_42 : decode cX12_alike 42 = .ok (.aload_n 0, 1) := by decide +kernel
theorem dX12_alike_43 : decode cX12_alike 43 = .ok (.invokevirtual 298, 3) := by decide +kernel
theorem dX12_alike_46 : decode cX12_alike 46 = .ok (.iconst 1, 1) := by decide +kernel
theorem dX12_alike_47 : decode cX12_alike 47 = .ok (.iload_n 1, 1) := by decide +kernel
theorem dX12_alike_48 : decode cX12_alike 48 = .ok (.ishl, 1) := by decide +kernel
theorem dX12_alike_49 : decode cX12_alike 49 = .ok (.iconst (-1), 1) := by decide +kernel
theorem dX12_alike_50 : decode cX12_alike 50 = .ok (.ixor, 1) := by decide +kernel
theorem dX12_alike_51 : decode cX12_alike 51 = .ok (.iand, 1) := by decide +kernel
theorem dX12_alike_52 : decode cX12_alike 52 = .ok (.iconst 1, 1) := by decide +kernel
theorem dX12_alike_53 : decode cX12_alike 53 = .ok (.iload_n 2, 1) := by decide +kernel
theorem dX12_alike_54 : decode cX12_alike 54 = .ok (.ishl, 1) := by decide +kernel
theorem dX12_alike_55 : decode cX12_alike 55 = .ok (.iconst (-1), 1) := by decide +kernel
theorem dX12_alike_56 : decode cX12_alike 56 = .ok (.ixor, 1) := by decide +kernel
theorem dX12_alike_57 : decode cX12_alike 57 = .ok (.iand, 1) := by decide +kernel
theorem dX12_alike_58 : decode cX12_alike 58 = .ok (.istore_n 3, 1) := by decide +kernel
theorem dX12_alike_59 : decode cX12_alike 59 = .ok (.iload_n 3, 1) := by decide +kernel
theorem dX12_alike_60 : decode cX12_alike 60 = .ok (.istore 4, 2) := by decide +kernel
theorem dX12_alike_62 : decode cX12_alike 62 = .ok (.aload_n 0, 1) := by decide +kernel
theorem dX12_alike_63 : decode cX12_alike 63 = .ok (.aload_n 0, 1) := by decide +kernel
theorem dX12_alike_64 : decode cX12_alike 64 = .ok (.getfield 201, 3) := by decide +kernel
theorem dX12_alike_67 : decode cX12_alike 67 = .ok (.iload 4, 2) := by decide +kernel
theorem dX12_alike_69 : decode cX12_alike 69 = .ok (.ior, 1) := by decide +kernel
theorem dX12_alike_70 : decode cX12_alike 70 = .ok (.iconst 1, 1) := by decide +kernel
theorem dX12_alike_71 : decode cX12_alike 71 = .ok (.iload_n 1, 1) := by decide +kernel
theorem dX12_alike_72 : decode cX12_alike 72 = .ok (.ishl, 1) := by decide +kernel
theorem dX12_alike_73 : decode cX12_alike 73 = .ok (.ior, 1) := by decide +kernel
theorem dX12_alike_74 : decode cX12_alike 74 = .ok (.invokevirtual 230, 3) := by decide +kernel
theorem dX12_alike_77 : decode cX12_alike 77 = .ok (.aload_n 0, 1) := by decide +kernel
theorem dX12_alike_78 : decode cX12_alike 78 = .ok (.aload_n 0, 1) := by decide +kernel
theorem dX12_alike_79 : decode cX12_alike 79 = .ok (.getfield 201, 3) := by decide +kernel
theorem dX12_alike_82 : decode cX12_alike 82 = .ok (.iload 4, 2) := by decide +kernel
theorem dX12_alike_84 : decode cX12_alike 84 = .ok (.ior, 1) := by decide +kernel
theorem dX12_alike_85 : decode cX12_alike 85 = .ok (.iconst 1, 1) := by decide +kernel
theorem dX12_alike_86 : decode cX12_alike 86 = .ok (.iload_n 2, 1) := by decide +kernel
theorem dX12_alike_87 : decode cX12_alike 87 = .ok (.ishl, 1) := by decide +kernel
theorem dX12_alike_88 : decode cX12_alike 88 = .ok (.ior, 1) := by decide +kernel
theorem dX12_alike_89 : decode cX12_alike 89 = .ok (.invokevirtual 230, 3) := by decide +kernel
theorem dX12_alike_92 : decode cX12_alike 92 = .ok (.if_icmp .eq 5, 3) := by decide +kernel
theorem dX12_alike_95 : decode cX12_alike 95 = .ok (.iconst 0, 1) := by decide +kernel
theorem dX12_alike_96 : decode cX12_alike 96 = .ok (.ireturn, 1) := by decide +kernel
theorem dX12_alike_97 : decode cX12_alike 97 = .ok (.iload 4, 2) := by decide +kernel
theorem dX12_alike_99 : decode cX12_alike 99 = .ok (.ifCond .ne 5, 3) := by decide +kernel
theorem dX12_alike_102 : decode cX12_alike 102 = .ok (.iconst 1, 1) := by decide +kernel
theorem dX12_alike_103 : decode cX12_alike 103 = .ok (.ireturn, 1) := by decide +kernel
theorem dX12_alike_104 : decode cX12_alike 104 = .ok (.iload 4, 2) := by decide +kernel
theorem dX12_alike_106 : decode cX12_alike 106 = .ok (.iconst 1, 1) := by decide +kernel
theorem dX12_alike_107 : decode cX12_alike 107 = .ok (.isub, 1) := by decide +kernel
theorem dX12_alike_108 : decode cX12_alike 108 = .ok (.iload_n 3, 1) := by decide +kernel
theorem dX12_alike_109 : decode cX12_alike 109 = .ok (.iand, 1) := by decide +kernel
theorem dX12_alike_110 : decode cX12_alike 110 = .ok (.istore 4, 2) := by decide +kernel
theorem dX12_alike_112 : decode cX12_alike 112 = .ok (.goto (-50), 3) := by decide +kernel
theorem dX12_forests_0 : decode cX12_forests 0 = .ok (.aload_n 0, 1) := by decide +kernel
theorem dX12_forests_1 : decode cX12_forests 1 = .ok (.iconst 0, 1) := by decide +kernel
theorem dX12_forests_2 : decode cX12_forests 2 = .ok (.putfield 73, 3) := by decide +kernel
theorem dX12_forests_5 : decode cX12_forests 5 = .ok (.iload_n 1, 1) := by decide +kernel
theorem dX12_forests_6 : decode cX12_forests 6 = .ok (.ifCond .lt 8, 3) := by decide +kernel
theorem dX12_forests_9 : decode cX12_forests 9 = .ok (.iload_n 1, 1) := by decide +kernel
theorem dX12_forests_10 : decode cX12_forests 10 = .ok (.iconst 2, 1) := by decide +kernel
theorem dX12_forests_11 : decode cX12_forests 11 = .ok (.if_icmp .le 5, 3) := by decide +kernel
theorem dX12_forests_14 : decode cX12_forests 14 = .ok (.iconst (-1), 1) := by decide +kernel
theorem dX12_forests_15 : decode cX12_forests 15 = .ok (.ireturn, 1) := by decide +kernel
theorem dX12_forests_16 : decode cX12_forests 16 = .ok (.aload_n 0, 1) := by decide +kernel
theorem dX12_forests_17 : decode cX12_forests 17 = .ok (.aload_n 0, 1) := by decide +kernel
theorem dX12_forests_18 : decode cX12_forests 18 = .ok (.getfield 201, 3) := by decide +kernel
theorem dX12_forests_21 : decode cX12_forests 21 = .ok (.invokevirtual 256, 3) := by decide +kernel
theorem dX12_forests_24 : decode cX12_forests 24 = .ok (.aload_n 0, 1) := by decide +kernel
theorem dX12_forests_25 : decode cX12_forests 25 = .ok (.invokevirtual 298, 3) := by decide +kernel
theorem dX12_forests_28 : decode cX12_forests 28 = .ok (.istore_n 2, 1) := by decide +kernel
theorem dX12_forests_29 : decode cX12_forests 29 = .ok (.aload_n 0, 1) := by decide +kernel
theorem dX12_forests_30 : decode cX12_forests 30 = .ok (.iload_n 2, 1) := by decide +kernel
theorem dX12_forests_31 : decode cX12_forests 31 = .ok (.invokevirtual 253, 3) := by decide +kernel
theorem dX12_forests_34 : decode cX12_forests 34 = .ok (.istore_n 3, 1) := by decide +kernel
theorem dX12_forests_35 : decode cX12_forests 35 = .ok (.iload_n 1, 1) := by decide +kernel
theorem dX12_forests_36 : decode cX12_forests 36 = .ok (.ifCond .ne 5, 3) := by decide +kernel
theorem dX12_forests_39 : decode cX12_forests 39 = .ok (.iload_n 3, 1) := by decide +kernel
theorem dX12_forests_40 : decode cX12_forests 40 = .ok (.ireturn, 1) := by decide +kernel
theorem dX12_forests_41 : decode cX12_forests 41 = .ok (.iconst 0, 1) := by decide +kernel
theorem dX12_forests_42 : decode cX12_forests 42 = .ok (.istore 4, 2) := by decide +kernel
theorem dX12_forests_44 : decode cX12_forests 44 = .ok (.aload_n 0, 1) := by decide +kernel
theorem dX12_forests_45 : decode cX12_forests 45 = .ok (.iload 4, 2) := by decide +kernel
theorem dX12_forests_47 : decode cX12_forests 47 = .ok (.invokevirtual 233, 3) := by decide +kernel
theorem dX12_forests_50 : decode cX12_forests 50 = .ok (.ifCond .eq 23, 3) := by decide +kernel
theorem dX12_forests_53 : decode cX12_forests 53 = .ok (.iload 4, 2) := by decide +kernel
theorem dX12_forests_55 : decode cX12_forests 55 = .ok (.invokestatic 250, 3) := by decide +kernel
theorem dX12_forests_58 : decode cX12_forests 58 = .ok (.aload_n 0, 1) := by decide +kernel
theorem dX12_forests_59 : decode cX12_forests 59 = .ok (.iload_n 2, 1) := by decide +kernel
theorem dX12_forests_60 : decode cX12_forests 60 = .ok (.iload 4, 2) := by decide +kernel
theorem dX12_forests_62 : decode cX12_forests 62 = .ok (.iconst (-1), 1) := by decide +kernel
theorem dX12_forests_63 : decode cX12_forests 63 = .ok (.ixor, 1) := by decide +kernel
theorem dX12_forests_64 : decode cX12_forests 64 = .ok (.iand, 1) := by decide +kernel
theorem dX12_forests_65 : decode cX12_forests 65 = .ok (.invokevirtual 275, 3) := by decide +kernel
theorem dX12_forests_68 : decode cX12_forests 68 = .ok (.iadd, 1) := by decide +kernel
theorem dX12_forests_69 : decode cX12_forests 69 = .ok (.iload_n 3, 1) := by decide +kernel
theorem dX12_forests_70 : decode cX12_forests 70 = .ok (.if_icmp .eq 14, 3) := by decide +kernel
theorem dX12_forests_73 : decode cX12_forests 73 = .ok (.iload 4, 2) := by decide +kernel
theorem dX12_forests_75 : decode cX12_forests 75 = .ok (.iload_n 2, 1) := by decide +kernel
theorem dX12_forests_76 : decode cX12_forests 76 = .ok (.isub, 1) := by decide +kernel
theorem dX12_forests_77 : decode cX12_forests 77 = .ok (.iload_n 2, 1) := by decide +kernel
theorem dX12_forests_78 : decode cX12_forests 78 = .ok (.iand, 1) := by decide +kernel
theorem dX12_forests_79 : decode cX12_forests 79 = .ok (.istore 4, 2) := by decide +kernel
theorem dX12_forests_81 : decode cX12_forests 81 = .ok (.goto (-37), 3) := by decide +kernel
theorem dX12_forests_84 : decode cX12_forests 84 = .ok (.iload_n 1, 1) := by decide +kernel
theorem dX12_forests_85 : decode cX12_forests 85 = .ok (.iconst 1, 1) := by decide +kernel
theorem dX12_forests_86 : decode cX12_forests 86 = .ok (.if_icmp .ne 6, 3) := by decide +kernel
theorem dX12_forests_89 : decode cX12_forests 89 = .ok (.iload 4, 2) := by decide +kernel
theorem dX12_forests_91 : decode cX12_forests 91 = .ok (.ireturn, 1) := by decide +kernel
theorem dX12_forests_92 : decode cX12_forests 92 = .ok (.iload_n 2, 1) := by decide +kernel
theorem dX12_forests_93 : decode cX12_forests 93 = .ok (.iload 4, 2) := by decide +kernel
theorem dX12_forests_95 : decode cX12_forests 95 = .ok (.iconst (-1), 1) := by decide +kernel
theorem dX12_forests_96 : decode cX12_forests 96 = .ok (.ixor, 1) := by decide +kernel
theorem dX12_forests_97 : decode cX12_forests 97 = .ok (.iand, 1) := by decide +kernel
theorem dX12_forests_98 : decode cX12_forests 98 = .ok (.istore 5, 2) := by decide +kernel
theorem dX12_forests_100 : decode cX12_forests 100 = .ok (.iconst 0, 1) := by decide +kernel
theorem dX12_forests_101 : decode cX12_forests 101 = .ok (.istore 6, 2) := by decide +kernel
theorem dX12_forests_103 : decode cX12_forests 103 = .ok (.aload_n 0, 1) := by decide +kernel
theorem dX12_forests_104 : decode cX12_forests 104 = .ok (.iload 6, 2) := by decide +kernel
theorem dX12_forests_106 : decode cX12_forests 106 = .ok (.invokevirtual 233, 3) := by decide +kernel
theorem dX12_forests_109 : decode cX12_forests 109 = .ok (.ifCond .eq 18, 3) := by decide +kernel
theorem dX12_forests_112 : decode cX12_forests 112 = .ok (.iload 4, 2) := by decide +kernel
theorem dX12_forests_114 : decode cX12_forests 114 = .ok (.invokestatic 250, 3) := by decide +kernel
theorem dX12_forests_117 : decode cX12_forests 117 = .ok (.iload 6, 2) := by decide +kernel
theorem dX12_forests_119 : decode cX12_forests 119 = .ok (.invokestatic 250, 3) := by decide +kernel
theorem dX12_forests_122 : decode cX12_forests 122 = .ok (.iadd, 1) := by decide +kernel
theorem dX12_forests_123 : decode cX12_forests 123 = .ok (.iload_n 3, 1) := by decide +kernel
theorem dX12_forests_124 : decode cX12_forests 124 = .ok (.if_icmp .eq 16, 3) := by decide +kernel
theorem dX12_forests_127 : decode cX12_forests 127 = .ok (.iload 6, 2) := by decide +kernel
theorem dX12_forests_129 : decode cX12_forests 129 = .ok (.iload 5, 2) := by decide +kernel
theorem dX12_forests_131 : decode cX12_forests 131 = .ok (.isub, 1) := by decide +kernel
theorem dX12_forests_132 : decode cX12_forests 132 = .ok (.iload 5, 2) := by decide +kernel
theorem dX12_forests_134 : decode cX12_forests 134 = .ok (.iand, 1) := by decide +kernel
theorem dX12_forests_135 : decode cX12_forests 135 = .ok (.istore 6, 2) := by decide +kernel
theorem dX12_forests_137 : decode cX12_forests 137 = .ok (.goto (-34), 3) := by decide +kernel
theorem dX12_forests_140 : decode cX12_forests 140 = .ok (.iload 6, 2) := by decide +kernel
theorem dX12_forests_142 : decode cX12_forests 142 = .ok (.ireturn, 1) := by decide +kernel
theorem dX12_idle_0 : decode cX12_idle 0 = .ok (.aload_n 0, 1) := by decide +kernel
theorem dX12_idle_1 : decode cX12_idle 1 = .ok (.iconst 0, 1) := by decide +kernel
theorem dX12_idle_2 : decode cX12_idle 2 = .ok (.putfield 73, 3) := by decide +kernel
theorem dX12_idle_5 : decode cX12_idle 5 = .ok (.aload_n 0, 1) := by decide +kernel
theorem dX12_idle_6 : decode cX12_idle 6 = .ok (.iload_n 1, 1) := by decide +kernel
theorem dX12_idle_7 : decode cX12_idle 7 = .ok (.invokevirtual 379, 3) := by decide +kernel
theorem dX12_idle_10 : decode cX12_idle 10 = .ok (.ifCond .ge 9, 3) := by decide +kernel
theorem dX12_idle_13 : decode cX12_idle 13 = .ok (.aload_n 0, 1) := by decide +kernel
theorem dX12_idle_14 : decode cX12_idle 14 = .ok (.iload_n 1, 1) := by decide +kernel
theorem dX12_idle_15 : decode cX12_idle 15 = .ok (.invokevirtual 379, 3) := by decide +kernel
theorem dX12_idle_18 : decode cX12_idle 18 = .ok (.ireturn, 1) := by decide +kernel
theorem dX12_idle_19 : decode cX12_idle 19 = .ok (.aload_n 0, 1) := by decide +kernel
theorem dX12_idle_20 : decode cX12_idle 20 = .ok (.aload_n 0, 1) := by decide +kernel
theorem dX12_idle_21 : decode cX12_idle 21 = .ok (.getfield 201, 3) := by decide +kernel
theorem dX12_idle_24 : decode cX12_idle 24 = .ok (.aload_n 0, 1) := by decide +kernel
theorem dX12_idle_25 : decode cX12_idle 25 = .ok (.getfield 204, 3) := by decide +kernel
theorem dX12_idle_28 : decode cX12_idle 28 = .ok (.invokevirtual 326, 3) := by decide +kernel
theorem dX12_idle_31 : decode cX12_idle 31 = .ok (.istore_n 2, 1) := by decide +kernel
theorem dX12_idle_32 : decode cX12_idle 32 = .ok (.aload_n 0, 1) := by decide +kernel
theorem dX12_idle_33 : decode cX12_idle 33 = .ok (.aload_n 0, 1) := by decide +kernel
theorem dX12_idle_34 : decode cX12_idle 34 = .ok (.getfield 201, 3) := by decide +kernel
theorem dX12_idle_37 : decode cX12_idle 37 = .ok (.iconst 1, 1) := by decide +kernel
theorem dX12_idle_38 : decode cX12_idle 38 = .ok (.iload_n 1, 1) := by decide +kernel
theorem dX12_idle_39 : decode cX12_idle 39 = .ok (.ishl, 1) := by decide +kernel
theorem dX12_idle_40 : decode cX12_idle 40 = .ok (.ior, 1) := by decide +kernel
theorem dX12_idle_41 : decode cX12_idle 41 = .ok (.aload_n 0, 1) := by decide +kernel
theorem dX12_idle_42 : decode cX12_idle 42 = .ok (.getfield 204, 3) := by decide +kernel
theorem dX12_idle_45 : decode cX12_idle 45 = .ok (.invokevirtual 326, 3) := by decide +kernel
theorem dX12_idle_48 : decode cX12_idle 48 = .ok (.iload_n 2, 1) := by decide +kernel
theorem dX12_idle_49 : decode cX12_idle 49 = .ok (.if_icmp .ne 27, 3) := by decide +kernel
theorem dX12_idle_52 : decode cX12_idle 52 = .ok (.aload_n 0, 1) := by decide +kernel
theorem dX12_idle_53 : decode cX12_idle 53 = .ok (.aload_n 0, 1) := by decide +kernel
theorem dX12_idle_54 : decode cX12_idle 54 = .ok (.getfield 201, 3) := by decide +kernel
theorem dX12_idle_57 : decode cX12_idle 57 = .ok (.aload_n 0, 1) := by decide +kernel
theorem dX12_idle_58 : decode cX12_idle 58 = .ok (.getfield 204, 3) := by decide +kernel
theorem dX12_idle_61 : decode cX12_idle 61 = .ok (.iconst 1, 1) := by decide +kernel
theorem dX12_idle_62 : decode cX12_idle 62 = .ok (.iload_n 1, 1) := by decide +kernel
theorem dX12_idle_63 : decode cX12_idle 63 = .ok (.ishl, 1) := by decide +kernel
theorem dX12_idle_64 : decode cX12_idle 64 = .ok (.ior, 1) := by decide +kernel
theorem dX12_idle_65 : decode cX12_idle 65 = .ok (.invokevirtual 326, 3) := by decide +kernel
theorem dX12_idle_68 : decode cX12_idle 68 = .ok (.iload_n 2, 1) := by decide +kernel
theorem dX12_idle_69 : decode cX12_idle 69 = .ok (.if_icmp .ne 7, 3) := by decide +kernel
theorem dX12_idle_72 : decode cX12_idle 72 = .ok (.iconst 1, 1) := by decide +kernel
theorem dX12_idle_73 : decode cX12_idle 73 = .ok (.goto 4, 3) := by decide +kernel
theorem dX12_idle_76 : decode cX12_idle 76 = .ok (.iconst 0, 1) := by decide +kernel
theorem dX12_idle_77 : decode cX12_idle 77 = .ok (.ireturn, 1) := by decide +kernel
theorem dX12_ifLine_0 : decode cX12_ifLine 0 = .ok (.aload_n 0, 1) := by decide +kernel
theorem dX12_ifLine_1 : decode cX12_ifLine 1 = .ok (.iconst 0, 1) := by decide +kernel
theorem dX12_ifLine_2 : decode cX12_ifLine 2 = .ok (.putfield 73, 3) := by decide +kernel
theorem dX12_ifLine_5 : decode cX12_ifLine 5 = .ok (.aload_n 0, 1) := by decide +kernel
theorem dX12_ifLine_6 : decode cX12_ifLine 6 = .ok (.iload_n 1, 1) := by decide +kernel
theorem dX12_ifLine_7 : decode cX12_ifLine 7 = .ok (.invokevirtual 304, 3) := by decide +kernel
theorem dX12_ifLine_10 : decode cX12_ifLine 10 = .ok (.ifCond .eq 12, 3) := by decide +kernel
theorem dX12_ifLine_13 : decode cX12_ifLine 13 = .ok (.iload_n 2, 1) := by decide +kernel
theorem dX12_ifLine_14 : decode cX12_ifLine 14 = .ok (.ifCond .lt 8, 3) := by decide +kernel
theorem dX12_ifLine_17 : decode cX12_ifLine 17 = .ok (.iload_n 2, 1) := by decide +kernel
theorem dX12_ifLine_18 : decode cX12_ifLine 18 = .ok (.iconst 1, 1) := by decide +kernel
theorem dX12_ifLine_19 : decode cX12_ifLine 19 = .ok (.if_icmp .le 5, 3) := by decide +kernel
theorem dX12_ifLine_22 : decode cX12_ifLine 22 = .ok (.iconst (-1), 1) := by decide +kernel
theorem dX12_ifLine_23 : decode cX12_ifLine 23 = .ok (.ireturn, 1) := by decide +kernel
theorem dX12_ifLine_24 : decode cX12_ifLine 24 = .ok (.aload_n 0, 1) := by decide +kernel
theorem dX12_ifLine_25 : decode cX12_ifLine 25 = .ok (.iload_n 1, 1) := by decide +kernel
theorem dX12_ifLine_26 : decode cX12_ifLine 26 = .ok (.invokevirtual 310, 3) := by decide +kernel
theorem dX12_ifLine_29 : decode cX12_ifLine 29 = .ok (.ifCond .ne 6, 3) := by decide +kernel
theorem dX12_ifLine_32 : decode cX12_ifLine 32 = .ok (.bipush (-2), 2) := by decide +kernel
theorem dX12_ifLine_34 : decode cX12_ifLine 34 = .ok (.ireturn, 1) := by decide +kernel
theorem dX12_ifLine_35 : decode cX12_ifLine 35 = .ok (.iload_n 2, 1) := by decide +kernel
theorem dX12_ifLine_36 : decode cX12_ifLine 36 = .ok (.ifCond .ne 22, 3) := by decide +kernel
theorem dX12_ifLine_39 : decode cX12_ifLine 39 = .ok (.aload_n 0, 1) := by decide +kernel
theorem dX12_ifLine_40 : decode cX12_ifLine 40 = .ok (.aload_n 0, 1) := by decide +kernel
theorem dX12_ifLine_41 : decode cX12_ifLine 41 = .ok (.getfield 201, 3) := by decide +kernel
theorem dX12_ifLine_44 : decode cX12_ifLine 44 = .ok (.iconst 1, 1) := by decide +kernel
theorem dX12_ifLine_45 : decode cX12_ifLine 45 = .ok (.iload_n 1, 1) := by decide +kernel
theorem dX12_ifLine_46 : decode cX12_ifLine 46 = .ok (.ishl, 1) := by decide +kernel
theorem dX12_ifLine_47 : decode cX12_ifLine 47 = .ok (.ior, 1) := by decide +kernel
theorem dX12_ifLine_48 : decode cX12_ifLine 48 = .ok (.aload_n 0, 1) := by decide +kernel
theorem dX12_ifLine_49 : decode cX12_ifLine 49 = .ok (.getfield 204, 3) := by decide +kernel
theorem dX12_ifLine_52 : decode cX12_ifLine 52 = .ok (.invokevirtual 326, 3) := by decide +kernel
theorem dX12_ifLine_55 : decode cX12_ifLine 55 = .ok (.goto 19, 3) := by decide +kernel
theorem dX12_ifLine_58 : decode cX12_ifLine 58 = .ok (.aload_n 0, 1) := by decide +kernel
theorem dX12_ifLine_59 : decode cX12_ifLine 59 = .ok (.aload_n 0, 1) := by decide +kernel
theorem dX12_ifLine_60 : decode cX12_ifLine 60 = .ok (.getfield 201, 3) := by decide +kernel
theorem dX12_ifLine_63 : decode cX12_ifLine 63 = .ok (.aload_n 0, 1) := by decide +kernel
theorem dX12_ifLine_64 : decode cX12_ifLine 64 = .ok (.getfield 204, 3) := by decide +kernel
theorem dX12_ifLine_67 : decode cX12_ifLine 67 = .ok (.iconst 1, 1) := by decide +kernel
theorem dX12_ifLine_68 : decode cX12_ifLine 68 = .ok (.iload_n 1, 1) := by decide +kernel
theorem dX12_ifLine_69 : decode cX12_ifLine 69 = .ok (.ishl, 1) := by decide +kernel
theorem dX12_ifLine_70 : decode cX12_ifLine 70 = .ok (.ior, 1) := by decide +kernel
theorem dX12_ifLine_71 : decode cX12_ifLine 71 = .ok (.invokevirtual 326, 3) := by decide +kernel
theorem dX12_ifLine_74 : decode cX12_ifLine 74 = .ok (.ireturn, 1) := by decide +kernel
theorem dX12_more_0 : decode cX12_more 0 = .ok (.aload_n 0, 1) := by decide +kernel
theorem dX12_more_1 : decode cX12_more 1 = .ok (.getfield 13, 3) := by decide +kernel
theorem dX12_more_4 : decode cX12_more 4 = .ok (.aload_n 0, 1) := by decide +kernel
theorem dX12_more_5 : decode cX12_more 5 = .ok (.getfield 198, 3) := by decide +kernel
theorem dX12_more_8 : decode cX12_more 8 = .ok (.iload_n 1, 1) := by decide +kernel
theorem dX12_more_9 : decode cX12_more 9 = .ok (.iastore, 1) := by decide +kernel
theorem dX12_more_10 : decode cX12_more 10 = .ok (.aload_n 0, 1) := by decide +kernel
theorem dX12_more_11 : decode cX12_more 11 = .ok (.getfield 16, 3) := by decide +kernel
theorem dX12_more_14 : decode cX12_more 14 = .ok (.aload_n 0, 1) := by decide +kernel
theorem dX12_more_15 : decode cX12_more 15 = .ok (.getfield 198, 3) := by decide +kernel
theorem dX12_more_18 : decode cX12_more 18 = .ok (.iload_n 2, 1) := by decide +kernel
theorem dX12_more_19 : decode cX12_more 19 = .ok (.iastore, 1) := by decide +kernel
theorem dX12_more_20 : decode cX12_more 20 = .ok (.aload_n 0, 1) := by decide +kernel
theorem dX12_more_21 : decode cX12_more 21 = .ok (.dup, 1) := by decide +kernel
theorem dX12_more_22 : decode cX12_more 22 = .ok (.getfield 198, 3) := by decide +kernel
theorem dX12_more_25 : decode cX12_more 25 = .ok (.iconst 1, 1) := by decide +kernel
theorem dX12_more_26 : decode cX12_more 26 = .ok (.iadd, 1) := by decide +kernel
theorem dX12_more_27 : decode cX12_more 27 = .ok (.putfield 198, 3) := by decide +kernel
theorem dX12_more_30 : decode cX12_more 30 = .ok (.return_, 1) := by decide +kernel
theorem dX12_ifMore_0 : decode cX12_ifMore 0 = .ok (.aload_n 0, 1) := by decide +kernel
theorem dX12_ifMore_1 : decode cX12_ifMore 1 = .ok (.iconst 0, 1) := by decide +kernel
theorem dX12_ifMore_2 : decode cX12_ifMore 2 = .ok (.putfield 73, 3) := by decide +kernel
theorem dX12_ifMore_5 : decode cX12_ifMore 5 = .ok (.aload_n 0, 1) := by decide +kernel
theorem dX12_ifMore_6 : decode cX12_ifMore 6 = .ok (.iload_n 1, 1) := by decide +kernel
theorem dX12_ifMore_7 : decode cX12_ifMore 7 = .ok (.invokevirtual 307, 3) := by decide +kernel
theorem dX12_ifMore_10 : decode cX12_ifMore 10 = .ok (.ifCond .eq 16, 3) := by decide +kernel
theorem dX12_ifMore_13 : decode cX12_ifMore 13 = .ok (.aload_n 0, 1) := by decide +kernel
theorem dX12_ifMore_14 : decode cX12_ifMore 14 = .ok (.iload_n 2, 1) := by decide +kernel
theorem dX12_ifMore_15 : decode cX12_ifMore 15 = .ok (.invokevirtual 307, 3) := by decide +kernel
theorem dX12_ifMore_18 : decode cX12_ifMore 18 = .ok (.ifCond .eq 8, 3) := by decide +kernel
theorem dX12_ifMore_21 : decode cX12_ifMore 21 = .ok (.iload_n 1, 1) := by decide +kernel
theorem dX12_ifMore_22 : decode cX12_ifMore 22 = .ok (.iload_n 2, 1) := by decide +kernel
theorem dX12_ifMore_23 : decode cX12_ifMore 23 = .ok (.if_icmp .ne 5, 3) := by decide +kernel
theorem dX12_ifMore_26 : decode cX12_ifMore 26 = .ok (.iconst (-1), 1) := by decide +kernel
theorem dX12_ifMore_27 : decode cX12_ifMore 27 = .ok (.ireturn, 1) := by decide +kernel
theorem dX12_ifMore_28 : decode cX12_ifMore 28 = .ok (.aload_n 0, 1) := by decide +kernel
theorem dX12_ifMore_29 : decode cX12_ifMore 29 = .ok (.iload_n 1, 1) := by decide +kernel
theorem dX12_ifMore_30 : decode cX12_ifMore 30 = .ok (.iload_n 2, 1) := by decide +kernel
theorem dX12_ifMore_31 : decode cX12_ifMore 31 = .ok (.invokevirtual 385, 3) := by decide +kernel
theorem dX12_ifMore_34 : decode cX12_ifMore 34 = .ok (.aload_n 0, 1) := by decide +kernel
theorem dX12_ifMore_35 : decode cX12_ifMore 35 = .ok (.aload_n 0, 1) := by decide +kernel
theorem dX12_ifMore_36 : decode cX12_ifMore 36 = .ok (.getfield 201, 3) := by decide +kernel
theorem dX12_ifMore_39 : decode cX12_ifMore 39 = .ok (.aload_n 0, 1) := by decide +kernel
theorem dX12_ifMore_40 : decode cX12_ifMore 40 = .ok (.getfield 204, 3) := by decide +kernel
theorem dX12_ifMore_43 : decode cX12_ifMore 43 = .ok (.invokevirtual 326, 3) := by decide +kernel
theorem dX12_ifMore_46 : decode cX12_ifMore 46 = .ok (.istore_n 3, 1) := by decide +kernel
theorem dX12_ifMore_47 : decode cX12_ifMore 47 = .ok (.aload_n 0, 1) := by decide +kernel
theorem dX12_ifMore_48 : decode cX12_ifMore 48 = .ok (.dup, 1) := by decide +kernel
theorem dX12_ifMore_49 : decode cX12_ifMore 49 = .ok (.getfield 198, 3) := by decide +kernel
theorem dX12_ifMore_52 : decode cX12_ifMore 52 = .ok (.iconst 1, 1) := by decide +kernel
theorem dX12_ifMore_53 : decode cX12_ifMore 53 = .ok (.isub, 1) := by decide +kernel
theorem dX12_ifMore_54 : decode cX12_ifMore 54 = .ok (.putfield 198, 3) := by decide +kernel
theorem dX12_ifMore_57 : decode cX12_ifMore 57 = .ok (.iload_n 3, 1) := by decide +kernel
theorem dX12_ifMore_58 : decode cX12_ifMore 58 = .ok (.ireturn, 1) := by decide +kernel
theorem dX12_ifEnds_0 : decode cX12_ifEnds 0 = .ok (.aload_n 0, 1) := by decide +kernel
theorem dX12_ifEnds_1 : decode cX12_ifEnds 1 = .ok (.iconst 0, 1) := by decide +kernel
theorem dX12_ifEnds_2 : decode cX12_ifEnds 2 = .ok (.putfield 73, 3) := by decide +kernel
theorem dX12_ifEnds_5 : decode cX12_ifEnds 5 = .ok (.aload_n 0, 1) := by decide +kernel
theorem dX12_ifEnds_6 : decode cX12_ifEnds 6 = .ok (.iload_n 1, 1) := by decide +kernel
theorem dX12_ifEnds_7 : decode cX12_ifEnds 7 = .ok (.invokevirtual 307, 3) := by decide +kernel
theorem dX12_ifEnds_10 : decode cX12_ifEnds 10 = .ok (.ifCond .eq 16, 3) := by decide +kernel
theorem dX12_ifEnds_13 : decode cX12_ifEnds 13 = .ok (.aload_n 0, 1) := by decide +kernel
theorem dX12_ifEnds_14 : decode cX12_ifEnds 14 = .ok (.iload_n 2, 1) := by decide +kernel
theorem dX12_ifEnds_15 : decode cX12_ifEnds 15 = .ok (.invokevirtual 307, 3) := by decide +kernel
theorem dX12_ifEnds_18 : decode cX12_ifEnds 18 = .ok (.ifCond .eq 8, 3) := by decide +kernel
theorem dX12_ifEnds_21 : decode cX12_ifEnds 21 = .ok (.iload_n 1, 1) := by decide +kernel
theorem dX12_ifEnds_22 : decode cX12_ifEnds 22 = .ok (.iload_n 2, 1) := by decide +kernel
theorem dX12_ifEnds_23 : decode cX12_ifEnds 23 = .ok (.if_icmp .ne 5, 3) := by decide +kernel
theorem dX12_ifEnds_26 : decode cX12_ifEnds 26 = .ok (.iconst (-1), 1) := by decide +kernel
theorem dX12_ifEnds_27 : decode cX12_ifEnds 27 = .ok (.ireturn, 1) := by decide +kernel
theorem dX12_ifEnds_28 : decode cX12_ifEnds 28 = .ok (.aload_n 0, 1) := by decide +kernel
theorem dX12_ifEnds_29 : decode cX12_ifEnds 29 = .ok (.getfield 207, 3) := by decide +kernel
theorem dX12_ifEnds_32 : decode cX12_ifEnds 32 = .ok (.istore_n 3, 1) := by decide +kernel
theorem dX12_ifEnds_33 : decode cX12_ifEnds 33 = .ok (.aload_n 0, 1) := by decide +kernel
theorem dX12_ifEnds_34 : decode cX12_ifEnds 34 = .ok (.getfield 67, 3) := by decide +kernel
theorem dX12_ifEnds_37 : decode cX12_ifEnds 37 = .ok (.istore 4, 2) := by decide +kernel
theorem dX12_ifEnds_39 : decode cX12_ifEnds 39 = .ok (.aload_n 0, 1) := by decide +kernel
theorem dX12_ifEnds_40 : decode cX12_ifEnds 40 = .ok (.iload_n 1, 1) := by decide +kernel
theorem dX12_ifEnds_41 : decode cX12_ifEnds 41 = .ok (.putfield 207, 3) := by decide +kernel
theorem dX12_ifEnds_44 : decode cX12_ifEnds 44 = .ok (.aload_n 0, 1) := by decide +kernel
theorem dX12_ifEnds_45 : decode cX12_ifEnds 45 = .ok (.iload_n 2, 1) := by decide +kernel
theorem dX12_ifEnds_46 : decode cX12_ifEnds 46 = .ok (.putfield 67, 3) := by decide +kernel
theorem dX12_ifEnds_49 : decode cX12_ifEnds 49 = .ok (.aload_n 0, 1) := by decide +kernel
theorem dX12_ifEnds_50 : decode cX12_ifEnds 50 = .ok (.aload_n 0, 1) := by decide +kernel
theorem dX12_ifEnds_51 : decode cX12_ifEnds 51 = .ok (.getfield 201, 3) := by decide +kernel
theorem dX12_ifEnds_54 : decode cX12_ifEnds 54 = .ok (.aload_n 0, 1) := by decide +kernel
theorem dX12_ifEnds_55 : decode cX12_ifEnds 55 = .ok (.getfield 204, 3) := by decide +kernel
theorem dX12_ifEnds_58 : decode cX12_ifEnds 58 = .ok (.invokevirtual 326, 3) := by decide +kernel
theorem dX12_ifEnds_61 : decode cX12_ifEnds 61 = .ok (.istore 5, 2) := by decide +kernel
theorem dX12_ifEnds_63 : decode cX12_ifEnds 63 = .ok (.aload_n 0, 1) := by decide +kernel
theorem dX12_ifEnds_64 : decode cX12_ifEnds 64 = .ok (.iload_n 3, 1) := by decide +kernel
theorem dX12_ifEnds_65 : decode cX12_ifEnds 65 = .ok (.putfield 207, 3) := by decide +kernel
theorem dX12_ifEnds_68 : decode cX12_ifEnds 68 = .ok (.aload_n 0, 1) := by decide +kernel
theorem dX12_ifEnds_69 : decode cX12_ifEnds 69 = .ok (.iload 4, 2) := by decide +kernel
theorem dX12_ifEnds_71 : decode cX12_ifEnds 71 = .ok (.putfield 67, 3) := by decide +kernel
theorem dX12_ifEnds_74 : decode cX12_ifEnds 74 = .ok (.iload 5, 2) := by decide +kernel
theorem dX12_ifEnds_76 : decode cX12_ifEnds 76 = .ok (.ireturn, 1) := by decide +kernel
theorem dX12_lacks_0 : decode cX12_lacks 0 = .ok (.aload_n 0, 1) := by decide +kernel
theorem dX12_lacks_1 : decode cX12_lacks 1 = .ok (.iconst 0, 1) := by decide +kernel
theorem dX12_lacks_2 : decode cX12_lacks 2 = .ok (.putfield 73, 3) := by decide +kernel
theorem dX12_lacks_5 : decode cX12_lacks 5 = .ok (.aload_n 0, 1) := by decide +kernel
theorem dX12_lacks_6 : decode cX12_lacks 6 = .ok (.getfield 198, 3) := by decide +kernel
theorem dX12_lacks_9 : decode cX12_lacks 9 = .ok (.istore_n 1, 1) := by decide +kernel
theorem dX12_lacks_10 : decode cX12_lacks 10 = .ok (.aload_n 0, 1) := by decide +kernel
theorem dX12_lacks_11 : decode cX12_lacks 11 = .ok (.aload_n 0, 1) := by decide +kernel
theorem dX12_lacks_12 : decode cX12_lacks 12 = .ok (.getfield 201, 3) := by decide +kernel
theorem dX12_lacks_15 : decode cX12_lacks 15 = .ok (.aload_n 0, 1) := by decide +kernel
theorem dX12_lacks_16 : decode cX12_lacks 16 = .ok (.getfield 204, 3) := by decide +kernel
theorem dX12_lacks_19 : decode cX12_lacks 19 = .ok (.invokevirtual 269, 3) := by decide +kernel
theorem dX12_lacks_22 : decode cX12_lacks 22 = .ok (.ifCond .ne 18, 3) := by decide +kernel
theorem dX12_lacks_25 : decode cX12_lacks 25 = .ok (.aload_n 0, 1) := by decide +kernel
theorem dX12_lacks_26 : decode cX12_lacks 26 = .ok (.aload_n 0, 1) := by decide +kernel
theorem dX12_lacks_27 : decode cX12_lacks 27 = .ok (.getfield 207, 3) := by decide +kernel
theorem dX12_lacks_30 : decode cX12_lacks 30 = .ok (.aload_n 0, 1) := by decide +kernel
theorem dX12_lacks_31 : decode cX12_lacks 31 = .ok (.getfield 67, 3) := by decide +kernel
theorem dX12_lacks_34 : decode cX12_lacks 34 = .ok (.invokevirtual 385, 3) := by decide +kernel
theorem dX12_lacks_37 : decode cX12_lacks 37 = .ok (.goto (-27), 3) := by decide +kernel
theorem dX12_lacks_40 : decode cX12_lacks 40 = .ok (.aload_n 0, 1) := by decide +kernel
theorem dX12_lacks_41 : decode cX12_lacks 41 = .ok (.getfield 198, 3) := by decide +kernel
theorem dX12_lacks_44 : decode cX12_lacks 44 = .ok (.iload_n 1, 1) := by decide +kernel
theorem dX12_lacks_45 : decode cX12_lacks 45 = .ok (.isub, 1) := by decide +kernel
theorem dX12_lacks_46 : decode cX12_lacks 46 = .ok (.istore_n 2, 1) := by decide +kernel
theorem dX12_lacks_47 : decode cX12_lacks 47 = .ok (.aload_n 0, 1) := by decide +kernel
theorem dX12_lacks_48 : decode cX12_lacks 48 = .ok (.iload_n 1, 1) := by decide +kernel
theorem dX12_lacks_49 : decode cX12_lacks 49 = .ok (.putfield 198, 3) := by decide +kernel
theorem dX12_lacks_52 : decode cX12_lacks 52 = .ok (.iload_n 2, 1) := by decide +kernel
theorem dX12_lacks_53 : decode cX12_lacks 53 = .ok (.ireturn, 1) := by decide +kernel
theorem dX12_drawn_0 : decode cX12_drawn 0 = .ok (.aload_n 0, 1) := by decide +kernel
theorem dX12_drawn_1 : decode cX12_drawn 1 = .ok (.aload_n 0, 1) := by decide +kernel
theorem dX12_drawn_2 : decode cX12_drawn 2 = .ok (.getfield 388, 3) := by decide +kernel
theorem dX12_drawn_5 : decode cX12_drawn 5 = .ok (.ldc2_w 392, 3) := by decide +kernel
theorem dX12_drawn_8 : decode cX12_drawn 8 = .ok (.lmul, 1) := by decide +kernel
theorem dX12_drawn_9 : decode cX12_drawn 9 = .ok (.ldc2_w 394, 3) := by decide +kernel
theorem dX12_drawn_12 : decode cX12_drawn 12 = .ok (.ladd, 1) := by decide +kernel
theorem dX12_drawn_13 : decode cX12_drawn 13 = .ok (.ldc2_w 396, 3) := by decide +kernel
theorem dX12_drawn_16 : decode cX12_drawn 16 = .ok (.lrem, 1) := by decide +kernel
theorem dX12_drawn_17 : decode cX12_drawn 17 = .ok (.putfield 388, 3) := by decide +kernel
theorem dX12_drawn_20 : decode cX12_drawn 20 = .ok (.aload_n 0, 1) := by decide +kernel
theorem dX12_drawn_21 : decode cX12_drawn 21 = .ok (.getfield 388, 3) := by decide +kernel
theorem dX12_drawn_24 : decode cX12_drawn 24 = .ok (.ldc2_w 398, 3) := by decide +kernel
theorem dX12_drawn_27 : decode cX12_drawn 27 = .ok (.ldiv, 1) := by decide +kernel
theorem dX12_drawn_28 : decode cX12_drawn 28 = .ok (.iload_n 1, 1) := by decide +kernel
theorem dX12_drawn_29 : decode cX12_drawn 29 = .ok (.invokestatic 250, 3) := by decide +kernel
theorem dX12_drawn_32 : decode cX12_drawn 32 = .ok (.i2l, 1) := by decide +kernel
theorem dX12_drawn_33 : decode cX12_drawn 33 = .ok (.lrem, 1) := by decide +kernel
theorem dX12_drawn_34 : decode cX12_drawn 34 = .ok (.l2i, 1) := by decide +kernel
theorem dX12_drawn_35 : decode cX12_drawn 35 = .ok (.istore_n 2, 1) := by decide +kernel
theorem dX12_drawn_36 : decode cX12_drawn 36 = .ok (.iconst 0, 1) := by decide +kernel
theorem dX12_drawn_37 : decode cX12_drawn 37 = .ok (.istore_n 3, 1) := by decide +kernel
theorem dX12_drawn_38 : decode cX12_drawn 38 = .ok (.iload_n 3, 1) := by decide +kernel
theorem dX12_drawn_39 : decode cX12_drawn 39 = .ok (.aload_n 0, 1) := by decide +kernel
theorem dX12_drawn_40 : decode cX12_drawn 40 = .ok (.getfield 198, 3) := by decide +kernel
theorem dX12_drawn_43 : decode cX12_drawn 43 = .ok (.if_icmp .ge 29, 3) := by decide +kernel
theorem dX12_drawn_46 : decode cX12_drawn 46 = .ok (.iload_n 1, 1) := by decide +kernel
theorem dX12_drawn_47 : decode cX12_drawn 47 = .ok (.iload_n 3, 1) := by decide +kernel
theorem dX12_drawn_48 : decode cX12_drawn 48 = .ok (.ishr, 1) := by decide +kernel
theorem dX12_drawn_49 : decode cX12_drawn 49 = .ok (.iconst 1, 1) := by decide +kernel
theorem dX12_drawn_50 : decode cX12_drawn 50 = .ok (.iand, 1) := by decide +kernel
theorem dX12_drawn_51 : decode cX12_drawn 51 = .ok (.ifCond .ne 6, 3) := by decide +kernel
theorem dX12_drawn_54 : decode cX12_drawn 54 = .ok (.goto 12, 3) := by decide +kernel
theorem dX12_drawn_57 : decode cX12_drawn 57 = .ok (.iload_n 2, 1) := by decide +kernel
theorem dX12_drawn_58 : decode cX12_drawn 58 = .ok (.ifCond .ne 5, 3) := by decide +kernel
theorem dX12_drawn_61 : decode cX12_drawn 61 = .ok (.iload_n 3, 1) := by decide +kernel
theorem dX12_drawn_62 : decode cX12_drawn 62 = .ok (.ireturn, 1) := by decide +kernel
theorem dX12_drawn_63 : decode cX12_drawn 63 = .ok (.iinc 2 (-1), 3) := by decide +kernel
theorem dX12_drawn_66 : decode cX12_drawn 66 = .ok (.iinc 3 1, 3) := by decide +kernel
theorem dX12_drawn_69 : decode cX12_drawn 69 = .ok (.goto (-31), 3) := by decide +kernel
theorem dX12_drawn_72 : decode cX12_drawn 72 = .ok (.iconst (-1), 1) := by decide +kernel
theorem dX12_drawn_73 : decode cX12_drawn 73 = .ok (.ireturn, 1) := by decide +kernel
theorem dX12_chance_0 : decode cX12_chance 0 = .ok (.aload_n 0, 1) := by decide +kernel
theorem dX12_chance_1 : decode cX12_chance 1 = .ok (.iconst 0, 1) := by decide +kernel
theorem dX12_chance_2 : decode cX12_chance 2 = .ok (.putfield 73, 3) := by decide +kernel
theorem dX12_chance_5 : decode cX12_chance 5 = .ok (.iload_n 1, 1) := by decide +kernel
theorem dX12_chance_6 : decode cX12_chance 6 = .ok (.ifCond .lt 14, 3) := by decide +kernel
theorem dX12_chance_9 : decode cX12_chance 9 = .ok (.iload_n 2, 1) := by decide +kernel
theorem dX12_chance_10 : decode cX12_chance 10 = .ok (.iconst 1, 1) := by decide +kernel
theorem dX12_chance_11 : decode cX12_chance 11 = .ok (.if_icmp .lt 9, 3) := by decide +kernel
theorem dX12_chance_14 : decode cX12_chance 14 = .ok (.iload_n 2, 1) := by decide +kernel
theorem dX12_chance_15 : decode cX12_chance 15 = .ok (.bipush 50, 2) := by decide +kernel
theorem dX12_chance_17 : decode cX12_chance 17 = .ok (.if_icmp .le 5, 3) := by decide +kernel
theorem dX12_chance_20 : decode cX12_chance 20 = .ok (.iconst (-1), 1) := by decide +kernel
theorem dX12_chance_21 : decode cX12_chance 21 = .ok (.ireturn, 1) := by decide +kernel
theorem dX12_chance_22 : decode cX12_chance 22 = .ok (.aload_n 0, 1) := by decide +kernel
theorem dX12_chance_23 : decode cX12_chance 23 = .ok (.iload_n 1, 1) := by decide +kernel
theorem dX12_chance_24 : decode cX12_chance 24 = .ok (.i2l, 1) := by decide +kernel
theorem dX12_chance_25 : decode cX12_chance 25 = .ok (.putfield 388, 3) := by decide +kernel
theorem dX12_chance_28 : decode cX12_chance 28 = .ok (.iconst 0, 1) := by decide +kernel
theorem dX12_chance_29 : decode cX12_chance 29 = .ok (.istore_n 3, 1) := by decide +kernel
theorem dX12_chance_30 : decode cX12_chance 30 = .ok (.iconst 0, 1) := by decide +kernel
theorem dX12_chance_31 : decode cX12_chance 31 = .ok (.istore 4, 2) := by decide +kernel
theorem dX12_chance_33 : decode cX12_chance 33 = .ok (.iload 4, 2) := by decide +kernel
theorem dX12_chance_35 : decode cX12_chance 35 = .ok (.iload_n 2, 1) := by decide +kernel
theorem dX12_chance_36 : decode cX12_chance 36 = .ok (.if_icmp .ge 107, 3) := by decide +kernel
theorem dX12_chance_39 : decode cX12_chance 39 = .ok (.aload_n 0, 1) := by decide +kernel
theorem dX12_chance_40 : decode cX12_chance 40 = .ok (.getfield 201, 3) := by decide +kernel
theorem dX12_chance_43 : decode cX12_chance 43 = .ok (.istore 5, 2) := by decide +kernel
theorem dX12_chance_45 : decode cX12_chance 45 = .ok (.aload_n 0, 1) := by decide +kernel
theorem dX12_chance_46 : decode cX12_chance 46 = .ok (.getfield 204, 3) := by decide +kernel
theorem dX12_chance_49 : decode cX12_chance 49 = .ok (.istore 6, 2) := by decide +kernel
theorem dX12_chance_51 : decode cX12_chance 51 = .ok (.aload_n 0, 1) := by decide +kernel
theorem dX12_chance_52 : decode cX12_chance 52 = .ok (.getfield 70, 3) := by decide +kernel
theorem dX12_chance_55 : decode cX12_chance 55 = .ok (.istore 7, 2) := by decide +kernel
theorem dX12_chance_57 : decode cX12_chance 57 = .ok (.aload_n 0, 1) := by decide +kernel
theorem dX12_chance_58 : decode cX12_chance 58 = .ok (.iload 5, 2) := by decide +kernel
theorem dX12_chance_60 : decode cX12_chance 60 = .ok (.iload 6, 2) := by decide +kernel
theorem dX12_chance_62 : decode cX12_chance 62 = .ok (.invokevirtual 301, 3) := by decide +kernel
theorem dX12_chance_65 : decode cX12_chance 65 = .ok (.iconst 2, 1) := by decide +kernel
theorem dX12_chance_66 : decode cX12_chance 66 = .ok (.if_icmp .ne 52, 3) := by decide +kernel
theorem dX12_chance_69 : decode cX12_chance 69 = .ok (.aload_n 0, 1) := by decide +kernel
theorem dX12_chance_70 : decode cX12_chance 70 = .ok (.aload_n 0, 1) := by decide +kernel
theorem dX12_chance_71 : decode cX12_chance 71 = .ok (.iload 5, 2) := by decide +kernel
theorem dX12_chance_73 : decode cX12_chance 73 = .ok (.iload 6, 2) := by decide +kernel
theorem dX12_chance_75 : decode cX12_chance 75 = .ok (.invokevirtual 226, 3) := by decide +kernel
theorem dX12_chance_78 : decode cX12_chance 78 = .ok (.invokevirtual 400, 3) := by decide +kernel
theorem dX12_chance_81 : decode cX12_chance 81 = .ok (.istore 8, 2) := by decide +kernel
theorem dX12_chance_83 : decode cX12_chance 83 = .ok (.iload 7, 2) := by decide +kernel
theorem dX12_chance_85 : decode cX12_chance 85 = .ok (.ifCond .ne 15, 3) := by decide +kernel
theorem dX12_chance_88 : decode cX12_chance 88 = .ok (.iload 5, 2) := by decide +kernel
theorem dX12_chance_90 : decode cX12_chance 90 = .ok (.iconst 1, 1) := by decide +kernel
theorem dX12_chance_91 : decode cX12_chance 91 = .ok (.iload 8, 2) := by decide +kernel
theorem dX12_chance_93 : decode cX12_chance 93 = .ok (.ishl, 1) := by decide +kernel
theorem dX12_chance_94 : decode cX12_chance 94 = .ok (.ior, 1) := by decide +kernel
theorem dX12_chance_95 : decode cX12_chance 95 = .ok (.istore 5, 2) := by decide +kernel
theorem dX12_chance_97 : decode cX12_chance 97 = .ok (.goto 12, 3) := by decide +kernel
theorem dX12_chance_100 : decode cX12_chance 100 = .ok (.iload 6, 2) := by decide +kernel
theorem dX12_chance_102 : decode cX12_chance 102 = .ok (.iconst 1, 1) := by decide +kernel
theorem dX12_chance_103 : decode cX12_chance 103 = .ok (.iload 8, 2) := by decide +kernel
theorem dX12_chance_105 : decode cX12_chance 105 = .ok (.ishl, 1) := by decide +kernel
theorem dX12_chance_106 : decode cX12_chance 106 = .ok (.ior, 1) := by decide +kernel
theorem dX12_chance_107 : decode cX12_chance 107 = .ok (.istore 6, 2) := by decide +kernel
theorem dX12_chance_109 : decode cX12_chance 109 = .ok (.iconst 1, 1) := by decide +kernel
theorem dX12_chance_110 : decode cX12_chance 110 = .ok (.iload 7, 2) := by decide +kernel
theorem dX12_chance_112 : decode cX12_chance 112 = .ok (.isub, 1) := by decide +kernel
theorem dX12_chance_113 : decode cX12_chance 113 = .ok (.istore 7, 2) := by decide +kernel
theorem dX12_chance_115 : decode cX12_chance 115 = .ok (.goto (-58), 3) := by decide +kernel
theorem dX12_chance_118 : decode cX12_chance 118 = .ok (.iload_n 3, 1) := by decide +kernel
theorem dX12_chance_119 : decode cX12_chance 119 = .ok (.aload_n 0, 1) := by decide +kernel
theorem dX12_chance_120 : decode cX12_chance 120 = .ok (.iload 5, 2) := by decide +kernel
theorem dX12_chance_122 : decode cX12_chance 122 = .ok (.iload 6, 2) := by decide +kernel
theorem dX12_chance_124 : decode cX12_chance 124 = .ok (.invokevirtual 301, 3) := by decide +kernel
theorem dX12_chance_127 : decode cX12_chance 127 = .ok (.ifCond .ne 7, 3) := by decide +kernel
theorem dX12_chance_130 : decode cX12_chance 130 = .ok (.iconst 1, 1) := by decide +kernel
theorem dX12_chance_131 : decode cX12_chance 131 = .ok (.goto 4, 3) := by decide +kernel
theorem dX12_chance_134 : decode cX12_chance 134 = .ok (.iconst 0, 1) := by decide +kernel
theorem dX12_chance_135 : decode cX12_chance 135 = .ok (.iadd, 1) := by decide +kernel
theorem dX12_chance_136 : decode cX12_chance 136 = .ok (.istore_n 3, 1) := by decide +kernel
theorem dX12_chance_137 : decode cX12_chance 137 = .ok (.iinc 4 1, 3) := by decide +kernel
theorem dX12_chance_140 : decode cX12_chance 140 = .ok (.goto (-107), 3) := by decide +kernel
theorem dX12_chance_143 : decode cX12_chance 143 = .ok (.iload_n 3, 1) := by decide +kernel
theorem dX12_chance_144 : decode cX12_chance 144 = .ok (.ireturn, 1) := by decide +kernel
theorem dX12_duel_0 : decode cX12_duel 0 = .ok (.aload_n 0, 1) := by decide +kernel
theorem dX12_duel_1 : decode cX12_duel 1 = .ok (.iconst 0, 1) := by decide +kernel
theorem dX12_duel_2 : decode cX12_duel 2 = .ok (.putfield 73, 3) := by decide +kernel
theorem dX12_duel_5 : decode cX12_duel 5 = .ok (.iload_n 1, 1) := by decide +kernel
theorem dX12_duel_6 : decode cX12_duel 6 = .ok (.ifCond .ge 5, 3) := by decide +kernel
theorem dX12_duel_9 : decode cX12_duel 9 = .ok (.iconst (-1), 1) := by decide +kernel
theorem dX12_duel_10 : decode cX12_duel 10 = .ok (.ireturn, 1) := by decide +kernel
theorem dX12_duel_11 : decode cX12_duel 11 = .ok (.aload_n 0, 1) := by decide +kernel
theorem dX12_duel_12 : decode cX12_duel 12 = .ok (.aload_n 0, 1) := by decide +kernel
theorem dX12_duel_13 : decode cX12_duel 13 = .ok (.getfield 201, 3) := by decide +kernel
theorem dX12_duel_16 : decode cX12_duel 16 = .ok (.aload_n 0, 1) := by decide +kernel
theorem dX12_duel_17 : decode cX12_duel 17 = .ok (.getfield 204, 3) := by decide +kernel
theorem dX12_duel_20 : decode cX12_duel 20 = .ok (.invokevirtual 323, 3) := by decide +kernel
theorem dX12_duel_23 : decode cX12_duel 23 = .ok (.ifCond .ne 6, 3) := by decide +kernel
theorem dX12_duel_26 : decode cX12_duel 26 = .ok (.bipush (-2), 2) := by decide +kernel
theorem dX12_duel_28 : decode cX12_duel 28 = .ok (.ireturn, 1) := by decide +kernel
theorem dX12_duel_29 : decode cX12_duel 29 = .ok (.aload_n 0, 1) := by decide +kernel
theorem dX12_duel_30 : decode cX12_duel 30 = .ok (.iload_n 1, 1) := by decide +kernel
theorem dX12_duel_31 : decode cX12_duel 31 = .ok (.i2l, 1) := by decide +kernel
theorem dX12_duel_32 : decode cX12_duel 32 = .ok (.putfield 388, 3) := by decide +kernel
theorem dX12_duel_35 : decode cX12_duel 35 = .ok (.aload_n 0, 1) := by decide +kernel
theorem dX12_duel_36 : decode cX12_duel 36 = .ok (.getfield 201, 3) := by decide +kernel
theorem dX12_duel_39 : decode cX12_duel 39 = .ok (.istore_n 2, 1) := by decide +kernel
theorem dX12_duel_40 : decode cX12_duel 40 = .ok (.aload_n 0, 1) := by decide +kernel
theorem dX12_duel_41 : decode cX12_duel 41 = .ok (.getfield 204, 3) := by decide +kernel
theorem dX12_duel_44 : decode cX12_duel 44 = .ok (.istore_n 3, 1) := by decide +kernel
theorem dX12_duel_45 : decode cX12_duel 45 = .ok (.iconst 0, 1) := by decide +kernel
theorem dX12_duel_46 : decode cX12_duel 46 = .ok (.istore 4, 2) := by decide +kernel
theorem dX12_duel_48 : decode cX12_duel 48 = .ok (.aload_n 0, 1) := by decide +kernel
theorem dX12_duel_49 : decode cX12_duel 49 = .ok (.iload_n 2, 1) := by decide +kernel
theorem dX12_duel_50 : decode cX12_duel 50 = .ok (.iload_n 3, 1) := by decide +kernel
theorem dX12_duel_51 : decode cX12_duel 51 = .ok (.invokevirtual 301, 3) := by decide +kernel
theorem dX12_duel_54 : decode cX12_duel 54 = .ok (.iconst 2, 1) := by decide +kernel
theorem dX12_duel_55 : decode cX12_duel 55 = .ok (.if_icmp .ne 66, 3) := by decide +kernel
theorem dX12_duel_58 : decode cX12_duel 58 = .ok (.aload_n 0, 1) := by decide +kernel
theorem dX12_duel_59 : decode cX12_duel 59 = .ok (.aload_n 0, 1) := by decide +kernel
theorem dX12_duel_60 : decode cX12_duel 60 = .ok (.iload_n 2, 1) := by decide +kernel
theorem dX12_duel_61 : decode cX12_duel 61 = .ok (.iload_n 3, 1) := by decide +kernel
theorem dX12_duel_62 : decode cX12_duel 62 = .ok (.invokevirtual 226, 3) := by decide +kernel
theorem dX12_duel_65 : decode cX12_duel 65 = .ok (.invokevirtual 400, 3) := by decide +kernel
theorem dX12_duel_68 : decode cX12_duel 68 = .ok (.istore 5, 2) := by decide +kernel
theorem dX12_duel_70 : decode cX12_duel 70 = .ok (.aload_n 0, 1) := by decide +kernel
theorem dX12_duel_71 : decode cX12_duel 71 = .ok (.iload_n 2, 1) := by decide +kernel
theorem dX12_duel_72 : decode cX12_duel 72 = .ok (.iload_n 3, 1) := by decide +kernel
theorem dX12_duel_73 : decode cX12_duel 73 = .ok (.invokevirtual 323, 3) := by decide +kernel
theorem dX12_duel_76 : decode cX12_duel 76 = .ok (.pop, 1) := by decide +kernel
theorem dX12_duel_77 : decode cX12_duel 77 = .ok (.aload_n 0, 1) := by decide +kernel
theorem dX12_duel_78 : decode cX12_duel 78 = .ok (.iload 5, 2) := by decide +kernel
theorem dX12_duel_80 : decode cX12_duel 80 = .ok (.invokevirtual 337, 3) := by decide +kernel
theorem dX12_duel_83 : decode cX12_duel 83 = .ok (.istore 6, 2) := by decide +kernel
theorem dX12_duel_85 : decode cX12_duel 85 = .ok (.iload_n 3, 1) := by decide +kernel
theorem dX12_duel_86 : decode cX12_duel 86 = .ok (.iconst 1, 1) := by decide +kernel
theorem dX12_duel_87 : decode cX12_duel 87 = .ok (.iload 5, 2) := by decide +kernel
theorem dX12_duel_89 : decode cX12_duel 89 = .ok (.ishl, 1) := by decide +kernel
theorem dX12_duel_90 : decode cX12_duel 90 = .ok (.ior, 1) := by decide +kernel
theorem dX12_duel_91 : decode cX12_duel 91 = .ok (.istore_n 3, 1) := by decide +kernel
theorem dX12_duel_92 : decode cX12_duel 92 = .ok (.iinc 4 1, 3) := by decide +kernel
theorem dX12_duel_95 : decode cX12_duel 95 = .ok (.aload_n 0, 1) := by decide +kernel
theorem dX12_duel_96 : decode cX12_duel 96 = .ok (.iload_n 2, 1) := by decide +kernel
theorem dX12_duel_97 : decode cX12_duel 97 = .ok (.iload_n 3, 1) := by decide +kernel
theorem dX12_duel_98 : decode cX12_duel 98 = .ok (.invokevirtual 301, 3) := by decide +kernel
theorem dX12_duel_101 : decode cX12_duel 101 = .ok (.iconst 2, 1) := by decide +kernel
theorem dX12_duel_102 : decode cX12_duel 102 = .ok (.if_icmp .eq 6, 3) := by decide +kernel
theorem dX12_duel_105 : decode cX12_duel 105 = .ok (.iload 4, 2) := by decide +kernel
theorem dX12_duel_107 : decode cX12_duel 107 = .ok (.ireturn, 1) := by decide +kernel
theorem dX12_duel_108 : decode cX12_duel 108 = .ok (.iload_n 2, 1) := by decide +kernel
theorem dX12_duel_109 : decode cX12_duel 109 = .ok (.iconst 1, 1) := by decide +kernel
theorem dX12_duel_110 : decode cX12_duel 110 = .ok (.iload 6, 2) := by decide +kernel
theorem dX12_duel_112 : decode cX12_duel 112 = .ok (.ishl, 1) := by decide +kernel
theorem dX12_duel_113 : decode cX12_duel 113 = .ok (.ior, 1) := by decide +kernel
theorem dX12_duel_114 : decode cX12_duel 114 = .ok (.istore_n 2, 1) := by decide +kernel
theorem dX12_duel_115 : decode cX12_duel 115 = .ok (.iinc 4 1, 3) := by decide +kernel
theorem dX12_duel_118 : decode cX12_duel 118 = .ok (.goto (-70), 3) := by decide +kernel
theorem dX12_duel_121 : decode cX12_duel 121 = .ok (.iload 4, 2) := by decide +kernel
theorem dX12_duel_123 : decode cX12_duel 123 = .ok (.ireturn, 1) := by decide +kernel
theorem dX12_count_0 : decode cX12_count 0 = .ok (.aload_n 0, 1) := by decide +kernel
theorem dX12_count_1 : decode cX12_count 1 = .ok (.iconst 0, 1) := by decide +kernel
theorem dX12_count_2 : decode cX12_count 2 = .ok (.putfield 73, 3) := by decide +kernel
theorem dX12_count_5 : decode cX12_count 5 = .ok (.iload_n 1, 1) := by decide +kernel
theorem dX12_count_6 : decode cX12_count 6 = .ok (.tableswitch 68 0 5 #[38, 43, 48, 53, 58, 63], 38) := by decide +kernel
theorem dX12_count_44 : decode cX12_count 44 = .ok (.aload_n 0, 1) := by decide +kernel
theorem dX12_count_45 : decode cX12_count 45 = .ok (.getfield 64, 3) := by decide +kernel
theorem dX12_count_48 : decode cX12_count 48 = .ok (.ireturn, 1) := by decide +kernel
theorem dX12_count_49 : decode cX12_count 49 = .ok (.aload_n 0, 1) := by decide +kernel
theorem dX12_count_50 : decode cX12_count 50 = .ok (.getfield 198, 3) := by decide +kernel
theorem dX12_count_53 : decode cX12_count 53 = .ok (.ireturn, 1) := by decide +kernel
theorem dX12_count_54 : decode cX12_count 54 = .ok (.aload_n 0, 1) := by decide +kernel
theorem dX12_count_55 : decode cX12_count 55 = .ok (.getfield 207, 3) := by decide +kernel
theorem dX12_count_58 : decode cX12_count 58 = .ok (.ireturn, 1) := by decide +kernel
theorem dX12_count_59 : decode cX12_count 59 = .ok (.aload_n 0, 1) := by decide +kernel
theorem dX12_count_60 : decode cX12_count 60 = .ok (.getfield 67, 3) := by decide +kernel
theorem dX12_count_63 : decode cX12_count 63 = .ok (.ireturn, 1) := by decide +kernel
theorem dX12_count_64 : decode cX12_count 64 = .ok (.aload_n 0, 1) := by decide +kernel
theorem dX12_count_65 : decode cX12_count 65 = .ok (.getfield 210, 3) := by decide +kernel
theorem dX12_count_68 : decode cX12_count 68 = .ok (.ireturn, 1) := by decide +kernel
theorem dX12_count_69 : decode cX12_count 69 = .ok (.aload_n 0, 1) := by decide +kernel
theorem dX12_count_70 : decode cX12_count 70 = .ok (.getfield 76, 3) := by decide +kernel
theorem dX12_count_73 : decode cX12_count 73 = .ok (.ireturn, 1) := by decide +kernel
theorem dX12_count_74 : decode cX12_count 74 = .ok (.iconst (-1), 1) := by decide +kernel
theorem dX12_count_75 : decode cX12_count 75 = .ok (.ireturn, 1) := by decide +kernel
theorem dJ6_numberOfTrailingZeros_0f7a4_0 : decode cJ6_numberOfTrailingZeros_0f7a4 0 = .ok (.iload_n 0, 1) := by decide +kernel
theorem dJ6_numberOfTrailingZeros_0f7a4_1 : decode cJ6_numberOfTrailingZeros_0f7a4 1 = .ok (.iconst (-1), 1) := by decide +kernel
theorem dJ6_numberOfTrailingZeros_0f7a4_2 : decode cJ6_numberOfTrailingZeros_0f7a4 2 = .ok (.ixor, 1) := by decide +kernel
theorem dJ6_numberOfTrailingZeros_0f7a4_3 : decode cJ6_numberOfTrailingZeros_0f7a4 3 = .ok (.iload_n 0, 1) := by decide +kernel
theorem dJ6_numberOfTrailingZeros_0f7a4_4 : decode cJ6_numberOfTrailingZeros_0f7a4 4 = .ok (.iconst 1, 1) := by decide +kernel
theorem dJ6_numberOfTrailingZeros_0f7a4_5 : decode cJ6_numberOfTrailingZeros_0f7a4 5 = .ok (.isub, 1) := by decide +kernel
theorem dJ6_numberOfTrailingZeros_0f7a4_6 : decode cJ6_numberOfTrailingZeros_0f7a4 6 = .ok (.iand, 1) := by decide +kernel
theorem dJ6_numberOfTrailingZeros_0f7a4_7 : decode cJ6_numberOfTrailingZeros_0f7a4 7 = .ok (.istore_n 0, 1) := by decide +kernel
theorem dJ6_numberOfTrailingZeros_0f7a4_8 : decode cJ6_numberOfTrailingZeros_0f7a4 8 = .ok (.iload_n 0, 1) := by decide +kernel
theorem dJ6_numberOfTrailingZeros_0f7a4_9 : decode cJ6_numberOfTrailingZeros_0f7a4 9 = .ok (.ifCond .gt 8, 3) := by decide +kernel
theorem dJ6_numberOfTrailingZeros_0f7a4_12 : decode cJ6_numberOfTrailingZeros_0f7a4 12 = .ok (.iload_n 0, 1) := by decide +kernel
theorem dJ6_numberOfTrailingZeros_0f7a4_13 : decode cJ6_numberOfTrailingZeros_0f7a4 13 = .ok (.bipush 32, 2) := by decide +kernel
theorem dJ6_numberOfTrailingZeros_0f7a4_15 : decode cJ6_numberOfTrailingZeros_0f7a4 15 = .ok (.iand, 1) := by decide +kernel
theorem dJ6_numberOfTrailingZeros_0f7a4_16 : decode cJ6_numberOfTrailingZeros_0f7a4 16 = .ok (.ireturn, 1) := by decide +kernel
theorem dJ6_numberOfTrailingZeros_0f7a4_17 : decode cJ6_numberOfTrailingZeros_0f7a4 17 = .ok (.iconst 1, 1) := by decide +kernel
theorem dJ6_numberOfTrailingZeros_0f7a4_18 : decode cJ6_numberOfTrailingZeros_0f7a4 18 = .ok (.istore_n 1, 1) := by decide +kernel
theorem dJ6_numberOfTrailingZeros_0f7a4_19 : decode cJ6_numberOfTrailingZeros_0f7a4 19 = .ok (.iload_n 0, 1) := by decide +kernel
theorem dJ6_numberOfTrailingZeros_0f7a4_20 : decode cJ6_numberOfTrailingZeros_0f7a4 20 = .ok (.ldc_w 264, 3) := by decide +kernel
theorem dJ6_numberOfTrailingZeros_0f7a4_23 : decode cJ6_numberOfTrailingZeros_0f7a4 23 = .ok (.if_icmp .le 11, 3) := by decide +kernel
theorem dJ6_numberOfTrailingZeros_0f7a4_26 : decode cJ6_numberOfTrailingZeros_0f7a4 26 = .ok (.iinc 1 16, 3) := by decide +kernel
theorem dJ6_numberOfTrailingZeros_0f7a4_29 : decode cJ6_numberOfTrailingZeros_0f7a4 29 = .ok (.iload_n 0, 1) := by decide +kernel
theorem dJ6_numberOfTrailingZeros_0f7a4_30 : decode cJ6_numberOfTrailingZeros_0f7a4 30 = .ok (.bipush 16, 2) := by decide +kernel
theorem dJ6_numberOfTrailingZeros_0f7a4_32 : decode cJ6_numberOfTrailingZeros_0f7a4 32 = .ok (.iushr, 1) := by decide +kernel
theorem dJ6_numberOfTrailingZeros_0f7a4_33 : decode cJ6_numberOfTrailingZeros_0f7a4 33 = .ok (.istore_n 0, 1) := by decide +kernel
theorem dJ6_numberOfTrailingZeros_0f7a4_34 : decode cJ6_numberOfTrailingZeros_0f7a4 34 = .ok (.iload_n 0, 1) := by decide +kernel
theorem dJ6_numberOfTrailingZeros_0f7a4_35 : decode cJ6_numberOfTrailingZeros_0f7a4 35 = .ok (.sipush 256, 3) := by decide +kernel
theorem dJ6_numberOfTrailingZeros_0f7a4_38 : decode cJ6_numberOfTrailingZeros_0f7a4 38 = .ok (.if_icmp .le 11, 3) := by decide +kernel
theorem dJ6_numberOfTrailingZeros_0f7a4_41 : decode cJ6_numberOfTrailingZeros_0f7a4 41 = .ok (.iinc 1 8, 3) := by decide +kernel
theorem dJ6_numberOfTrailingZeros_0f7a4_44 : decode cJ6_numberOfTrailingZeros_0f7a4 44 = .ok (.iload_n 0, 1) := by decide +kernel
theorem dJ6_numberOfTrailingZeros_0f7a4_45 : decode cJ6_numberOfTrailingZeros_0f7a4 45 = .ok (.bipush 8, 2) := by decide +kernel
theorem dJ6_numberOfTrailingZeros_0f7a4_47 : decode cJ6_numberOfTrailingZeros_0f7a4 47 = .ok (.iushr, 1) := by decide +kernel
theorem dJ6_numberOfTrailingZeros_0f7a4_48 : decode cJ6_numberOfTrailingZeros_0f7a4 48 = .ok (.istore_n 0, 1) := by decide +kernel
theorem dJ6_numberOfTrailingZeros_0f7a4_49 : decode cJ6_numberOfTrailingZeros_0f7a4 49 = .ok (.iload_n 0, 1) := by decide +kernel
theorem dJ6_numberOfTrailingZeros_0f7a4_50 : decode cJ6_numberOfTrailingZeros_0f7a4 50 = .ok (.bipush 16, 2) := by decide +kernel
theorem dJ6_numberOfTrailingZeros_0f7a4_52 : decode cJ6_numberOfTrailingZeros_0f7a4 52 = .ok (.if_icmp .le 10, 3) := by decide +kernel
theorem dJ6_numberOfTrailingZeros_0f7a4_55 : decode cJ6_numberOfTrailingZeros_0f7a4 55 = .ok (.iinc 1 4, 3) := by decide +kernel
theorem dJ6_numberOfTrailingZeros_0f7a4_58 : decode cJ6_numberOfTrailingZeros_0f7a4 58 = .ok (.iload_n 0, 1) := by decide +kernel
theorem dJ6_numberOfTrailingZeros_0f7a4_59 : decode cJ6_numberOfTrailingZeros_0f7a4 59 = .ok (.iconst 4, 1) := by decide +kernel
theorem dJ6_numberOfTrailingZeros_0f7a4_60 : decode cJ6_numberOfTrailingZeros_0f7a4 60 = .ok (.iushr, 1) := by decide +kernel
theorem dJ6_numberOfTrailingZeros_0f7a4_61 : decode cJ6_numberOfTrailingZeros_0f7a4 61 = .ok (.istore_n 0, 1) := by decide +kernel
theorem dJ6_numberOfTrailingZeros_0f7a4_62 : decode cJ6_numberOfTrailingZeros_0f7a4 62 = .ok (.iload_n 0, 1) := by decide +kernel
theorem dJ6_numberOfTrailingZeros_0f7a4_63 : decode cJ6_numberOfTrailingZeros_0f7a4 63 = .ok (.iconst 4, 1) := by decide +kernel
theorem dJ6_numberOfTrailingZeros_0f7a4_64 : decode cJ6_numberOfTrailingZeros_0f7a4 64 = .ok (.if_icmp .le 10, 3) := by decide +kernel
theorem dJ6_numberOfTrailingZeros_0f7a4_67 : decode cJ6_numberOfTrailingZeros_0f7a4 67 = .ok (.iinc 1 2, 3) := by decide +kernel
theorem dJ6_numberOfTrailingZeros_0f7a4_70 : decode cJ6_numberOfTrailingZeros_0f7a4 70 = .ok (.iload_n 0, 1) := by decide +kernel
theorem dJ6_numberOfTrailingZeros_0f7a4_71 : decode cJ6_numberOfTrailingZeros_0f7a4 71 = .ok (.iconst 2, 1) := by decide +kernel
theorem dJ6_numberOfTrailingZeros_0f7a4_72 : decode cJ6_numberOfTrailingZeros_0f7a4 72 = .ok (.iushr, 1) := by decide +kernel
theorem dJ6_numberOfTrailingZeros_0f7a4_73 : decode cJ6_numberOfTrailingZeros_0f7a4 73 = .ok (.istore_n 0, 1) := by decide +kernel
theorem dJ6_numberOfTrailingZeros_0f7a4_74 : decode cJ6_numberOfTrailingZeros_0f7a4 74 = .ok (.iload_n 1, 1) := by decide +kernel
theorem dJ6_numberOfTrailingZeros_0f7a4_75 : decode cJ6_numberOfTrailingZeros_0f7a4 75 = .ok (.iload_n 0, 1) := by decide +kernel
theorem dJ6_numberOfTrailingZeros_0f7a4_76 : decode cJ6_numberOfTrailingZeros_0f7a4 76 = .ok (.iconst 1, 1) := by decide +kernel
theorem dJ6_numberOfTrailingZeros_0f7a4_77 : decode cJ6_numberOfTrailingZeros_0f7a4 77 = .ok (.iushr, 1) := by decide +kernel
theorem dJ6_numberOfTrailingZeros_0f7a4_78 : decode cJ6_numberOfTrailingZeros_0f7a4 78 = .ok (.iadd, 1) := by decide +kernel
theorem dJ6_numberOfTrailingZeros_0f7a4_79 : decode cJ6_numberOfTrailingZeros_0f7a4 79 = .ok (.ireturn, 1) := by decide +kernel
theorem dJ6_bitCount_0f7a4_0 : decode cJ6_bitCount_0f7a4 0 = .ok (.iload_n 0, 1) := by decide +kernel
theorem dJ6_bitCount_0f7a4_1 : decode cJ6_bitCount_0f7a4 1 = .ok (.iload_n 0, 1) := by decide +kernel
theorem dJ6_bitCount_0f7a4_2 : decode cJ6_bitCount_0f7a4 2 = .ok (.iconst 1, 1) := by decide +kernel
theorem dJ6_bitCount_0f7a4_3 : decode cJ6_bitCount_0f7a4 3 = .ok (.iushr, 1) := by decide +kernel
theorem dJ6_bitCount_0f7a4_4 : decode cJ6_bitCount_0f7a4 4 = .ok (.ldc_w 265, 3) := by decide +kernel
theorem dJ6_bitCount_0f7a4_7 : decode cJ6_bitCount_0f7a4 7 = .ok (.iand, 1) := by decide +kernel
theorem dJ6_bitCount_0f7a4_8 : decode cJ6_bitCount_0f7a4 8 = .ok (.isub, 1) := by decide +kernel
theorem dJ6_bitCount_0f7a4_9 : decode cJ6_bitCount_0f7a4 9 = .ok (.istore_n 0, 1) := by decide +kernel
theorem dJ6_bitCount_0f7a4_10 : decode cJ6_bitCount_0f7a4 10 = .ok (.iload_n 0, 1) := by decide +kernel
theorem dJ6_bitCount_0f7a4_11 : decode cJ6_bitCount_0f7a4 11 = .ok (.ldc_w 266, 3) := by decide +kernel
theorem dJ6_bitCount_0f7a4_14 : decode cJ6_bitCount_0f7a4 14 = .ok (.iand, 1) := by decide +kernel
theorem dJ6_bitCount_0f7a4_15 : decode cJ6_bitCount_0f7a4 15 = .ok (.iload_n 0, 1) := by decide +kernel
theorem dJ6_bitCount_0f7a4_16 : decode cJ6_bitCount_0f7a4 16 = .ok (.iconst 2, 1) := by decide +kernel
theorem dJ6_bitCount_0f7a4_17 : decode cJ6_bitCount_0f7a4 17 = .ok (.iushr, 1) := by decide +kernel
theorem dJ6_bitCount_0f7a4_18 : decode cJ6_bitCount_0f7a4 18 = .ok (.ldc_w 266, 3) := by decide +kernel
theorem dJ6_bitCount_0f7a4_21 : decode cJ6_bitCount_0f7a4 21 = .ok (.iand, 1) := by decide +kernel
theorem dJ6_bitCount_0f7a4_22 : decode cJ6_bitCount_0f7a4 22 = .ok (.iadd, 1) := by decide +kernel
theorem dJ6_bitCount_0f7a4_23 : decode cJ6_bitCount_0f7a4 23 = .ok (.istore_n 0, 1) := by decide +kernel
theorem dJ6_bitCount_0f7a4_24 : decode cJ6_bitCount_0f7a4 24 = .ok (.iload_n 0, 1) := by decide +kernel
theorem dJ6_bitCount_0f7a4_25 : decode cJ6_bitCount_0f7a4 25 = .ok (.iload_n 0, 1) := by decide +kernel
theorem dJ6_bitCount_0f7a4_26 : decode cJ6_bitCount_0f7a4 26 = .ok (.iconst 4, 1) := by decide +kernel
theorem dJ6_bitCount_0f7a4_27 : decode cJ6_bitCount_0f7a4 27 = .ok (.iushr, 1) := by decide +kernel
theorem dJ6_bitCount_0f7a4_28 : decode cJ6_bitCount_0f7a4 28 = .ok (.iadd, 1) := by decide +kernel
theorem dJ6_bitCount_0f7a4_29 : decode cJ6_bitCount_0f7a4 29 = .ok (.ldc_w 267, 3) := by decide +kernel
theorem dJ6_bitCount_0f7a4_32 : decode cJ6_bitCount_0f7a4 32 = .ok (.iand, 1) := by decide +kernel
theorem dJ6_bitCount_0f7a4_33 : decode cJ6_bitCount_0f7a4 33 = .ok (.istore_n 0, 1) := by decide +kernel
theorem dJ6_bitCount_0f7a4_34 : decode cJ6_bitCount_0f7a4 34 = .ok (.iload_n 0, 1) := by decide +kernel
theorem dJ6_bitCount_0f7a4_35 : decode cJ6_bitCount_0f7a4 35 = .ok (.iload_n 0, 1) := by decide +kernel
theorem dJ6_bitCount_0f7a4_36 : decode cJ6_bitCount_0f7a4 36 = .ok (.bipush 8, 2) := by decide +kernel
theorem dJ6_bitCount_0f7a4_38 : decode cJ6_bitCount_0f7a4 38 = .ok (.iushr, 1) := by decide +kernel
theorem dJ6_bitCount_0f7a4_39 : decode cJ6_bitCount_0f7a4 39 = .ok (.iadd, 1) := by decide +kernel
theorem dJ6_bitCount_0f7a4_40 : decode cJ6_bitCount_0f7a4 40 = .ok (.istore_n 0, 1) := by decide +kernel
theorem dJ6_bitCount_0f7a4_41 : decode cJ6_bitCount_0f7a4 41 = .ok (.iload_n 0, 1) := by decide +kernel
theorem dJ6_bitCount_0f7a4_42 : decode cJ6_bitCount_0f7a4 42 = .ok (.iload_n 0, 1) := by decide +kernel
theorem dJ6_bitCount_0f7a4_43 : decode cJ6_bitCount_0f7a4 43 = .ok (.bipush 16, 2) := by decide +kernel
theorem dJ6_bitCount_0f7a4_45 : decode cJ6_bitCount_0f7a4 45 = .ok (.iushr, 1) := by decide +kernel
theorem dJ6_bitCount_0f7a4_46 : decode cJ6_bitCount_0f7a4 46 = .ok (.iadd, 1) := by decide +kernel
theorem dJ6_bitCount_0f7a4_47 : decode cJ6_bitCount_0f7a4 47 = .ok (.istore_n 0, 1) := by decide +kernel
theorem dJ6_bitCount_0f7a4_48 : decode cJ6_bitCount_0f7a4 48 = .ok (.iload_n 0, 1) := by decide +kernel
theorem dJ6_bitCount_0f7a4_49 : decode cJ6_bitCount_0f7a4 49 = .ok (.bipush 63, 2) := by decide +kernel
theorem dJ6_bitCount_0f7a4_51 : decode cJ6_bitCount_0f7a4 51 = .ok (.iand, 1) := by decide +kernel
theorem dJ6_bitCount_0f7a4_52 : decode cJ6_bitCount_0f7a4 52 = .ok (.ireturn, 1) := by decide +kernel
theorem dJ9_floorMod_7cf53_0 : decode cJ9_floorMod_7cf53 0 = .ok (.iload_n 0, 1) := by decide +kernel
theorem dJ9_floorMod_7cf53_1 : decode cJ9_floorMod_7cf53 1 = .ok (.iload_n 1, 1) := by decide +kernel
theorem dJ9_floorMod_7cf53_2 : decode cJ9_floorMod_7cf53 2 = .ok (.irem, 1) := by decide +kernel
theorem dJ9_floorMod_7cf53_3 : decode cJ9_floorMod_7cf53 3 = .ok (.istore_n 2, 1) := by decide +kernel
theorem dJ9_floorMod_7cf53_4 : decode cJ9_floorMod_7cf53 4 = .ok (.iload_n 0, 1) := by decide +kernel
theorem dJ9_floorMod_7cf53_5 : decode cJ9_floorMod_7cf53 5 = .ok (.iload_n 1, 1) := by decide +kernel
theorem dJ9_floorMod_7cf53_6 : decode cJ9_floorMod_7cf53 6 = .ok (.ixor, 1) := by decide +kernel
theorem dJ9_floorMod_7cf53_7 : decode cJ9_floorMod_7cf53 7 = .ok (.ifCond .ge 11, 3) := by decide +kernel
theorem dJ9_floorMod_7cf53_10 : decode cJ9_floorMod_7cf53 10 = .ok (.iload_n 2, 1) := by decide +kernel
theorem dJ9_floorMod_7cf53_11 : decode cJ9_floorMod_7cf53 11 = .ok (.ifCond .eq 7, 3) := by decide +kernel
theorem dJ9_floorMod_7cf53_14 : decode cJ9_floorMod_7cf53 14 = .ok (.iload_n 2, 1) := by decide +kernel
theorem dJ9_floorMod_7cf53_15 : decode cJ9_floorMod_7cf53 15 = .ok (.iload_n 1, 1) := by decide +kernel
theorem dJ9_floorMod_7cf53_16 : decode cJ9_floorMod_7cf53 16 = .ok (.iadd, 1) := by decide +kernel
theorem dJ9_floorMod_7cf53_17 : decode cJ9_floorMod_7cf53 17 = .ok (.ireturn, 1) := by decide +kernel
theorem dJ9_floorMod_7cf53_18 : decode cJ9_floorMod_7cf53 18 = .ok (.iload_n 2, 1) := by decide +kernel
theorem dJ9_floorMod_7cf53_19 : decode cJ9_floorMod_7cf53 19 = .ok (.ireturn, 1) := by decide +kernel
theorem dJ9_max_7cf53_0 : decode cJ9_max_7cf53 0 = .ok (.iload_n 0, 1) := by decide +kernel
theorem dJ9_max_7cf53_1 : decode cJ9_max_7cf53 1 = .ok (.iload_n 1, 1) := by decide +kernel
theorem dJ9_max_7cf53_2 : decode cJ9_max_7cf53 2 = .ok (.if_icmp .lt 7, 3) := by decide +kernel
theorem dJ9_max_7cf53_5 : decode cJ9_max_7cf53 5 = .ok (.iload_n 0, 1) := by decide +kernel
theorem dJ9_max_7cf53_6 : decode cJ9_max_7cf53 6 = .ok (.goto 4, 3) := by decide +kernel
theorem dJ9_max_7cf53_9 : decode cJ9_max_7cf53 9 = .ok (.iload_n 1, 1) := by decide +kernel
theorem dJ9_max_7cf53_10 : decode cJ9_max_7cf53 10 = .ok (.ireturn, 1) := by decide +kernel
theorem dJ9_min_7cf53_0 : decode cJ9_min_7cf53 0 = .ok (.iload_n 0, 1) := by decide +kernel
theorem dJ9_min_7cf53_1 : decode cJ9_min_7cf53 1 = .ok (.iload_n 1, 1) := by decide +kernel
theorem dJ9_min_7cf53_2 : decode cJ9_min_7cf53 2 = .ok (.if_icmp .gt 7, 3) := by decide +kernel
theorem dJ9_min_7cf53_5 : decode cJ9_min_7cf53 5 = .ok (.iload_n 0, 1) := by decide +kernel
theorem dJ9_min_7cf53_6 : decode cJ9_min_7cf53 6 = .ok (.goto 4, 3) := by decide +kernel
theorem dJ9_min_7cf53_9 : decode cJ9_min_7cf53 9 = .ok (.iload_n 1, 1) := by decide +kernel
theorem dJ9_min_7cf53_10 : decode cJ9_min_7cf53 10 = .ok (.ireturn, 1) := by decide +kernel
theorem dJ0_length_8abf5_0 : decode cJ0_length_8abf5 0 = .ok (.aload_n 0, 1) := by decide +kernel
theorem dJ0_length_8abf5_1 : decode cJ0_length_8abf5 1 = .ok (.getfield 9, 3) := by decide +kernel
theorem dJ0_length_8abf5_4 : decode cJ0_length_8abf5 4 = .ok (.arraylength, 1) := by decide +kernel
theorem dJ0_length_8abf5_5 : decode cJ0_length_8abf5 5 = .ok (.aload_n 0, 1) := by decide +kernel
theorem dJ0_length_8abf5_6 : decode cJ0_length_8abf5 6 = .ok (.invokevirtual 335, 3) := by decide +kernel
theorem dJ0_length_8abf5_9 : decode cJ0_length_8abf5 9 = .ok (.ishr, 1) := by decide +kernel
theorem dJ0_length_8abf5_10 : decode cJ0_length_8abf5 10 = .ok (.ireturn, 1) := by decide +kernel
theorem dJ0_charAt_5068e_0 : decode cJ0_charAt_5068e 0 = .ok (.aload_n 0, 1) := by decide +kernel
theorem dJ0_charAt_5068e_1 : decode cJ0_charAt_5068e 1 = .ok (.invokevirtual 492, 3) := by decide +kernel
theorem dJ0_charAt_5068e_4 : decode cJ0_charAt_5068e 4 = .ok (.ifCond .eq 12, 3) := by decide +kernel
theorem dJ0_charAt_5068e_7 : decode cJ0_charAt_5068e 7 = .ok (.aload_n 0, 1) := by decide +kernel
theorem dJ0_charAt_5068e_8 : decode cJ0_charAt_5068e 8 = .ok (.getfield 9, 3) := by decide +kernel
theorem dJ0_charAt_5068e_11 : decode cJ0_charAt_5068e 11 = .ok (.iload_n 1, 1) := by decide +kernel
theorem dJ0_charAt_5068e_12 : decode cJ0_charAt_5068e 12 = .ok (.invokestatic 495, 3) := by decide +kernel
theorem dJ0_charAt_5068e_15 : decode cJ0_charAt_5068e 15 = .ok (.ireturn, 1) := by decide +kernel
theorem dJ0_charAt_5068e_16 : decode cJ0_charAt_5068e 16 = .ok (.aload_n 0, 1) := by decide +kernel
theorem dJ0_charAt_5068e_17 : decode cJ0_charAt_5068e 17 = .ok (.getfield 9, 3) := by decide +kernel
theorem dJ0_charAt_5068e_20 : decode cJ0_charAt_5068e 20 = .ok (.iload_n 1, 1) := by decide +kernel
theorem dJ0_charAt_5068e_21 : decode cJ0_charAt_5068e 21 = .ok (.invokestatic 498, 3) := by decide +kernel
theorem dJ0_charAt_5068e_24 : decode cJ0_charAt_5068e 24 = .ok (.ireturn, 1) := by decide +kernel
theorem dJ0_coder_7d493_0 : decode cJ0_coder_7d493 0 = .ok (.getstatic 38, 3) := by decide +kernel
theorem dJ0_coder_7d493_3 : decode cJ0_coder_7d493 3 = .ok (.ifCond .eq 10, 3) := by decide +kernel
theorem dJ0_coder_7d493_6 : decode cJ0_coder_7d493 6 = .ok (.aload_n 0, 1) := by decide +kernel
theorem dJ0_coder_7d493_7 : decode cJ0_coder_7d493 7 = .ok (.getfield 15, 3) := by decide +kernel
theorem dJ0_coder_7d493_10 : decode cJ0_coder_7d493 10 = .ok (.goto 4, 3) := by decide +kernel
theorem dJ0_coder_7d493_13 : decode cJ0_coder_7d493 13 = .ok (.iconst 1, 1) := by decide +kernel
theorem dJ0_coder_7d493_14 : decode cJ0_coder_7d493 14 = .ok (.ireturn, 1) := by decide +kernel
theorem dJ0_isLatin1_aae02_0 : decode cJ0_isLatin1_aae02 0 = .ok (.getstatic 38, 3) := by decide +kernel
theorem dJ0_isLatin1_aae02_3 : decode cJ0_isLatin1_aae02 3 = .ok (.ifCond .eq 14, 3) := by decide +kernel
theorem dJ0_isLatin1_aae02_6 : decode cJ0_isLatin1_aae02 6 = .ok (.aload_n 0, 1) := by decide +kernel
theorem dJ0_isLatin1_aae02_7 : decode cJ0_isLatin1_aae02 7 = .ok (.getfield 15, 3) := by decide +kernel
theorem dJ0_isLatin1_aae02_10 : decode cJ0_isLatin1_aae02 10 = .ok (.ifCond .ne 7, 3) := by decide +kernel
theorem dJ0_isLatin1_aae02_13 : decode cJ0_isLatin1_aae02 13 = .ok (.iconst 1, 1) := by decide +kernel
theorem dJ0_isLatin1_aae02_14 : decode cJ0_isLatin1_aae02 14 = .ok (.goto 4, 3) := by decide +kernel
theorem dJ0_isLatin1_aae02_17 : decode cJ0_isLatin1_aae02 17 = .ok (.iconst 0, 1) := by decide +kernel
theorem dJ0_isLatin1_aae02_18 : decode cJ0_isLatin1_aae02 18 = .ok (.ireturn, 1) := by decide +kernel
theorem dJ0_checkIndex_df160_0 : decode cJ0_checkIndex_df160 0 = .ok (.iload_n 0, 1) := by decide +kernel
theorem dJ0_checkIndex_df160_1 : decode cJ0_checkIndex_df160 1 = .ok (.iload_n 1, 1) := by decide +kernel
theorem dJ0_checkIndex_df160_2 : decode cJ0_checkIndex_df160 2 = .ok (.getstatic 1053, 3) := by decide +kernel
theorem dJ0_checkIndex_df160_5 : decode cJ0_checkIndex_df160 5 = .ok (.invokestatic 1059, 3) := by decide +kernel
theorem dJ0_checkIndex_df160_8 : decode cJ0_checkIndex_df160 8 = .ok (.pop, 1) := by decide +kernel
theorem dJ0_checkIndex_df160_9 : decode cJ0_checkIndex_df160 9 = .ok (.return_, 1) := by decide +kernel
theorem dJ1_charAt_3b067_0 : decode cJ1_charAt_3b067 0 = .ok (.iload_n 1, 1) := by decide +kernel
theorem dJ1_charAt_3b067_1 : decode cJ1_charAt_3b067 1 = .ok (.aload_n 0, 1) := by decide +kernel
theorem dJ1_charAt_3b067_2 : decode cJ1_charAt_3b067 2 = .ok (.arraylength, 1) := by decide +kernel
theorem dJ1_charAt_3b067_3 : decode cJ1_charAt_3b067 3 = .ok (.invokestatic 9, 3) := by decide +kernel
theorem dJ1_charAt_3b067_6 : decode cJ1_charAt_3b067 6 = .ok (.aload_n 0, 1) := by decide +kernel
theorem dJ1_charAt_3b067_7 : decode cJ1_charAt_3b067 7 = .ok (.iload_n 1, 1) := by decide +kernel
theorem dJ1_charAt_3b067_8 : decode cJ1_charAt_3b067 8 = .ok (.baload, 1) := by decide +kernel
theorem dJ1_charAt_3b067_9 : decode cJ1_charAt_3b067 9 = .ok (.sipush 255, 3) := by decide +kernel
theorem dJ1_charAt_3b067_12 : decode cJ1_charAt_3b067 12 = .ok (.iand, 1) := by decide +kernel
theorem dJ1_charAt_3b067_13 : decode cJ1_charAt_3b067 13 = .ok (.i2c, 1) := by decide +kernel
theorem dJ1_charAt_3b067_14 : decode cJ1_charAt_3b067 14 = .ok (.ireturn, 1) := by decide +kernel
theorem dJ2_getChar_3b067_0 : decode cJ2_getChar_3b067 0 = .ok (.getstatic 44, 3) := by decide +kernel
theorem dJ2_getChar_3b067_3 : decode cJ2_getChar_3b067 3 = .ok (.ifCond .ne 25, 3) := by decide +kernel
theorem dJ2_getChar_3b067_6 : decode cJ2_getChar_3b067 6 = .ok (.iload_n 1, 1) := by decide +kernel
theorem dJ2_getChar_3b067_7 : decode cJ2_getChar_3b067 7 = .ok (.ifCond .lt 11, 3) := by decide +kernel
theorem dJ2_getChar_3b067_10 : decode cJ2_getChar_3b067 10 = .ok (.iload_n 1, 1) := by decide +kernel
theorem dJ2_getChar_3b067_11 : decode cJ2_getChar_3b067 11 = .ok (.aload_n 0, 1) := by decide +kernel
theorem dJ2_getChar_3b067_12 : decode cJ2_getChar_3b067 12 = .ok (.invokestatic 48, 3) := by decide +kernel
theorem dJ2_getChar_3b067_15 : decode cJ2_getChar_3b067 15 = .ok (.if_icmp .lt 13, 3) := by decide +kernel
theorem dJ2_getChar_3b067_18 : decode cJ2_getChar_3b067 18 = .ok (.new 52, 3) := by decide +kernel
theorem dJ2_getChar_3b067_21 : decode cJ2_getChar_3b067 21 = .ok (.dup, 1) := by decide +kernel
theorem dJ2_getChar_3b067_22 : decode cJ2_getChar_3b067 22 = .ok (.ldc 54, 2) := by decide +kernel
theorem dJ2_getChar_3b067_24 : decode cJ2_getChar_3b067 24 = .ok (.invokespecial 56, 3) := by decide +kernel
theorem dJ2_getChar_3b067_27 : decode cJ2_getChar_3b067 27 = .ok (.athrow, 1) := by decide +kernel
theorem dJ2_getChar_3b067_28 : decode cJ2_getChar_3b067 28 = .ok (.iload_n 1, 1) := by decide +kernel
theorem dJ2_getChar_3b067_29 : decode cJ2_getChar_3b067 29 = .ok (.iconst 1, 1) := by decide +kernel
theorem dJ2_getChar_3b067_30 : decode cJ2_getChar_3b067 30 = .ok (.ishl, 1) := by decide +kernel
theorem dJ2_getChar_3b067_31 : decode cJ2_getChar_3b067 31 = .ok (.istore_n 1, 1) := by decide +kernel
theorem dJ2_getChar_3b067_32 : decode cJ2_getChar_3b067 32 = .ok (.aload_n 0, 1) := by decide +kernel
theorem dJ2_getChar_3b067_33 : decode cJ2_getChar_3b067 33 = .ok (.iload_n 1, 1) := by decide +kernel
theorem dJ2_getChar_3b067_34 : decode cJ2_getChar_3b067 34 = .ok (.iinc 1 1, 3) := by decide +kernel
theorem dJ2_getChar_3b067_37 : decode cJ2_getChar_3b067 37 = .ok (.baload, 1) := by decide +kernel
theorem dJ2_getChar_3b067_38 : decode cJ2_getChar_3b067 38 = .ok (.sipush 255, 3) := by decide +kernel
theorem dJ2_getChar_3b067_41 : decode cJ2_getChar_3b067 41 = .ok (.iand, 1) := by decide +kernel
theorem dJ2_getChar_3b067_42 : decode cJ2_getChar_3b067 42 = .ok (.getstatic 59, 3) := by decide +kernel
theorem dJ2_getChar_3b067_45 : decode cJ2_getChar_3b067 45 = .ok (.ishl, 1) := by decide +kernel
theorem dJ2_getChar_3b067_46 : decode cJ2_getChar_3b067 46 = .ok (.aload_n 0, 1) := by decide +kernel
theorem dJ2_getChar_3b067_47 : decode cJ2_getChar_3b067 47 = .ok (.iload_n 1, 1) := by decide +kernel
theorem dJ2_getChar_3b067_48 : decode cJ2_getChar_3b067 48 = .ok (.baload, 1) := by decide +kernel
theorem dJ2_getChar_3b067_49 : decode cJ2_getChar_3b067 49 = .ok (.sipush 255, 3) := by decide +kernel
theorem dJ2_getChar_3b067_52 : decode cJ2_getChar_3b067 52 = .ok (.iand, 1) := by decide +kernel
theorem dJ2_getChar_3b067_53 : decode cJ2_getChar_3b067 53 = .ok (.getstatic 63, 3) := by decide +kernel
theorem dJ2_getChar_3b067_56 : decode cJ2_getChar_3b067 56 = .ok (.ishl, 1) := by decide +kernel
theorem dJ2_getChar_3b067_57 : decode cJ2_getChar_3b067 57 = .ok (.ior, 1) := by decide +kernel
theorem dJ2_getChar_3b067_58 : decode cJ2_getChar_3b067 58 = .ok (.i2c, 1) := by decide +kernel
theorem dJ2_getChar_3b067_59 : decode cJ2_getChar_3b067 59 = .ok (.ireturn, 1) := by decide +kernel
theorem dJ2_length_9d52b_0 : decode cJ2_length_9d52b 0 = .ok (.aload_n 0, 1) := by decide +kernel
theorem dJ2_length_9d52b_1 : decode cJ2_length_9d52b 1 = .ok (.arraylength, 1) := by decide +kernel
theorem dJ2_length_9d52b_2 : decode cJ2_length_9d52b 2 = .ok (.iconst 1, 1) := by decide +kernel
theorem dJ2_length_9d52b_3 : decode cJ2_length_9d52b 3 = .ok (.ishr, 1) := by decide +kernel
theorem dJ2_length_9d52b_4 : decode cJ2_length_9d52b 4 = .ok (.ireturn, 1) := by decide +kernel
theorem dJ2_charAt_3b067_0 : decode cJ2_charAt_3b067 0 = .ok (.iload_n 1, 1) := by decide +kernel
theorem dJ2_charAt_3b067_1 : decode cJ2_charAt_3b067 1 = .ok (.aload_n 0, 1) := by decide +kernel
theorem dJ2_charAt_3b067_2 : decode cJ2_charAt_3b067 2 = .ok (.invokestatic 67, 3) := by decide +kernel
theorem dJ2_charAt_3b067_5 : decode cJ2_charAt_3b067 5 = .ok (.aload_n 0, 1) := by decide +kernel
theorem dJ2_charAt_3b067_6 : decode cJ2_charAt_3b067 6 = .ok (.iload_n 1, 1) := by decide +kernel
theorem dJ2_charAt_3b067_7 : decode cJ2_charAt_3b067 7 = .ok (.invokestatic 71, 3) := by decide +kernel
theorem dJ2_charAt_3b067_10 : decode cJ2_charAt_3b067 10 = .ok (.ireturn, 1) := by decide +kernel
theorem dJ2_checkIndex_2214a_0 : decode cJ2_checkIndex_2214a 0 = .ok (.iload_n 0, 1) := by decide +kernel
theorem dJ2_checkIndex_2214a_1 : decode cJ2_checkIndex_2214a 1 = .ok (.aload_n 1, 1) := by decide +kernel
theorem dJ2_checkIndex_2214a_2 : decode cJ2_checkIndex_2214a 2 = .ok (.invokestatic 48, 3) := by decide +kernel
theorem dJ2_checkIndex_2214a_5 : decode cJ2_checkIndex_2214a 5 = .ok (.invokestatic 414, 3) := by decide +kernel
theorem dJ2_checkIndex_2214a_8 : decode cJ2_checkIndex_2214a 8 = .ok (.return_, 1) := by decide +kernel
theorem dJ7_fill_d0a16_0 : decode cJ7_fill_d0a16 0 = .ok (.iconst 0, 1) := by decide +kernel
theorem dJ7_fill_d0a16_1 : decode cJ7_fill_d0a16 1 = .ok (.istore_n 3, 1) := by decide +kernel
theorem dJ7_fill_d0a16_2 : decode cJ7_fill_d0a16 2 = .ok (.aload_n 0, 1) := by decide +kernel
theorem dJ7_fill_d0a16_3 : decode cJ7_fill_d0a16 3 = .ok (.arraylength, 1) := by decide +kernel
theorem dJ7_fill_d0a16_4 : decode cJ7_fill_d0a16 4 = .ok (.istore 4, 2) := by decide +kernel
theorem dJ7_fill_d0a16_6 : decode cJ7_fill_d0a16 6 = .ok (.iload_n 3, 1) := by decide +kernel
theorem dJ7_fill_d0a16_7 : decode cJ7_fill_d0a16 7 = .ok (.iload 4, 2) := by decide +kernel
theorem dJ7_fill_d0a16_9 : decode cJ7_fill_d0a16 9 = .ok (.if_icmp .ge 13, 3) := by decide +kernel
theorem dJ7_fill_d0a16_12 : decode cJ7_fill_d0a16 12 = .ok (.aload_n 0, 1) := by decide +kernel
theorem dJ7_fill_d0a16_13 : decode cJ7_fill_d0a16 13 = .ok (.iload_n 3, 1) := by decide +kernel
theorem dJ7_fill_d0a16_14 : decode cJ7_fill_d0a16 14 = .ok (.lload_n 1, 1) := by decide +kernel
theorem dJ7_fill_d0a16_15 : decode cJ7_fill_d0a16 15 = .ok (.lastore, 1) := by decide +kernel
theorem dJ7_fill_d0a16_16 : decode cJ7_fill_d0a16 16 = .ok (.iinc 3 1, 3) := by decide +kernel
theorem dJ7_fill_d0a16_19 : decode cJ7_fill_d0a16 19 = .ok (.goto (-13), 3) := by decide +kernel
theorem dJ7_fill_d0a16_22 : decode cJ7_fill_d0a16 22 = .ok (.return_, 1) := by decide +kernel
theorem dJ7_fill_53178_0 : decode cJ7_fill_53178 0 = .ok (.iconst 0, 1) := by decide +kernel
theorem dJ7_fill_53178_1 : decode cJ7_fill_53178 1 = .ok (.istore_n 2, 1) := by decide +kernel
theorem dJ7_fill_53178_2 : decode cJ7_fill_53178 2 = .ok (.aload_n 0, 1) := by decide +kernel
theorem dJ7_fill_53178_3 : decode cJ7_fill_53178 3 = .ok (.arraylength, 1) := by decide +kernel
theorem dJ7_fill_53178_4 : decode cJ7_fill_53178 4 = .ok (.istore_n 3, 1) := by decide +kernel
theorem dJ7_fill_53178_5 : decode cJ7_fill_53178 5 = .ok (.iload_n 2, 1) := by decide +kernel
theorem dJ7_fill_53178_6 : decode cJ7_fill_53178 6 = .ok (.iload_n 3, 1) := by decide +kernel
theorem dJ7_fill_53178_7 : decode cJ7_fill_53178 7 = .ok (.if_icmp .ge 13, 3) := by decide +kernel
theorem dJ7_fill_53178_10 : decode cJ7_fill_53178 10 = .ok (.aload_n 0, 1) := by decide +kernel
theorem dJ7_fill_53178_11 : decode cJ7_fill_53178 11 = .ok (.iload_n 2, 1) := by decide +kernel
theorem dJ7_fill_53178_12 : decode cJ7_fill_53178 12 = .ok (.iload_n 1, 1) := by decide +kernel
theorem dJ7_fill_53178_13 : decode cJ7_fill_53178 13 = .ok (.iastore, 1) := by decide +kernel
theorem dJ7_fill_53178_14 : decode cJ7_fill_53178 14 = .ok (.iinc 2 1, 3) := by decide +kernel
theorem dJ7_fill_53178_17 : decode cJ7_fill_53178 17 = .ok (.goto (-12), 3) := by decide +kernel
theorem dJ7_fill_53178_20 : decode cJ7_fill_53178 20 = .ok (.return_, 1) := by decide +kernel
theorem dJ3_checkIndex_8e157_0 : decode cJ3_checkIndex_8e157 0 = .ok (.iload_n 0, 1) := by decide +kernel
theorem dJ3_checkIndex_8e157_1 : decode cJ3_checkIndex_8e157 1 = .ok (.ifCond .lt 8, 3) := by decide +kernel
theorem dJ3_checkIndex_8e157_4 : decode cJ3_checkIndex_8e157 4 = .ok (.iload_n 0, 1) := by decide +kernel
theorem dJ3_checkIndex_8e157_5 : decode cJ3_checkIndex_8e157 5 = .ok (.iload_n 1, 1) := by decide +kernel
theorem dJ3_checkIndex_8e157_6 : decode cJ3_checkIndex_8e157 6 = .ok (.if_icmp .lt 10, 3) := by decide +kernel
theorem dJ3_checkIndex_8e157_9 : decode cJ3_checkIndex_8e157 9 = .ok (.aload_n 2, 1) := by decide +kernel
theorem dJ3_checkIndex_8e157_10 : decode cJ3_checkIndex_8e157 10 = .ok (.iload_n 0, 1) := by decide +kernel
theorem dJ3_checkIndex_8e157_11 : decode cJ3_checkIndex_8e157 11 = .ok (.iload_n 1, 1) := by decide +kernel
theorem dJ3_checkIndex_8e157_12 : decode cJ3_checkIndex_8e157 12 = .ok (.invokestatic 95, 3) := by decide +kernel
theorem dJ3_checkIndex_8e157_15 : decode cJ3_checkIndex_8e157 15 = .ok (.athrow, 1) := by decide +kernel
theorem dJ3_checkIndex_8e157_16 : decode cJ3_checkIndex_8e157 16 = .ok (.iload_n 0, 1) := by decide +kernel
theorem dJ3_checkIndex_8e157_17 : decode cJ3_checkIndex_8e157 17 = .ok (.ireturn, 1) := by decide +kernel
theorem dL_line_0 : decode cL_line 0 = .ok (.aload_n 3, 1) := by decide +kernel
theorem dL_line_1 : decode cL_line 1 = .ok (.iconst 0, 1) := by decide +kernel
theorem dL_line_2 : decode cL_line 2 = .ok (.aload_n 0, 1) := by decide +kernel
theorem dL_line_3 : decode cL_line 3 = .ok (.iload_n 1, 1) := by decide +kernel
theorem dL_line_4 : decode cL_line 4 = .ok (.iload_n 2, 1) := by decide +kernel
theorem dL_line_5 : decode cL_line 5 = .ok (.invokevirtual 7, 3) := by decide +kernel
theorem dL_line_8 : decode cL_line 8 = .ok (.i2l, 1) := by decide +kernel
theorem dL_line_9 : decode cL_line 9 = .ok (.lastore, 1) := by decide +kernel
theorem dL_line_10 : decode cL_line 10 = .ok (.goto 11, 3) := by decide +kernel
theorem dL_line_13 : decode cL_line 13 = .ok (.astore 4, 2) := by decide +kernel
theorem dL_line_15 : decode cL_line 15 = .ok (.iconst 1, 1) := by decide +kernel
theorem dL_line_16 : decode cL_line 16 = .ok (.ireturn, 1) := by decide +kernel
theorem dL_line_17 : decode cL_line 17 = .ok (.astore 4, 2) := by decide +kernel
theorem dL_line_19 : decode cL_line 19 = .ok (.iconst 2, 1) := by decide +kernel
theorem dL_line_20 : decode cL_line 20 = .ok (.ireturn, 1) := by decide +kernel
theorem dL_line_21 : decode cL_line 21 = .ok (.iconst 0, 1) := by decide +kernel
theorem dL_line_22 : decode cL_line 22 = .ok (.ireturn, 1) := by decide +kernel
theorem dL_law_0 : decode cL_law 0 = .ok (.new 8, 3) := by decide +kernel
theorem dL_law_3 : decode cL_law 3 = .ok (.dup, 1) := by decide +kernel
theorem dL_law_4 : decode cL_law 4 = .ok (.invokespecial 17, 3) := by decide +kernel
theorem dL_law_7 : decode cL_law 7 = .ok (.astore_n 1, 1) := by decide +kernel
theorem dL_law_8 : decode cL_law 8 = .ok (.new 18, 3) := by decide +kernel
theorem dL_law_11 : decode cL_law 11 = .ok (.dup, 1) := by decide +kernel
theorem dL_law_12 : decode cL_law 12 = .ok (.invokespecial 20, 3) := by decide +kernel
theorem dL_law_15 : decode cL_law 15 = .ok (.astore_n 2, 1) := by decide +kernel
theorem dL_law_16 : decode cL_law 16 = .ok (.iconst 1, 1) := by decide +kernel
theorem dL_law_17 : decode cL_law 17 = .ok (.newarray .long, 2) := by decide +kernel
theorem dL_law_19 : decode cL_law 19 = .ok (.astore_n 3, 1) := by decide +kernel
theorem dL_law_20 : decode cL_law 20 = .ok (.iconst 0, 1) := by decide +kernel
theorem dL_law_21 : decode cL_law 21 = .ok (.istore 4, 2) := by decide +kernel
theorem dL_law_23 : decode cL_law 23 = .ok (.iload 4, 2) := by decide +kernel
theorem dL_law_25 : decode cL_law 25 = .ok (.aload_n 0, 1) := by decide +kernel
theorem dL_law_26 : decode cL_law 26 = .ok (.arraylength, 1) := by decide +kernel
theorem dL_law_27 : decode cL_law 27 = .ok (.bipush 6, 2) := by decide +kernel
theorem dL_law_29 : decode cL_law 29 = .ok (.isub, 1) := by decide +kernel
theorem dL_law_30 : decode cL_law 30 = .ok (.if_icmp .gt 1382, 3) := by decide +kernel
theorem dL_law_33 : decode cL_law 33 = .ok (.aload_n 0, 1) := by decide +kernel
theorem dL_law_34 : decode cL_law 34 = .ok (.iload 4, 2) := by decide +kernel
theorem dL_law_36 : decode cL_law 36 = .ok (.iaload, 1) := by decide +kernel
theorem dL_law_37 : decode cL_law 37 = .ok (.bipush 63, 2) := by decide +kernel
theorem dL_law_39 : decode cL_law 39 = .ok (.iand, 1) := by decide +kernel
theorem dL_law_40 : decode cL_law 40 = .ok (.tableswitch 1366 0 42 #[188, 261, 286, 311, 379, 404, 441, 466, 479, 492, 517, 542, 567, 580, 617, 642, 667, 692, 717, 742, 767, 792, 817, 842, 867, 880, 905, 930, 967, 1004, 1041, 1054, 1079, 1104, 1129, 1142, 1167, 1192, 1229, 1254, 1279, 1304, 1341], 188) := by decide +kernel
theorem dL_law_228 : decode cL_law 228 = .ok (.aload_n 1, 1) := by decide +kernel
theorem dL_law_229 : decode cL_law 229 = .ok (.aload_n 0, 1) := by decide +kernel
theorem dL_law_230 : decode cL_law 230 = .ok (.iload 4, 2) := by decide +kernel
theorem dL_law_232 : decode cL_law 232 = .ok (.iconst 1, 1) := by decide +kernel
theorem dL_law_233 : decode cL_law 233 = .ok (.iadd, 1) := by decide +kernel
theorem dL_law_234 : decode cL_law 234 = .ok (.iaload, 1) := by decide +kernel
theorem dL_law_235 : decode cL_law 235 = .ok (.aload_n 0, 1) := by decide +kernel
theorem dL_law_236 : decode cL_law 236 = .ok (.iload 4, 2) := by decide +kernel
theorem dL_law_238 : decode cL_law 238 = .ok (.iconst 2, 1) := by decide +kernel
theorem dL_law_239 : decode cL_law 239 = .ok (.iadd, 1) := by decide +kernel
theorem dL_law_240 : decode cL_law 240 = .ok (.iaload, 1) := by decide +kernel
theorem dL_law_241 : decode cL_law 241 = .ok (.aload_n 0, 1) := by decide +kernel
theorem dL_law_242 : decode cL_law 242 = .ok (.iload 4, 2) := by decide +kernel
theorem dL_law_244 : decode cL_law 244 = .ok (.iconst 3, 1) := by decide +kernel
theorem dL_law_245 : decode cL_law 245 = .ok (.iadd, 1) := by decide +kernel
theorem dL_law_246 : decode cL_law 246 = .ok (.iaload, 1) := by decide +kernel
theorem dL_law_247 : decode cL_law 247 = .ok (.aload_n 0, 1) := by decide +kernel
theorem dL_law_248 : decode cL_law 248 = .ok (.iload 4, 2) := by decide +kernel
theorem dL_law_250 : decode cL_law 250 = .ok (.iconst 4, 1) := by decide +kernel
theorem dL_law_251 : decode cL_law 251 = .ok (.iadd, 1) := by decide +kernel
theorem dL_law_252 : decode cL_law 252 = .ok (.iaload, 1) := by decide +kernel
theorem dL_law_253 : decode cL_law 253 = .ok (.aload_n 0, 1) := by decide +kernel
theorem dL_law_254 : decode cL_law 254 = .ok (.iload 4, 2) := by decide +kernel
theorem dL_law_256 : decode cL_law 256 = .ok (.iconst 5, 1) := by decide +kernel
theorem dL_law_257 : decode cL_law 257 = .ok (.iadd, 1) := by decide +kernel
theorem dL_law_258 : decode cL_law 258 = .ok (.iaload, 1) := by decide +kernel
theorem dL_law_259 : decode cL_law 259 = .ok (.invokevirtual 21, 3) := by decide +kernel
theorem dL_law_262 : decode cL_law 262 = .ok (.aload_n 2, 1) := by decide +kernel
theorem dL_law_263 : decode cL_law 263 = .ok (.aload_n 0, 1) := by decide +kernel
theorem dL_law_264 : decode cL_law 264 = .ok (.iload 4, 2) := by decide +kernel
theorem dL_law_266 : decode cL_law 266 = .ok (.iconst 1, 1) := by decide +kernel
theorem dL_law_267 : decode cL_law 267 = .ok (.iadd, 1) := by decide +kernel
theorem dL_law_268 : decode cL_law 268 = .ok (.iaload, 1) := by decide +kernel
theorem dL_law_269 : decode cL_law 269 = .ok (.aload_n 0, 1) := by decide +kernel
theorem dL_law_270 : decode cL_law 270 = .ok (.iload 4, 2) := by decide +kernel
theorem dL_law_272 : decode cL_law 272 = .ok (.iconst 2, 1) := by decide +kernel
theorem dL_law_273 : decode cL_law 273 = .ok (.iadd, 1) := by decide +kernel
theorem dL_law_274 : decode cL_law 274 = .ok (.iaload, 1) := by decide +kernel
theorem dL_law_275 : decode cL_law 275 = .ok (.aload_n 0, 1) := by decide +kernel
theorem dL_law_276 : decode cL_law 276 = .ok (.iload 4, 2) := by decide +kernel
theorem dL_law_278 : decode cL_law 278 = .ok (.iconst 3, 1) := by decide +kernel
theorem dL_law_279 : decode cL_law 279 = .ok (.iadd, 1) := by decide +kernel
theorem dL_law_280 : decode cL_law 280 = .ok (.iaload, 1) := by decide +kernel
theorem dL_law_281 : decode cL_law 281 = .ok (.aload_n 0, 1) := by decide +kernel
theorem dL_law_282 : decode cL_law 282 = .ok (.iload 4, 2) := by decide +kernel
theorem dL_law_284 : decode cL_law 284 = .ok (.iconst 4, 1) := by decide +kernel
theorem dL_law_285 : decode cL_law 285 = .ok (.iadd, 1) := by decide +kernel
theorem dL_law_286 : decode cL_law 286 = .ok (.iaload, 1) := by decide +kernel
theorem dL_law_287 : decode cL_law 287 = .ok (.aload_n 0, 1) := by decide +kernel
theorem dL_law_288 : decode cL_law 288 = .ok (.iload 4, 2) := by decide +kernel
theorem dL_law_290 : decode cL_law 290 = .ok (.iconst 5, 1) := by decide +kernel
theorem dL_law_291 : decode cL_law 291 = .ok (.iadd, 1) := by decide +kernel
theorem dL_law_292 : decode cL_law 292 = .ok (.iaload, 1) := by decide +kernel
theorem dL_law_293 : decode cL_law 293 = .ok (.invokevirtual 25, 3) := by decide +kernel
theorem dL_law_296 : decode cL_law 296 = .ok (.if_icmp .eq 1110, 3) := by decide +kernel
theorem dL_law_299 : decode cL_law 299 = .ok (.iconst 0, 1) := by decide +kernel
theorem dL_law_300 : decode cL_law 300 = .ok (.ireturn, 1) := by decide +kernel
theorem dL_law_301 : decode cL_law 301 = .ok (.aload_n 1, 1) := by decide +kernel
theorem dL_law_302 : decode cL_law 302 = .ok (.aload_n 0, 1) := by decide +kernel
theorem dL_law_303 : decode cL_law 303 = .ok (.iload 4, 2) := by decide +kernel
theorem dL_law_305 : decode cL_law 305 = .ok (.iconst 1, 1) := by decide +kernel
theorem dL_law_306 : decode cL_law 306 = .ok (.iadd, 1) := by decide +kernel
theorem dL_law_307 : decode cL_law 307 = .ok (.iaload, 1) := by decide +kernel
theorem dL_law_308 : decode cL_law 308 = .ok (.invokevirtual 26, 3) := by decide +kernel
theorem dL_law_311 : decode cL_law 311 = .ok (.aload_n 2, 1) := by decide +kernel
theorem dL_law_312 : decode cL_law 312 = .ok (.aload_n 0, 1) := by decide +kernel
theorem dL_law_313 : decode cL_law 313 = .ok (.iload 4, 2) := by decide +kernel
theorem dL_law_315 : decode cL_law 315 = .ok (.iconst 1, 1) := by decide +kernel
theorem dL_law_316 : decode cL_law 316 = .ok (.iadd, 1) := by decide +kernel
theorem dL_law_317 : decode cL_law 317 = .ok (.iaload, 1) := by decide +kernel
theorem dL_law_318 : decode cL_law 318 = .ok (.invokevirtual 30, 3) := by decide +kernel
theorem dL_law_321 : decode cL_law 321 = .ok (.if_icmp .eq 1085, 3) := by decide +kernel
theorem dL_law_324 : decode cL_law 324 = .ok (.iconst 0, 1) := by decide +kernel
theorem dL_law_325 : decode cL_law 325 = .ok (.ireturn, 1) := by decide +kernel
theorem dL_law_326 : decode cL_law 326 = .ok (.aload_n 1, 1) := by decide +kernel
theorem dL_law_327 : decode cL_law 327 = .ok (.aload_n 0, 1) := by decide +kernel
theorem dL_law_328 : decode cL_law 328 = .ok (.iload 4, 2) := by decide +kernel
theorem dL_law_330 : decode cL_law 330 = .ok (.iconst 1, 1) := by decide +kernel
theorem dL_law_331 : decode cL_law 331 = .ok (.iadd, 1) := by decide +kernel
theorem dL_law_332 : decode cL_law 332 = .ok (.iaload, 1) := by decide +kernel
theorem dL_law_333 : decode cL_law 333 = .ok (.invokevirtual 31, 3) := by decide +kernel
theorem dL_law_336 : decode cL_law 336 = .ok (.aload_n 2, 1) := by decide +kernel
theorem dL_law_337 : decode cL_law 337 = .ok (.aload_n 0, 1) := by decide +kernel
theorem dL_law_338 : decode cL_law 338 = .ok (.iload 4, 2) := by decide +kernel
theorem dL_law_340 : decode cL_law 340 = .ok (.iconst 1, 1) := by decide +kernel
theorem dL_law_341 : decode cL_law 341 = .ok (.iadd, 1) := by decide +kernel
theorem dL_law_342 : decode cL_law 342 = .ok (.iaload, 1) := by decide +kernel
theorem dL_law_343 : decode cL_law 343 = .ok (.invokevirtual 34, 3) := by decide +kernel
theorem dL_law_346 : decode cL_law 346 = .ok (.if_icmp .eq 1060, 3) := by decide +kernel
theorem dL_law_349 : decode cL_law 349 = .ok (.iconst 0, 1) := by decide +kernel
theorem dL_law_350 : decode cL_law 350 = .ok (.ireturn, 1) := by decide +kernel
theorem dL_law_351 : decode cL_law 351 = .ok (.aload_n 1, 1) := by decide +kernel
theorem dL_law_352 : decode cL_law 352 = .ok (.aload_n 0, 1) := by decide +kernel
theorem dL_law_353 : decode cL_law 353 = .ok (.iload 4, 2) := by decide +kernel
theorem dL_law_355 : decode cL_law 355 = .ok (.iconst 1, 1) := by decide +kernel
theorem dL_law_356 : decode cL_law 356 = .ok (.iadd, 1) := by decide +kernel
theorem dL_law_357 : decode cL_law 357 = .ok (.iaload, 1) := by decide +kernel
theorem dL_law_358 : decode cL_law 358 = .ok (.aload_n 0, 1) := by decide +kernel
theorem dL_law_359 : decode cL_law 359 = .ok (.iload 4, 2) := by decide +kernel
theorem dL_law_361 : decode cL_law 361 = .ok (.iconst 2, 1) := by decide +kernel
theorem dL_law_362 : decode cL_law 362 = .ok (.iadd, 1) := by decide +kernel
theorem dL_law_363 : decode cL_law 363 = .ok (.iaload, 1) := by decide +kernel
theorem dL_law_364 : decode cL_law 364 = .ok (.aload_n 3, 1) := by decide +kernel
theorem dL_law_365 : decode cL_law 365 = .ok (.invokestatic 35, 3) := by decide +kernel
theorem dL_law_368 : decode cL_law 368 = .ok (.istore 5, 2) := by decide +kernel
theorem dL_law_370 : decode cL_law 370 = .ok (.aload_n 2, 1) := by decide +kernel
theorem dL_law_371 : decode cL_law 371 = .ok (.aload_n 0, 1) := by decide +kernel
theorem dL_law_372 : decode cL_law 372 = .ok (.iload 4, 2) := by decide +kernel
theorem dL_law_374 : decode cL_law 374 = .ok (.iconst 1, 1) := by decide +kernel
theorem dL_law_375 : decode cL_law 375 = .ok (.iadd, 1) := by decide +kernel
theorem dL_law_376 : decode cL_law 376 = .ok (.iaload, 1) := by decide +kernel
theorem dL_law_377 : decode cL_law 377 = .ok (.aload_n 0, 1) := by decide +kernel
theorem dL_law_378 : decode cL_law 378 = .ok (.iload 4, 2) := by decide +kernel
theorem dL_law_380 : decode cL_law 380 = .ok (.iconst 2, 1) := by decide +kernel
theorem dL_law_381 : decode cL_law 381 = .ok (.iadd, 1) := by decide +kernel
theorem dL_law_382 : decode cL_law 382 = .ok (.iaload, 1) := by decide +kernel
theorem dL_law_383 : decode cL_law 383 = .ok (.invokevirtual 40, 3) := by decide +kernel
theorem dL_law_386 : decode cL_law 386 = .ok (.istore 6, 2) := by decide +kernel
theorem dL_law_388 : decode cL_law 388 = .ok (.aload_n 2, 1) := by decide +kernel
theorem dL_law_389 : decode cL_law 389 = .ok (.invokevirtual 41, 3) := by decide +kernel
theorem dL_law_392 : decode cL_law 392 = .ok (.iload 5, 2) := by decide +kernel
theorem dL_law_394 : decode cL_law 394 = .ok (.if_icmp .eq 5, 3) := by decide +kernel
theorem dL_law_397 : decode cL_law 397 = .ok (.iconst 0, 1) := by decide +kernel
theorem dL_law_398 : decode cL_law 398 = .ok (.ireturn, 1) := by decide +kernel
theorem dL_law_399 : decode cL_law 399 = .ok (.iload 5, 2) := by decide +kernel
theorem dL_law_401 : decode cL_law 401 = .ok (.ifCond .ne 15, 3) := by decide +kernel
theorem dL_law_404 : decode cL_law 404 = .ok (.aload_n 3, 1) := by decide +kernel
theorem dL_law_405 : decode cL_law 405 = .ok (.iconst 0, 1) := by decide +kernel
theorem dL_law_406 : decode cL_law 406 = .ok (.laload, 1) := by decide +kernel
theorem dL_law_407 : decode cL_law 407 = .ok (.iload 6, 2) := by decide +kernel
theorem dL_law_409 : decode cL_law 409 = .ok (.i2l, 1) := by decide +kernel
theorem dL_law_410 : decode cL_law 410 = .ok (.lcmp, 1) := by decide +kernel
theorem dL_law_411 : decode cL_law 411 = .ok (.ifCond .eq 5, 3) := by decide +kernel
theorem dL_law_414 : decode cL_law 414 = .ok (.iconst 0, 1) := by decide +kernel
theorem dL_law_415 : decode cL_law 415 = .ok (.ireturn, 1) := by decide +kernel
theorem dL_law_416 : decode cL_law 416 = .ok (.goto 990, 3) := by decide +kernel
theorem dL_law_419 : decode cL_law 419 = .ok (.aload_n 1, 1) := by decide +kernel
theorem dL_law_420 : decode cL_law 420 = .ok (.aload_n 0, 1) := by decide +kernel
theorem dL_law_421 : decode cL_law 421 = .ok (.iload 4, 2) := by decide +kernel
theorem dL_law_423 : decode cL_law 423 = .ok (.iconst 1, 1) := by decide +kernel
theorem dL_law_424 : decode cL_law 424 = .ok (.iadd, 1) := by decide +kernel
theorem dL_law_425 : decode cL_law 425 = .ok (.iaload, 1) := by decide +kernel
theorem dL_law_426 : decode cL_law 426 = .ok (.invokevirtual 45, 3) := by decide +kernel
theorem dL_law_429 : decode cL_law 429 = .ok (.aload_n 2, 1) := by decide +kernel
theorem dL_law_430 : decode cL_law 430 = .ok (.aload_n 0, 1) := by decide +kernel
theorem dL_law_431 : decode cL_law 431 = .ok (.iload 4, 2) := by decide +kernel
theorem dL_law_433 : decode cL_law 433 = .ok (.iconst 1, 1) := by decide +kernel
theorem dL_law_434 : decode cL_law 434 = .ok (.iadd, 1) := by decide +kernel
theorem dL_law_435 : decode cL_law 435 = .ok (.iaload, 1) := by decide +kernel
theorem dL_law_436 : decode cL_law 436 = .ok (.invokevirtual 48, 3) := by decide +kernel
theorem dL_law_439 : decode cL_law 439 = .ok (.if_icmp .eq 967, 3) := by decide +kernel
theorem dL_law_442 : decode cL_law 442 = .ok (.iconst 0, 1) := by decide +kernel
theorem dL_law_443 : decode cL_law 443 = .ok (.ireturn, 1) := by decide +kernel
theorem dL_law_444 : decode cL_law 444 = .ok (.aload_n 1, 1) := by decide +kernel
theorem dL_law_445 : decode cL_law 445 = .ok (.aload_n 0, 1) := by decide +kernel
theorem dL_law_446 : decode cL_law 446 = .ok (.iload 4, 2) := by decide +kernel
theorem dL_law_448 : decode cL_law 448 = .ok (.iconst 1, 1) := by decide +kernel
theorem dL_law_449 : decode cL_law 449 = .ok (.iadd, 1) := by decide +kernel
theorem dL_law_450 : decode cL_law 450 = .ok (.iaload, 1) := by decide +kernel
theorem dL_law_451 : decode cL_law 451 = .ok (.aload_n 0, 1) := by decide +kernel
theorem dL_law_452 : decode cL_law 452 = .ok (.iload 4, 2) := by decide +kernel
theorem dL_law_454 : decode cL_law 454 = .ok (.iconst 2, 1) := by decide +kernel
theorem dL_law_455 : decode cL_law 455 = .ok (.iadd, 1) := by decide +kernel
theorem dL_law_456 : decode cL_law 456 = .ok (.iaload, 1) := by decide +kernel
theorem dL_law_457 : decode cL_law 457 = .ok (.invokevirtual 49, 3) := by decide +kernel
theorem dL_law_460 : decode cL_law 460 = .ok (.aload_n 2, 1) := by decide +kernel
theorem dL_law_461 : decode cL_law 461 = .ok (.aload_n 0, 1) := by decide +kernel
theorem dL_law_462 : decode cL_law 462 = .ok (.iload 4, 2) := by decide +kernel
theorem dL_law_464 : decode cL_law 464 = .ok (.iconst 1, 1) := by decide +kernel
theorem dL_law_465 : decode cL_law 465 = .ok (.iadd, 1) := by decide +kernel
theorem dL_law_466 : decode cL_law 466 = .ok (.iaload, 1) := by decide +kernel
theorem dL_law_467 : decode cL_law 467 = .ok (.aload_n 0, 1) := by decide +kernel
theorem dL_law_468 : decode cL_law 468 = .ok (.iload 4, 2) := by decide +kernel
theorem dL_law_470 : decode cL_law 470 = .ok (.iconst 2, 1) := by decide +kernel
theorem dL_law_471 : decode cL_law 471 = .ok (.iadd, 1) := by decide +kernel
theorem dL_law_472 : decode cL_law 472 = .ok (.iaload, 1) := by decide +kernel
theorem dL_law_473 : decode cL_law 473 = .ok (.invokevirtual 52, 3) := by decide +kernel
theorem dL_law_476 : decode cL_law 476 = .ok (.if_icmp .eq 930, 3) := by decide +kernel
theorem dL_law_479 : decode cL_law 479 = .ok (.iconst 0, 1) := by decide +kernel
theorem dL_law_480 : decode cL_law 480 = .ok (.ireturn, 1) := by decide +kernel
theorem dL_law_481 : decode cL_law 481 = .ok (.aload_n 1, 1) := by decide +kernel
theorem dL_law_482 : decode cL_law 482 = .ok (.aload_n 0, 1) := by decide +kernel
theorem dL_law_483 : decode cL_law 483 = .ok (.iload 4, 2) := by decide +kernel
theorem dL_law_485 : decode cL_law 485 = .ok (.iconst 1, 1) := by decide +kernel
theorem dL_law_486 : decode cL_law 486 = .ok (.iadd, 1) := by decide +kernel
theorem dL_law_487 : decode cL_law 487 = .ok (.iaload, 1) := by decide +kernel
theorem dL_law_488 : decode cL_law 488 = .ok (.invokevirtual 53, 3) := by decide +kernel
theorem dL_law_491 : decode cL_law 491 = .ok (.aload_n 2, 1) := by decide +kernel
theorem dL_law_492 : decode cL_law 492 = .ok (.aload_n 0, 1) := by decide +kernel
theorem dL_law_493 : decode cL_law 493 = .ok (.iload 4, 2) := by decide +kernel
theorem dL_law_495 : decode cL_law 495 = .ok (.iconst 1, 1) := by decide +kernel
theorem dL_law_496 : decode cL_law 496 = .ok (.iadd, 1) := by decide +kernel
theorem dL_law_497 : decode cL_law 497 = .ok (.iaload, 1) := by decide +kernel
theorem dL_law_498 : decode cL_law 498 = .ok (.invokevirtual 56, 3) := by decide +kernel
theorem dL_law_501 : decode cL_law 501 = .ok (.if_icmp .eq 905, 3) := by decide +kernel
theorem dL_law_504 : decode cL_law 504 = .ok (.iconst 0, 1) := by decide +kernel
theorem dL_law_505 : decode cL_law 505 = .ok (.ireturn, 1) := by decide +kernel
theorem dL_law_506 : decode cL_law 506 = .ok (.aload_n 1, 1) := by decide +kernel
theorem dL_law_507 : decode cL_law 507 = .ok (.invokevirtual 57, 3) := by decide +kernel
theorem dL_law_510 : decode cL_law 510 = .ok (.aload_n 2, 1) := by decide +kernel
theorem dL_law_511 : decode cL_law 511 = .ok (.invokevirtual 61, 3) := by decide +kernel
theorem dL_law_514 : decode cL_law 514 = .ok (.if_icmp .eq 892, 3) := by decide +kernel
theorem dL_law_517 : decode cL_law 517 = .ok (.iconst 0, 1) := by decide +kernel
theorem dL_law_518 : decode cL_law 518 = .ok (.ireturn, 1) := by decide +kernel
theorem dL_law_519 : decode cL_law 519 = .ok (.aload_n 1, 1) := by decide +kernel
theorem dL_law_520 : decode cL_law 520 = .ok (.invokevirtual 62, 3) := by decide +kernel
theorem dL_law_523 : decode cL_law 523 = .ok (.aload_n 2, 1) := by decide +kernel
theorem dL_law_524 : decode cL_law 524 = .ok (.invokevirtual 65, 3) := by decide +kernel
theorem dL_law_527 : decode cL_law 527 = .ok (.if_icmp .eq 879, 3) := by decide +kernel
theorem dL_law_530 : decode cL_law 530 = .ok (.iconst 0, 1) := by decide +kernel
theorem dL_law_531 : decode cL_law 531 = .ok (.ireturn, 1) := by decide +kernel
theorem dL_law_532 : decode cL_law 532 = .ok (.aload_n 1, 1) := by decide +kernel
theorem dL_law_533 : decode cL_law 533 = .ok (.aload_n 0, 1) := by decide +kernel
theorem dL_law_534 : decode cL_law 534 = .ok (.iload 4, 2) := by decide +kernel
theorem dL_law_536 : decode cL_law 536 = .ok (.iconst 1, 1) := by decide +kernel
theorem dL_law_537 : decode cL_law 537 = .ok (.iadd, 1) := by decide +kernel
theorem dL_law_538 : decode cL_law 538 = .ok (.iaload, 1) := by decide +kernel
theorem dL_law_539 : decode cL_law 539 = .ok (.invokevirtual 66, 3) := by decide +kernel
theorem dL_law_542 : decode cL_law 542 = .ok (.aload_n 2, 1) := by decide +kernel
theorem dL_law_543 : decode cL_law 543 = .ok (.aload_n 0, 1) := by decide +kernel
theorem dL_law_544 : decode cL_law 544 = .ok (.iload 4, 2) := by decide +kernel
theorem dL_law_546 : decode cL_law 546 = .ok (.iconst 1, 1) := by decide +kernel
theorem dL_law_547 : decode cL_law 547 = .ok (.iadd, 1) := by decide +kernel
theorem dL_law_548 : decode cL_law 548 = .ok (.iaload, 1) := by decide +kernel
theorem dL_law_549 : decode cL_law 549 = .ok (.invokevirtual 69, 3) := by decide +kernel
theorem dL_law_552 : decode cL_law 552 = .ok (.if_icmp .eq 854, 3) := by decide +kernel
theorem dL_law_555 : decode cL_law 555 = .ok (.iconst 0, 1) := by decide +kernel
theorem dL_law_556 : decode cL_law 556 = .ok (.ireturn, 1) := by decide +kernel
theorem dL_law_557 : decode cL_law 557 = .ok (.aload_n 1, 1) := by decide +kernel
theorem dL_law_558 : decode cL_law 558 = .ok (.aload_n 0, 1) := by decide +kernel
theorem dL_law_559 : decode cL_law 559 = .ok (.iload 4, 2) := by decide +kernel
theorem dL_law_561 : decode cL_law 561 = .ok (.iconst 1, 1) := by decide +kernel
theorem dL_law_562 : decode cL_law 562 = .ok (.iadd, 1) := by decide +kernel
theorem dL_law_563 : decode cL_law 563 = .ok (.iaload, 1) := by decide +kernel
theorem dL_law_564 : decode cL_law 564 = .ok (.invokevirtual 70, 3) := by decide +kernel
theorem dL_law_567 : decode cL_law 567 = .ok (.aload_n 2, 1) := by decide +kernel
theorem dL_law_568 : decode cL_law 568 = .ok (.aload_n 0, 1) := by decide +kernel
theorem dL_law_569 : decode cL_law 569 = .ok (.iload 4, 2) := by decide +kernel
theorem dL_law_571 : decode cL_law 571 = .ok (.iconst 1, 1) := by decide +kernel
theorem dL_law_572 : decode cL_law 572 = .ok (.iadd, 1) := by decide +kernel
theorem dL_law_573 : decode cL_law 573 = .ok (.iaload, 1) := by decide +kernel
theorem dL_law_574 : decode cL_law 574 = .ok (.invokevirtual 73, 3) := by decide +kernel
theorem dL_law_577 : decode cL_law 577 = .ok (.if_icmp .eq 829, 3) := by decide +kernel
theorem dL_law_580 : decode cL_law 580 = .ok (.iconst 0, 1) := by decide +kernel
theorem dL_law_581 : decode cL_law 581 = .ok (.ireturn, 1) := by decide +kernel
theorem dL_law_582 : decode cL_law 582 = .ok (.aload_n 1, 1) := by decide +kernel
theorem dL_law_583 : decode cL_law 583 = .ok (.aload_n 0, 1) := by decide +kernel
theorem dL_law_584 : decode cL_law 584 = .ok (.iload 4, 2) := by decide +kernel
theorem dL_law_586 : decode cL_law 586 = .ok (.iconst 1, 1) := by decide +kernel
theorem dL_law_587 : decode cL_law 587 = .ok (.iadd, 1) := by decide +kernel
theorem dL_law_588 : decode cL_law 588 = .ok (.iaload, 1) := by decide +kernel
theorem dL_law_589 : decode cL_law 589 = .ok (.invokevirtual 74, 3) := by decide +kernel
theorem dL_law_592 : decode cL_law 592 = .ok (.aload_n 2, 1) := by decide +kernel
theorem dL_law_593 : decode cL_law 593 = .ok (.aload_n 0, 1) := by decide +kernel
theorem dL_law_594 : decode cL_law 594 = .ok (.iload 4, 2) := by decide +kernel
theorem dL_law_596 : decode cL_law 596 = .ok (.iconst 1, 1) := by decide +kernel
theorem dL_law_597 : decode cL_law 597 = .ok (.iadd, 1) := by decide +kernel
theorem dL_law_598 : decode cL_law 598 = .ok (.iaload, 1) := by decide +kernel
theorem dL_law_599 : decode cL_law 599 = .ok (.invokevirtual 77, 3) := by decide +kernel
theorem dL_law_602 : decode cL_law 602 = .ok (.if_icmp .eq 804, 3) := by decide +kernel
theorem dL_law_605 : decode cL_law 605 = .ok (.iconst 0, 1) := by decide +kernel
theorem dL_law_606 : decode cL_law 606 = .ok (.ireturn, 1) := by decide +kernel
theorem dL_law_607 : decode cL_law 607 = .ok (.aload_n 1, 1) := by decide +kernel
theorem dL_law_608 : decode cL_law 608 = .ok (.invokevirtual 78, 3) := by decide +kernel
theorem dL_law_611 : decode cL_law 611 = .ok (.aload_n 2, 1) := by decide +kernel
theorem dL_law_612 : decode cL_law 612 = .ok (.invokevirtual 81, 3) := by decide +kernel
theorem dL_law_615 : decode cL_law 615 = .ok (.if_icmp .eq 791, 3) := by decide +kernel
theorem dL_law_618 : decode cL_law 618 = .ok (.iconst 0, 1) := by decide +kernel
theorem dL_law_619 : decode cL_law 619 = .ok (.ireturn, 1) := by decide +kernel
theorem dL_law_620 : decode cL_law 620 = .ok (.aload_n 1, 1) := by decide +kernel
theorem dL_law_621 : decode cL_law 621 = .ok (.aload_n 0, 1) := by decide +kernel
theorem dL_law_622 : decode cL_law 622 = .ok (.iload 4, 2) := by decide +kernel
theorem dL_law_624 : decode cL_law 624 = .ok (.iconst 1, 1) := by decide +kernel
theorem dL_law_625 : decode cL_law 625 = .ok (.iadd, 1) := by decide +kernel
theorem dL_law_626 : decode cL_law 626 = .ok (.iaload, 1) := by decide +kernel
theorem dL_law_627 : decode cL_law 627 = .ok (.aload_n 0, 1) := by decide +kernel
theorem dL_law_628 : decode cL_law 628 = .ok (.iload 4, 2) := by decide +kernel
theorem dL_law_630 : decode cL_law 630 = .ok (.iconst 2, 1) := by decide +kernel
theorem dL_law_631 : decode cL_law 631 = .ok (.iadd, 1) := by decide +kernel
theorem dL_law_632 : decode cL_law 632 = .ok (.iaload, 1) := by decide +kernel
theorem dL_law_633 : decode cL_law 633 = .ok (.invokevirtual 82, 3) := by decide +kernel
theorem dL_law_636 : decode cL_law 636 = .ok (.aload_n 2, 1) := by decide +kernel
theorem dL_law_637 : decode cL_law 637 = .ok (.aload_n 0, 1) := by decide +kernel
theorem dL_law_638 : decode cL_law 638 = .ok (.iload 4, 2) := by decide +kernel
theorem dL_law_640 : decode cL_law 640 = .ok (.iconst 1, 1) := by decide +kernel
theorem dL_law_641 : decode cL_law 641 = .ok (.iadd, 1) := by decide +kernel
theorem dL_law_642 : decode cL_law 642 = .ok (.iaload, 1) := by decide +kernel
theorem dL_law_643 : decode cL_law 643 = .ok (.aload_n 0, 1) := by decide +kernel
theorem dL_law_644 : decode cL_law 644 = .ok (.iload 4, 2) := by decide +kernel
theorem dL_law_646 : decode cL_law 646 = .ok (.iconst 2, 1) := by decide +kernel
theorem dL_law_647 : decode cL_law 647 = .ok (.iadd, 1) := by decide +kernel
theorem dL_law_648 : decode cL_law 648 = .ok (.iaload, 1) := by decide +kernel
theorem dL_law_649 : decode cL_law 649 = .ok (.invokevirtual 85, 3) := by decide +kernel
theorem dL_law_652 : decode cL_law 652 = .ok (.if_icmp .eq 754, 3) := by decide +kernel
theorem dL_law_655 : decode cL_law 655 = .ok (.iconst 0, 1) := by decide +kernel
theorem dL_law_656 : decode cL_law 656 = .ok (.ireturn, 1) := by decide +kernel
theorem dL_law_657 : decode cL_law 657 = .ok (.aload_n 1, 1) := by decide +kernel
theorem dL_law_658 : decode cL_law 658 = .ok (.aload_n 0, 1) := by decide +kernel
theorem dL_law_659 : decode cL_law 659 = .ok (.iload 4, 2) := by decide +kernel
theorem dL_law_661 : decode cL_law 661 = .ok (.iconst 1, 1) := by decide +kernel
theorem dL_law_662 : decode cL_law 662 = .ok (.iadd, 1) := by decide +kernel
theorem dL_law_663 : decode cL_law 663 = .ok (.iaload, 1) := by decide +kernel
theorem dL_law_664 : decode cL_law 664 = .ok (.invokevirtual 86, 3) := by decide +kernel
theorem dL_law_667 : decode cL_law 667 = .ok (.aload_n 2, 1) := by decide +kernel
theorem dL_law_668 : decode cL_law 668 = .ok (.aload_n 0, 1) := by decide +kernel
theorem dL_law_669 : decode cL_law 669 = .ok (.iload 4, 2) := by decide +kernel
theorem dL_law_671 : decode cL_law 671 = .ok (.iconst 1, 1) := by decide +kernel
theorem dL_law_672 : decode cL_law 672 = .ok (.iadd, 1) := by decide +kernel
theorem dL_law_673 : decode cL_law 673 = .ok (.iaload, 1) := by decide +kernel
theorem dL_law_674 : decode cL_law 674 = .ok (.invokevirtual 89, 3) := by decide +kernel
theorem dL_law_677 : decode cL_law 677 = .ok (.if_icmp .eq 729, 3) := by decide +kernel
theorem dL_law_680 : decode cL_law 680 = .ok (.iconst 0, 1) := by decide +kernel
theorem dL_law_681 : decode cL_law 681 = .ok (.ireturn, 1) := by decide +kernel
theorem dL_law_682 : decode cL_law 682 = .ok (.aload_n 1, 1) := by decide +kernel
theorem dL_law_683 : decode cL_law 683 = .ok (.aload_n 0, 1) := by decide +kernel
theorem dL_law_684 : decode cL_law 684 = .ok (.iload 4, 2) := by decide +kernel
theorem dL_law_686 : decode cL_law 686 = .ok (.iconst 1, 1) := by decide +kernel
theorem dL_law_687 : decode cL_law 687 = .ok (.iadd, 1) := by decide +kernel
theorem dL_law_688 : decode cL_law 688 = .ok (.iaload, 1) := by decide +kernel
theorem dL_law_689 : decode cL_law 689 = .ok (.invokevirtual 90, 3) := by decide +kernel
theorem dL_law_692 : decode cL_law 692 = .ok (.aload_n 2, 1) := by decide +kernel
theorem dL_law_693 : decode cL_law 693 = .ok (.aload_n 0, 1) := by decide +kernel
theorem dL_law_694 : decode cL_law 694 = .ok (.iload 4, 2) := by decide +kernel
theorem dL_law_696 : decode cL_law 696 = .ok (.iconst 1, 1) := by decide +kernel
theorem dL_law_697 : decode cL_law 697 = .ok (.iadd, 1) := by decide +kernel
theorem dL_law_698 : decode cL_law 698 = .ok (.iaload, 1) := by decide +kernel
theorem dL_law_699 : decode cL_law 699 = .ok (.invokevirtual 93, 3) := by decide +kernel
theorem dL_law_702 : decode cL_law 702 = .ok (.if_icmp .eq 704, 3) := by decide +kernel
theorem dL_law_705 : decode cL_law 705 = .ok (.iconst 0, 1) := by decide +kernel
theorem dL_law_706 : decode cL_law 706 = .ok (.ireturn, 1) := by decide +kernel
theorem dL_law_707 : decode cL_law 707 = .ok (.aload_n 1, 1) := by decide +kernel
theorem dL_law_708 : decode cL_law 708 = .ok (.aload_n 0, 1) := by decide +kernel
theorem dL_law_709 : decode cL_law 709 = .ok (.iload 4, 2) := by decide +kernel
theorem dL_law_711 : decode cL_law 711 = .ok (.iconst 1, 1) := by decide +kernel
theorem dL_law_712 : decode cL_law 712 = .ok (.iadd, 1) := by decide +kernel
theorem dL_law_713 : decode cL_law 713 = .ok (.iaload, 1) := by decide +kernel
theorem dL_law_714 : decode cL_law 714 = .ok (.invokevirtual 94, 3) := by decide +kernel
theorem dL_law_717 : decode cL_law 717 = .ok (.aload_n 2, 1) := by decide +kernel
theorem dL_law_718 : decode cL_law 718 = .ok (.aload_n 0, 1) := by decide +kernel
theorem dL_law_719 : decode cL_law 719 = .ok (.iload 4, 2) := by decide +kernel
theorem dL_law_721 : decode cL_law 721 = .ok (.iconst 1, 1) := by decide +kernel
theorem dL_law_722 : decode cL_law 722 = .ok (.iadd, 1) := by decide +kernel
theorem dL_law_723 : decode cL_law 723 = .ok (.iaload, 1) := by decide +kernel
theorem dL_law_724 : decode cL_law 724 = .ok (.invokevirtual 97, 3) := by decide +kernel
theorem dL_law_727 : decode cL_law 727 = .ok (.if_icmp .eq 679, 3) := by decide +kernel
theorem dL_law_730 : decode cL_law 730 = .ok (.iconst 0, 1) := by decide +kernel
theorem dL_law_731 : decode cL_law 731 = .ok (.ireturn, 1) := by decide +kernel
theorem dL_law_732 : decode cL_law 732 = .ok (.aload_n 1, 1) := by decide +kernel
theorem dL_law_733 : decode cL_law 733 = .ok (.aload_n 0, 1) := by decide +kernel
theorem dL_law_734 : decode cL_law 734 = .ok (.iload 4, 2) := by decide +kernel
theorem dL_law_736 : decode cL_law 736 = .ok (.iconst 1, 1) := by decide +kernel
theorem dL_law_737 : decode cL_law 737 = .ok (.iadd, 1) := by decide +kernel
theorem dL_law_738 : decode cL_law 738 = .ok (.iaload, 1) := by decide +kernel
theorem dL_law_739 : decode cL_law 739 = .ok (.invokevirtual 98, 3) := by decide +kernel
theorem dL_law_742 : decode cL_law 742 = .ok (.aload_n 2, 1) := by decide +kernel
theorem dL_law_743 : decode cL_law 743 = .ok (.aload_n 0, 1) := by decide +kernel
theorem dL_law_744 : decode cL_law 744 = .ok (.iload 4, 2) := by decide +kernel
theorem dL_law_746 : decode cL_law 746 = .ok (.iconst 1, 1) := by decide +kernel
theorem dL_law_747 : decode cL_law 747 = .ok (.iadd, 1) := by decide +kernel
theorem dL_law_748 : decode cL_law 748 = .ok (.iaload, 1) := by decide +kernel
theorem dL_law_749 : decode cL_law 749 = .ok (.invokevirtual 101, 3) := by decide +kernel
theorem dL_law_752 : decode cL_law 752 = .ok (.if_icmp .eq 654, 3) := by decide +kernel
theorem dL_law_755 : decode cL_law 755 = .ok (.iconst 0, 1) := by decide +kernel
theorem dL_law_756 : decode cL_law 756 = .ok (.ireturn, 1) := by decide +kernel
theorem dL_law_757 : decode cL_law 757 = .ok (.aload_n 1, 1) := by decide +kernel
theorem dL_law_758 : decode cL_law 758 = .ok (.aload_n 0, 1) := by decide +kernel
theorem dL_law_759 : decode cL_law 759 = .ok (.iload 4, 2) := by decide +kernel
theorem dL_law_761 : decode cL_law 761 = .ok (.iconst 1, 1) := by decide +kernel
theorem dL_law_762 : decode cL_law 762 = .ok (.iadd, 1) := by decide +kernel
theorem dL_law_763 : decode cL_law 763 = .ok (.iaload, 1) := by decide +kernel
theorem dL_law_764 : decode cL_law 764 = .ok (.invokevirtual 102, 3) := by decide +kernel
theorem dL_law_767 : decode cL_law 767 = .ok (.aload_n 2, 1) := by decide +kernel
theorem dL_law_768 : decode cL_law 768 = .ok (.aload_n 0, 1) := by decide +kernel
theorem dL_law_769 : decode cL_law 769 = .ok (.iload 4, 2) := by decide +kernel
theorem dL_law_771 : decode cL_law 771 = .ok (.iconst 1, 1) := by decide +kernel
theorem dL_law_772 : decode cL_law 772 = .ok (.iadd, 1) := by decide +kernel
theorem dL_law_773 : decode cL_law 773 = .ok (.iaload, 1) := by decide +kernel
theorem dL_law_774 : decode cL_law 774 = .ok (.invokevirtual 105, 3) := by decide +kernel
theorem dL_law_777 : decode cL_law 777 = .ok (.if_icmp .eq 629, 3) := by decide +kernel
theorem dL_law_780 : decode cL_law 780 = .ok (.iconst 0, 1) := by decide +kernel
theorem dL_law_781 : decode cL_law 781 = .ok (.ireturn, 1) := by decide +kernel
theorem dL_law_782 : decode cL_law 782 = .ok (.aload_n 1, 1) := by decide +kernel
theorem dL_law_783 : decode cL_law 783 = .ok (.aload_n 0, 1) := by decide +kernel
theorem dL_law_784 : decode cL_law 784 = .ok (.iload 4, 2) := by decide +kernel
theorem dL_law_786 : decode cL_law 786 = .ok (.iconst 1, 1) := by decide +kernel
theorem dL_law_787 : decode cL_law 787 = .ok (.iadd, 1) := by decide +kernel
theorem dL_law_788 : decode cL_law 788 = .ok (.iaload, 1) := by decide +kernel
theorem dL_law_789 : decode cL_law 789 = .ok (.invokevirtual 106, 3) := by decide +kernel
theorem dL_law_792 : decode cL_law 792 = .ok (.aload_n 2, 1) := by decide +kernel
theorem dL_law_793 : decode cL_law 793 = .ok (.aload_n 0, 1) := by decide +kernel
theorem dL_law_794 : decode cL_law 794 = .ok (.iload 4, 2) := by decide +kernel
theorem dL_law_796 : decode cL_law 796 = .ok (.iconst 1, 1) := by decide +kernel
theorem dL_law_797 : decode cL_law 797 = .ok (.iadd, 1) := by decide +kernel
theorem dL_law_798 : decode cL_law 798 = .ok (.iaload, 1) := by decide +kernel
theorem dL_law_799 : decode cL_law 799 = .ok (.invokevirtual 109, 3) := by decide +kernel
theorem dL_law_802 : decode cL_law 802 = .ok (.if_icmp .eq 604, 3) := by decide +kernel
theorem dL_law_805 : decode cL_law 805 = .ok (.iconst 0, 1) := by decide +kernel
theorem dL_law_806 : decode cL_law 806 = .ok (.ireturn, 1) := by decide +kernel
theorem dL_law_807 : decode cL_law 807 = .ok (.aload_n 1, 1) := by decide +kernel
theorem dL_law_808 : decode cL_law 808 = .ok (.aload_n 0, 1) := by decide +kernel
theorem dL_law_809 : decode cL_law 809 = .ok (.iload 4, 2) := by decide +kernel
theorem dL_law_811 : decode cL_law 811 = .ok (.iconst 1, 1) := by decide +kernel
theorem dL_law_812 : decode cL_law 812 = .ok (.iadd, 1) := by decide +kernel
theorem dL_law_813 : decode cL_law 813 = .ok (.iaload, 1) := by decide +kernel
theorem dL_law_814 : decode cL_law 814 = .ok (.invokevirtual 110, 3) := by decide +kernel
theorem dL_law_817 : decode cL_law 817 = .ok (.aload_n 2, 1) := by decide +kernel
theorem dL_law_818 : decode cL_law 818 = .ok (.aload_n 0, 1) := by decide +kernel
theorem dL_law_819 : decode cL_law 819 = .ok (.iload 4, 2) := by decide +kernel
theorem dL_law_821 : decode cL_law 821 = .ok (.iconst 1, 1) := by decide +kernel
theorem dL_law_822 : decode cL_law 822 = .ok (.iadd, 1) := by decide +kernel
theorem dL_law_823 : decode cL_law 823 = .ok (.iaload, 1) := by decide +kernel
theorem dL_law_824 : decode cL_law 824 = .ok (.invokevirtual 113, 3) := by decide +kernel
theorem dL_law_827 : decode cL_law 827 = .ok (.if_icmp .eq 579, 3) := by decide +kernel
theorem dL_law_830 : decode cL_law 830 = .ok (.iconst 0, 1) := by decide +kernel
theorem dL_law_831 : decode cL_law 831 = .ok (.ireturn, 1) := by decide +kernel
theorem dL_law_832 : decode cL_law 832 = .ok (.aload_n 1, 1) := by decide +kernel
theorem dL_law_833 : decode cL_law 833 = .ok (.aload_n 0, 1) := by decide +kernel
theorem dL_law_834 : decode cL_law 834 = .ok (.iload 4, 2) := by decide +kernel
theorem dL_law_836 : decode cL_law 836 = .ok (.iconst 1, 1) := by decide +kernel
theorem dL_law_837 : decode cL_law 837 = .ok (.iadd, 1) := by decide +kernel
theorem dL_law_838 : decode cL_law 838 = .ok (.iaload, 1) := by decide +kernel
theorem dL_law_839 : decode cL_law 839 = .ok (.invokevirtual 114, 3) := by decide +kernel
theorem dL_law_842 : decode cL_law 842 = .ok (.aload_n 2, 1) := by decide +kernel
theorem dL_law_843 : decode cL_law 843 = .ok (.aload_n 0, 1) := by decide +kernel
theorem dL_law_844 : decode cL_law 844 = .ok (.iload 4, 2) := by decide +kernel
theorem dL_law_846 : decode cL_law 846 = .ok (.iconst 1, 1) := by decide +kernel
theorem dL_law_847 : decode cL_law 847 = .ok (.iadd, 1) := by decide +kernel
theorem dL_law_848 : decode cL_law 848 = .ok (.iaload, 1) := by decide +kernel
theorem dL_law_849 : decode cL_law 849 = .ok (.invokevirtual 117, 3) := by decide +kernel
theorem dL_law_852 : decode cL_law 852 = .ok (.if_icmp .eq 554, 3) := by decide +kernel
theorem dL_law_855 : decode cL_law 855 = .ok (.iconst 0, 1) := by decide +kernel
theorem dL_law_856 : decode cL_law 856 = .ok (.ireturn, 1) := by decide +kernel
theorem dL_law_857 : decode cL_law 857 = .ok (.aload_n 1, 1) := by decide +kernel
theorem dL_law_858 : decode cL_law 858 = .ok (.aload_n 0, 1) := by decide +kernel
theorem dL_law_859 : decode cL_law 859 = .ok (.iload 4, 2) := by decide +kernel
theorem dL_law_861 : decode cL_law 861 = .ok (.iconst 1, 1) := by decide +kernel
theorem dL_law_862 : decode cL_law 862 = .ok (.iadd, 1) := by decide +kernel
theorem dL_law_863 : decode cL_law 863 = .ok (.iaload, 1) := by decide +kernel
theorem dL_law_864 : decode cL_law 864 = .ok (.invokevirtual 118, 3) := by decide +kernel
theorem dL_law_867 : decode cL_law 867 = .ok (.aload_n 2, 1) := by decide +kernel
theorem dL_law_868 : decode cL_law 868 = .ok (.aload_n 0, 1) := by decide +kernel
theorem dL_law_869 : decode cL_law 869 = .ok (.iload 4, 2) := by decide +kernel
theorem dL_law_871 : decode cL_law 871 = .ok (.iconst 1, 1) := by decide +kernel
theorem dL_law_872 : decode cL_law 872 = .ok (.iadd, 1) := by decide +kernel
theorem dL_law_873 : decode cL_law 873 = .ok (.iaload, 1) := by decide +kernel
theorem dL_law_874 : decode cL_law 874 = .ok (.invokevirtual 121, 3) := by decide +kernel
theorem dL_law_877 : decode cL_law 877 = .ok (.if_icmp .eq 529, 3) := by decide +kernel
theorem dL_law_880 : decode cL_law 880 = .ok (.iconst 0, 1) := by decide +kernel
theorem dL_law_881 : decode cL_law 881 = .ok (.ireturn, 1) := by decide +kernel
theorem dL_law_882 : decode cL_law 882 = .ok (.aload_n 1, 1) := by decide +kernel
theorem dL_law_883 : decode cL_law 883 = .ok (.aload_n 0, 1) := by decide +kernel
theorem dL_law_884 : decode cL_law 884 = .ok (.iload 4, 2) := by decide +kernel
theorem dL_law_886 : decode cL_law 886 = .ok (.iconst 1, 1) := by decide +kernel
theorem dL_law_887 : decode cL_law 887 = .ok (.iadd, 1) := by decide +kernel
theorem dL_law_888 : decode cL_law 888 = .ok (.iaload, 1) := by decide +kernel
theorem dL_law_889 : decode cL_law 889 = .ok (.invokevirtual 122, 3) := by decide +kernel
theorem dL_law_892 : decode cL_law 892 = .ok (.aload_n 2, 1) := by decide +kernel
theorem dL_law_893 : decode cL_law 893 = .ok (.aload_n 0, 1) := by decide +kernel
theorem dL_law_894 : decode cL_law 894 = .ok (.iload 4, 2) := by decide +kernel
theorem dL_law_896 : decode cL_law 896 = .ok (.iconst 1, 1) := by decide +kernel
theorem dL_law_897 : decode cL_law 897 = .ok (.iadd, 1) := by decide +kernel
theorem dL_law_898 : decode cL_law 898 = .ok (.iaload, 1) := by decide +kernel
theorem dL_law_899 : decode cL_law 899 = .ok (.invokevirtual 125, 3) := by decide +kernel
theorem dL_law_902 : decode cL_law 902 = .ok (.if_icmp .eq 504, 3) := by decide +kernel
theorem dL_law_905 : decode cL_law 905 = .ok (.iconst 0, 1) := by decide +kernel
theorem dL_law_906 : decode cL_law 906 = .ok (.ireturn, 1) := by decide +kernel
theorem dL_law_907 : decode cL_law 907 = .ok (.aload_n 1, 1) := by decide +kernel
theorem dL_law_908 : decode cL_law 908 = .ok (.invokevirtual 126, 3) := by decide +kernel
theorem dL_law_911 : decode cL_law 911 = .ok (.aload_n 2, 1) := by decide +kernel
theorem dL_law_912 : decode cL_law 912 = .ok (.invokevirtual 129, 3) := by decide +kernel
theorem dL_law_915 : decode cL_law 915 = .ok (.if_icmp .eq 491, 3) := by decide +kernel
theorem dL_law_918 : decode cL_law 918 = .ok (.iconst 0, 1) := by decide +kernel
theorem dL_law_919 : decode cL_law 919 = .ok (.ireturn, 1) := by decide +kernel
theorem dL_law_920 : decode cL_law 920 = .ok (.aload_n 1, 1) := by decide +kernel
theorem dL_law_921 : decode cL_law 921 = .ok (.aload_n 0, 1) := by decide +kernel
theorem dL_law_922 : decode cL_law 922 = .ok (.iload 4, 2) := by decide +kernel
theorem dL_law_924 : decode cL_law 924 = .ok (.iconst 1, 1) := by decide +kernel
theorem dL_law_925 : decode cL_law 925 = .ok (.iadd, 1) := by decide +kernel
theorem dL_law_926 : decode cL_law 926 = .ok (.iaload, 1) := by decide +kernel
theorem dL_law_927 : decode cL_law 927 = .ok (.invokevirtual 130, 3) := by decide +kernel
theorem dL_law_930 : decode cL_law 930 = .ok (.aload_n 2, 1) := by decide +kernel
theorem dL_law_931 : decode cL_law 931 = .ok (.aload_n 0, 1) := by decide +kernel
theorem dL_law_932 : decode cL_law 932 = .ok (.iload 4, 2) := by decide +kernel
theorem dL_law_934 : decode cL_law 934 = .ok (.iconst 1, 1) := by decide +kernel
theorem dL_law_935 : decode cL_law 935 = .ok (.iadd, 1) := by decide +kernel
theorem dL_law_936 : decode cL_law 936 = .ok (.iaload, 1) := by decide +kernel
theorem dL_law_937 : decode cL_law 937 = .ok (.invokevirtual 133, 3) := by decide +kernel
theorem dL_law_940 : decode cL_law 940 = .ok (.if_icmp .eq 466, 3) := by decide +kernel
theorem dL_law_943 : decode cL_law 943 = .ok (.iconst 0, 1) := by decide +kernel
theorem dL_law_944 : decode cL_law 944 = .ok (.ireturn, 1) := by decide +kernel
theorem dL_law_945 : decode cL_law 945 = .ok (.aload_n 1, 1) := by decide +kernel
theorem dL_law_946 : decode cL_law 946 = .ok (.aload_n 0, 1) := by decide +kernel
theorem dL_law_947 : decode cL_law 947 = .ok (.iload 4, 2) := by decide +kernel
theorem dL_law_949 : decode cL_law 949 = .ok (.iconst 1, 1) := by decide +kernel
theorem dL_law_950 : decode cL_law 950 = .ok (.iadd, 1) := by decide +kernel
theorem dL_law_951 : decode cL_law 951 = .ok (.iaload, 1) := by decide +kernel
theorem dL_law_952 : decode cL_law 952 = .ok (.invokevirtual 134, 3) := by decide +kernel
theorem dL_law_955 : decode cL_law 955 = .ok (.aload_n 2, 1) := by decide +kernel
theorem dL_law_956 : decode cL_law 956 = .ok (.aload_n 0, 1) := by decide +kernel
theorem dL_law_957 : decode cL_law 957 = .ok (.iload 4, 2) := by decide +kernel
theorem dL_law_959 : decode cL_law 959 = .ok (.iconst 1, 1) := by decide +kernel
theorem dL_law_960 : decode cL_law 960 = .ok (.iadd, 1) := by decide +kernel
theorem dL_law_961 : decode cL_law 961 = .ok (.iaload, 1) := by decide +kernel
theorem dL_law_962 : decode cL_law 962 = .ok (.invokevirtual 137, 3) := by decide +kernel
theorem dL_law_965 : decode cL_law 965 = .ok (.if_icmp .eq 441, 3) := by decide +kernel
theorem dL_law_968 : decode cL_law 968 = .ok (.iconst 0, 1) := by decide +kernel
theorem dL_law_969 : decode cL_law 969 = .ok (.ireturn, 1) := by decide +kernel
theorem dL_law_970 : decode cL_law 970 = .ok (.aload_n 1, 1) := by decide +kernel
theorem dL_law_971 : decode cL_law 971 = .ok (.aload_n 0, 1) := by decide +kernel
theorem dL_law_972 : decode cL_law 972 = .ok (.iload 4, 2) := by decide +kernel
theorem dL_law_974 : decode cL_law 974 = .ok (.iconst 1, 1) := by decide +kernel
theorem dL_law_975 : decode cL_law 975 = .ok (.iadd, 1) := by decide +kernel
theorem dL_law_976 : decode cL_law 976 = .ok (.iaload, 1) := by decide +kernel
theorem dL_law_977 : decode cL_law 977 = .ok (.aload_n 0, 1) := by decide +kernel
theorem dL_law_978 : decode cL_law 978 = .ok (.iload 4, 2) := by decide +kernel
theorem dL_law_980 : decode cL_law 980 = .ok (.iconst 2, 1) := by decide +kernel
theorem dL_law_981 : decode cL_law 981 = .ok (.iadd, 1) := by decide +kernel
theorem dL_law_982 : decode cL_law 982 = .ok (.iaload, 1) := by decide +kernel
theorem dL_law_983 : decode cL_law 983 = .ok (.invokevirtual 138, 3) := by decide +kernel
theorem dL_law_986 : decode cL_law 986 = .ok (.aload_n 2, 1) := by decide +kernel
theorem dL_law_987 : decode cL_law 987 = .ok (.aload_n 0, 1) := by decide +kernel
theorem dL_law_988 : decode cL_law 988 = .ok (.iload 4, 2) := by decide +kernel
theorem dL_law_990 : decode cL_law 990 = .ok (.iconst 1, 1) := by decide +kernel
theorem dL_law_991 : decode cL_law 991 = .ok (.iadd, 1) := by decide +kernel
theorem dL_law_992 : decode cL_law 992 = .ok (.iaload, 1) := by decide +kernel
theorem dL_law_993 : decode cL_law 993 = .ok (.aload_n 0, 1) := by decide +kernel
theorem dL_law_994 : decode cL_law 994 = .ok (.iload 4, 2) := by decide +kernel
theorem dL_law_996 : decode cL_law 996 = .ok (.iconst 2, 1) := by decide +kernel
theorem dL_law_997 : decode cL_law 997 = .ok (.iadd, 1) := by decide +kernel
theorem dL_law_998 : decode cL_law 998 = .ok (.iaload, 1) := by decide +kernel
theorem dL_law_999 : decode cL_law 999 = .ok (.invokevirtual 141, 3) := by decide +kernel
theorem dL_law_1002 : decode cL_law 1002 = .ok (.if_icmp .eq 404, 3) := by decide +kernel
theorem dL_law_1005 : decode cL_law 1005 = .ok (.iconst 0, 1) := by decide +kernel
theorem dL_law_1006 : decode cL_law 1006 = .ok (.ireturn, 1) := by decide +kernel
theorem dL_law_1007 : decode cL_law 1007 = .ok (.aload_n 1, 1) := by decide +kernel
theorem dL_law_1008 : decode cL_law 1008 = .ok (.aload_n 0, 1) := by decide +kernel
theorem dL_law_1009 : decode cL_law 1009 = .ok (.iload 4, 2) := by decide +kernel
theorem dL_law_1011 : decode cL_law 1011 = .ok (.iconst 1, 1) := by decide +kernel
theorem dL_law_1012 : decode cL_law 1012 = .ok (.iadd, 1) := by decide +kernel
theorem dL_law_1013 : decode cL_law 1013 = .ok (.iaload, 1) := by decide +kernel
theorem dL_law_1014 : decode cL_law 1014 = .ok (.aload_n 0, 1) := by decide +kernel
theorem dL_law_1015 : decode cL_law 1015 = .ok (.iload 4, 2) := by decide +kernel
theorem dL_law_1017 : decode cL_law 1017 = .ok (.iconst 2, 1) := by decide +kernel
theorem dL_law_1018 : decode cL_law 1018 = .ok (.iadd, 1) := by decide +kernel
theorem dL_law_1019 : decode cL_law 1019 = .ok (.iaload, 1) := by decide +kernel
theorem dL_law_1020 : decode cL_law 1020 = .ok (.invokevirtual 142, 3) := by decide +kernel
theorem dL_law_1023 : decode cL_law 1023 = .ok (.aload_n 2, 1) := by decide +kernel
theorem dL_law_1024 : decode cL_law 1024 = .ok (.aload_n 0, 1) := by decide +kernel
theorem dL_law_1025 : decode cL_law 1025 = .ok (.iload 4, 2) := by decide +kernel
theorem dL_law_1027 : decode cL_law 1027 = .ok (.iconst 1, 1) := by decide +kernel
theorem dL_law_1028 : decode cL_law 1028 = .ok (.iadd, 1) := by decide +kernel
theorem dL_law_1029 : decode cL_law 1029 = .ok (.iaload, 1) := by decide +kernel
theorem dL_law_1030 : decode cL_law 1030 = .ok (.aload_n 0, 1) := by decide +kernel
theorem dL_law_1031 : decode cL_law 1031 = .ok (.iload 4, 2) := by decide +kernel
theorem dL_law_1033 : decode cL_law 1033 = .ok (.iconst 2, 1) := by decide +kernel
theorem dL_law_1034 : decode cL_law 1034 = .ok (.iadd, 1) := by decide +kernel
theorem dL_law_1035 : decode cL_law 1035 = .ok (.iaload, 1) := by decide +kernel
theorem dL_law_1036 : decode cL_law 1036 = .ok (.invokevirtual 145, 3) := by decide +kernel
theorem dL_law_1039 : decode cL_law 1039 = .ok (.if_icmp .eq 367, 3) := by decide +kernel
theorem dL_law_1042 : decode cL_law 1042 = .ok (.iconst 0, 1) := by decide +kernel
theorem dL_law_1043 : decode cL_law 1043 = .ok (.ireturn, 1) := by decide +kernel
theorem dL_law_1044 : decode cL_law 1044 = .ok (.aload_n 1, 1) := by decide +kernel
theorem dL_law_1045 : decode cL_law 1045 = .ok (.aload_n 0, 1) := by decide +kernel
theorem dL_law_1046 : decode cL_law 1046 = .ok (.iload 4, 2) := by decide +kernel
theorem dL_law_1048 : decode cL_law 1048 = .ok (.iconst 1, 1) := by decide +kernel
theorem dL_law_1049 : decode cL_law 1049 = .ok (.iadd, 1) := by decide +kernel
theorem dL_law_1050 : decode cL_law 1050 = .ok (.iaload, 1) := by decide +kernel
theorem dL_law_1051 : decode cL_law 1051 = .ok (.aload_n 0, 1) := by decide +kernel
theorem dL_law_1052 : decode cL_law 1052 = .ok (.iload 4, 2) := by decide +kernel
theorem dL_law_1054 : decode cL_law 1054 = .ok (.iconst 2, 1) := by decide +kernel
theorem dL_law_1055 : decode cL_law 1055 = .ok (.iadd, 1) := by decide +kernel
theorem dL_law_1056 : decode cL_law 1056 = .ok (.iaload, 1) := by decide +kernel
theorem dL_law_1057 : decode cL_law 1057 = .ok (.invokevirtual 146, 3) := by decide +kernel
theorem dL_law_1060 : decode cL_law 1060 = .ok (.aload_n 2, 1) := by decide +kernel
theorem dL_law_1061 : decode cL_law 1061 = .ok (.aload_n 0, 1) := by decide +kernel
theorem dL_law_1062 : decode cL_law 1062 = .ok (.iload 4, 2) := by decide +kernel
theorem dL_law_1064 : decode cL_law 1064 = .ok (.iconst 1, 1) := by decide +kernel
theorem dL_law_1065 : decode cL_law 1065 = .ok (.iadd, 1) := by decide +kernel
theorem dL_law_1066 : decode cL_law 1066 = .ok (.iaload, 1) := by decide +kernel
theorem dL_law_1067 : decode cL_law 1067 = .ok (.aload_n 0, 1) := by decide +kernel
theorem dL_law_1068 : decode cL_law 1068 = .ok (.iload 4, 2) := by decide +kernel
theorem dL_law_1070 : decode cL_law 1070 = .ok (.iconst 2, 1) := by decide +kernel
theorem dL_law_1071 : decode cL_law 1071 = .ok (.iadd, 1) := by decide +kernel
theorem dL_law_1072 : decode cL_law 1072 = .ok (.iaload, 1) := by decide +kernel
theorem dL_law_1073 : decode cL_law 1073 = .ok (.invokevirtual 149, 3) := by decide +kernel
theorem dL_law_1076 : decode cL_law 1076 = .ok (.if_icmp .eq 330, 3) := by decide +kernel
theorem dL_law_1079 : decode cL_law 1079 = .ok (.iconst 0, 1) := by decide +kernel
theorem dL_law_1080 : decode cL_law 1080 = .ok (.ireturn, 1) := by decide +kernel
theorem dL_law_1081 : decode cL_law 1081 = .ok (.aload_n 1, 1) := by decide +kernel
theorem dL_law_1082 : decode cL_law 1082 = .ok (.invokevirtual 150, 3) := by decide +kernel
theorem dL_law_1085 : decode cL_law 1085 = .ok (.aload_n 2, 1) := by decide +kernel
theorem dL_law_1086 : decode cL_law 1086 = .ok (.invokevirtual 153, 3) := by decide +kernel
theorem dL_law_1089 : decode cL_law 1089 = .ok (.if_icmp .eq 317, 3) := by decide +kernel
theorem dL_law_1092 : decode cL_law 1092 = .ok (.iconst 0, 1) := by decide +kernel
theorem dL_law_1093 : decode cL_law 1093 = .ok (.ireturn, 1) := by decide +kernel
theorem dL_law_1094 : decode cL_law 1094 = .ok (.aload_n 1, 1) := by decide +kernel
theorem dL_law_1095 : decode cL_law 1095 = .ok (.aload_n 0, 1) := by decide +kernel
theorem dL_law_1096 : decode cL_law 1096 = .ok (.iload 4, 2) := by decide +kernel
theorem dL_law_1098 : decode cL_law 1098 = .ok (.iconst 1, 1) := by decide +kernel
theorem dL_law_1099 : decode cL_law 1099 = .ok (.iadd, 1) := by decide +kernel
theorem dL_law_1100 : decode cL_law 1100 = .ok (.iaload, 1) := by decide +kernel
theorem dL_law_1101 : decode cL_law 1101 = .ok (.invokevirtual 154, 3) := by decide +kernel
theorem dL_law_1104 : decode cL_law 1104 = .ok (.aload_n 2, 1) := by decide +kernel
theorem dL_law_1105 : decode cL_law 1105 = .ok (.aload_n 0, 1) := by decide +kernel
theorem dL_law_1106 : decode cL_law 1106 = .ok (.iload 4, 2) := by decide +kernel
theorem dL_law_1108 : decode cL_law 1108 = .ok (.iconst 1, 1) := by decide +kernel
theorem dL_law_1109 : decode cL_law 1109 = .ok (.iadd, 1) := by decide +kernel
theorem dL_law_1110 : decode cL_law 1110 = .ok (.iaload, 1) := by decide +kernel
theorem dL_law_1111 : decode cL_law 1111 = .ok (.invokevirtual 157, 3) := by decide +kernel
theorem dL_law_1114 : decode cL_law 1114 = .ok (.if_icmp .eq 292, 3) := by decide +kernel
theorem dL_law_1117 : decode cL_law 1117 = .ok (.iconst 0, 1) := by decide +kernel
theorem dL_law_1118 : decode cL_law 1118 = .ok (.ireturn, 1) := by decide +kernel
theorem dL_law_1119 : decode cL_law 1119 = .ok (.aload_n 1, 1) := by decide +kernel
theorem dL_law_1120 : decode cL_law 1120 = .ok (.aload_n 0, 1) := by decide +kernel
theorem dL_law_1121 : decode cL_law 1121 = .ok (.iload 4, 2) := by decide +kernel
theorem dL_law_1123 : decode cL_law 1123 = .ok (.iconst 1, 1) := by decide +kernel
theorem dL_law_1124 : decode cL_law 1124 = .ok (.iadd, 1) := by decide +kernel
theorem dL_law_1125 : decode cL_law 1125 = .ok (.iaload, 1) := by decide +kernel
theorem dL_law_1126 : decode cL_law 1126 = .ok (.invokevirtual 158, 3) := by decide +kernel
theorem dL_law_1129 : decode cL_law 1129 = .ok (.aload_n 2, 1) := by decide +kernel
theorem dL_law_1130 : decode cL_law 1130 = .ok (.aload_n 0, 1) := by decide +kernel
theorem dL_law_1131 : decode cL_law 1131 = .ok (.iload 4, 2) := by decide +kernel
theorem dL_law_1133 : decode cL_law 1133 = .ok (.iconst 1, 1) := by decide +kernel
theorem dL_law_1134 : decode cL_law 1134 = .ok (.iadd, 1) := by decide +kernel
theorem dL_law_1135 : decode cL_law 1135 = .ok (.iaload, 1) := by decide +kernel
theorem dL_law_1136 : decode cL_law 1136 = .ok (.invokevirtual 161, 3) := by decide +kernel
theorem dL_law_1139 : decode cL_law 1139 = .ok (.if_icmp .eq 267, 3) := by decide +kernel
theorem dL_law_1142 : decode cL_law 1142 = .ok (.iconst 0, 1) := by decide +kernel
theorem dL_law_1143 : decode cL_law 1143 = .ok (.ireturn, 1) := by decide +kernel
theorem dL_law_1144 : decode cL_law 1144 = .ok (.aload_n 1, 1) := by decide +kernel
theorem dL_law_1145 : decode cL_law 1145 = .ok (.aload_n 0, 1) := by decide +kernel
theorem dL_law_1146 : decode cL_law 1146 = .ok (.iload 4, 2) := by decide +kernel
theorem dL_law_1148 : decode cL_law 1148 = .ok (.iconst 1, 1) := by decide +kernel
theorem dL_law_1149 : decode cL_law 1149 = .ok (.iadd, 1) := by decide +kernel
theorem dL_law_1150 : decode cL_law 1150 = .ok (.iaload, 1) := by decide +kernel
theorem dL_law_1151 : decode cL_law 1151 = .ok (.invokevirtual 162, 3) := by decide +kernel
theorem dL_law_1154 : decode cL_law 1154 = .ok (.aload_n 2, 1) := by decide +kernel
theorem dL_law_1155 : decode cL_law 1155 = .ok (.aload_n 0, 1) := by decide +kernel
theorem dL_law_1156 : decode cL_law 1156 = .ok (.iload 4, 2) := by decide +kernel
theorem dL_law_1158 : decode cL_law 1158 = .ok (.iconst 1, 1) := by decide +kernel
theorem dL_law_1159 : decode cL_law 1159 = .ok (.iadd, 1) := by decide +kernel
theorem dL_law_1160 : decode cL_law 1160 = .ok (.iaload, 1) := by decide +kernel
theorem dL_law_1161 : decode cL_law 1161 = .ok (.invokevirtual 165, 3) := by decide +kernel
theorem dL_law_1164 : decode cL_law 1164 = .ok (.if_icmp .eq 242, 3) := by decide +kernel
theorem dL_law_1167 : decode cL_law 1167 = .ok (.iconst 0, 1) := by decide +kernel
theorem dL_law_1168 : decode cL_law 1168 = .ok (.ireturn, 1) := by decide +kernel
theorem dL_law_1169 : decode cL_law 1169 = .ok (.aload_n 1, 1) := by decide +kernel
theorem dL_law_1170 : decode cL_law 1170 = .ok (.invokevirtual 166, 3) := by decide +kernel
theorem dL_law_1173 : decode cL_law 1173 = .ok (.aload_n 2, 1) := by decide +kernel
theorem dL_law_1174 : decode cL_law 1174 = .ok (.invokevirtual 169, 3) := by decide +kernel
theorem dL_law_1177 : decode cL_law 1177 = .ok (.if_icmp .eq 229, 3) := by decide +kernel
theorem dL_law_1180 : decode cL_law 1180 = .ok (.iconst 0, 1) := by decide +kernel
theorem dL_law_1181 : decode cL_law 1181 = .ok (.ireturn, 1) := by decide +kernel
theorem dL_law_1182 : decode cL_law 1182 = .ok (.aload_n 1, 1) := by decide +kernel
theorem dL_law_1183 : decode cL_law 1183 = .ok (.aload_n 0, 1) := by decide +kernel
theorem dL_law_1184 : decode cL_law 1184 = .ok (.iload 4, 2) := by decide +kernel
theorem dL_law_1186 : decode cL_law 1186 = .ok (.iconst 1, 1) := by decide +kernel
theorem dL_law_1187 : decode cL_law 1187 = .ok (.iadd, 1) := by decide +kernel
theorem dL_law_1188 : decode cL_law 1188 = .ok (.iaload, 1) := by decide +kernel
theorem dL_law_1189 : decode cL_law 1189 = .ok (.invokevirtual 170, 3) := by decide +kernel
theorem dL_law_1192 : decode cL_law 1192 = .ok (.aload_n 2, 1) := by decide +kernel
theorem dL_law_1193 : decode cL_law 1193 = .ok (.aload_n 0, 1) := by decide +kernel
theorem dL_law_1194 : decode cL_law 1194 = .ok (.iload 4, 2) := by decide +kernel
theorem dL_law_1196 : decode cL_law 1196 = .ok (.iconst 1, 1) := by decide +kernel
theorem dL_law_1197 : decode cL_law 1197 = .ok (.iadd, 1) := by decide +kernel
theorem dL_law_1198 : decode cL_law 1198 = .ok (.iaload, 1) := by decide +kernel
theorem dL_law_1199 : decode cL_law 1199 = .ok (.invokevirtual 173, 3) := by decide +kernel
theorem dL_law_1202 : decode cL_law 1202 = .ok (.if_icmp .eq 204, 3) := by decide +kernel
theorem dL_law_1205 : decode cL_law 1205 = .ok (.iconst 0, 1) := by decide +kernel
theorem dL_law_1206 : decode cL_law 1206 = .ok (.ireturn, 1) := by decide +kernel
theorem dL_law_1207 : decode cL_law 1207 = .ok (.aload_n 1, 1) := by decide +kernel
theorem dL_law_1208 : decode cL_law 1208 = .ok (.aload_n 0, 1) := by decide +kernel
theorem dL_law_1209 : decode cL_law 1209 = .ok (.iload 4, 2) := by decide +kernel
theorem dL_law_1211 : decode cL_law 1211 = .ok (.iconst 1, 1) := by decide +kernel
theorem dL_law_1212 : decode cL_law 1212 = .ok (.iadd, 1) := by decide +kernel
theorem dL_law_1213 : decode cL_law 1213 = .ok (.iaload, 1) := by decide +kernel
theorem dL_law_1214 : decode cL_law 1214 = .ok (.invokevirtual 174, 3) := by decide +kernel
theorem dL_law_1217 : decode cL_law 1217 = .ok (.aload_n 2, 1) := by decide +kernel
theorem dL_law_1218 : decode cL_law 1218 = .ok (.aload_n 0, 1) := by decide +kernel
theorem dL_law_1219 : decode cL_law 1219 = .ok (.iload 4, 2) := by decide +kernel
theorem dL_law_1221 : decode cL_law 1221 = .ok (.iconst 1, 1) := by decide +kernel
theorem dL_law_1222 : decode cL_law 1222 = .ok (.iadd, 1) := by decide +kernel
theorem dL_law_1223 : decode cL_law 1223 = .ok (.iaload, 1) := by decide +kernel
theorem dL_law_1224 : decode cL_law 1224 = .ok (.invokevirtual 177, 3) := by decide +kernel
theorem dL_law_1227 : decode cL_law 1227 = .ok (.if_icmp .eq 179, 3) := by decide +kernel
theorem dL_law_1230 : decode cL_law 1230 = .ok (.iconst 0, 1) := by decide +kernel
theorem dL_law_1231 : decode cL_law 1231 = .ok (.ireturn, 1) := by decide +kernel
theorem dL_law_1232 : decode cL_law 1232 = .ok (.aload_n 1, 1) := by decide +kernel
theorem dL_law_1233 : decode cL_law 1233 = .ok (.aload_n 0, 1) := by decide +kernel
theorem dL_law_1234 : decode cL_law 1234 = .ok (.iload 4, 2) := by decide +kernel
theorem dL_law_1236 : decode cL_law 1236 = .ok (.iconst 1, 1) := by decide +kernel
theorem dL_law_1237 : decode cL_law 1237 = .ok (.iadd, 1) := by decide +kernel
theorem dL_law_1238 : decode cL_law 1238 = .ok (.iaload, 1) := by decide +kernel
theorem dL_law_1239 : decode cL_law 1239 = .ok (.aload_n 0, 1) := by decide +kernel
theorem dL_law_1240 : decode cL_law 1240 = .ok (.iload 4, 2) := by decide +kernel
theorem dL_law_1242 : decode cL_law 1242 = .ok (.iconst 2, 1) := by decide +kernel
theorem dL_law_1243 : decode cL_law 1243 = .ok (.iadd, 1) := by decide +kernel
theorem dL_law_1244 : decode cL_law 1244 = .ok (.iaload, 1) := by decide +kernel
theorem dL_law_1245 : decode cL_law 1245 = .ok (.invokevirtual 178, 3) := by decide +kernel
theorem dL_law_1248 : decode cL_law 1248 = .ok (.aload_n 2, 1) := by decide +kernel
theorem dL_law_1249 : decode cL_law 1249 = .ok (.aload_n 0, 1) := by decide +kernel
theorem dL_law_1250 : decode cL_law 1250 = .ok (.iload 4, 2) := by decide +kernel
theorem dL_law_1252 : decode cL_law 1252 = .ok (.iconst 1, 1) := by decide +kernel
theorem dL_law_1253 : decode cL_law 1253 = .ok (.iadd, 1) := by decide +kernel
theorem dL_law_1254 : decode cL_law 1254 = .ok (.iaload, 1) := by decide +kernel
theorem dL_law_1255 : decode cL_law 1255 = .ok (.aload_n 0, 1) := by decide +kernel
theorem dL_law_1256 : decode cL_law 1256 = .ok (.iload 4, 2) := by decide +kernel
theorem dL_law_1258 : decode cL_law 1258 = .ok (.iconst 2, 1) := by decide +kernel
theorem dL_law_1259 : decode cL_law 1259 = .ok (.iadd, 1) := by decide +kernel
theorem dL_law_1260 : decode cL_law 1260 = .ok (.iaload, 1) := by decide +kernel
theorem dL_law_1261 : decode cL_law 1261 = .ok (.invokevirtual 181, 3) := by decide +kernel
theorem dL_law_1264 : decode cL_law 1264 = .ok (.if_icmp .eq 142, 3) := by decide +kernel
theorem dL_law_1267 : decode cL_law 1267 = .ok (.iconst 0, 1) := by decide +kernel
theorem dL_law_1268 : decode cL_law 1268 = .ok (.ireturn, 1) := by decide +kernel
theorem dL_law_1269 : decode cL_law 1269 = .ok (.aload_n 1, 1) := by decide +kernel
theorem dL_law_1270 : decode cL_law 1270 = .ok (.aload_n 0, 1) := by decide +kernel
theorem dL_law_1271 : decode cL_law 1271 = .ok (.iload 4, 2) := by decide +kernel
theorem dL_law_1273 : decode cL_law 1273 = .ok (.iconst 1, 1) := by decide +kernel
theorem dL_law_1274 : decode cL_law 1274 = .ok (.iadd, 1) := by decide +kernel
theorem dL_law_1275 : decode cL_law 1275 = .ok (.iaload, 1) := by decide +kernel
theorem dL_law_1276 : decode cL_law 1276 = .ok (.invokevirtual 182, 3) := by decide +kernel
theorem dL_law_1279 : decode cL_law 1279 = .ok (.aload_n 2, 1) := by decide +kernel
theorem dL_law_1280 : decode cL_law 1280 = .ok (.aload_n 0, 1) := by decide +kernel
theorem dL_law_1281 : decode cL_law 1281 = .ok (.iload 4, 2) := by decide +kernel
theorem dL_law_1283 : decode cL_law 1283 = .ok (.iconst 1, 1) := by decide +kernel
theorem dL_law_1284 : decode cL_law 1284 = .ok (.iadd, 1) := by decide +kernel
theorem dL_law_1285 : decode cL_law 1285 = .ok (.iaload, 1) := by decide +kernel
theorem dL_law_1286 : decode cL_law 1286 = .ok (.invokevirtual 185, 3) := by decide +kernel
theorem dL_law_1289 : decode cL_law 1289 = .ok (.if_icmp .eq 117, 3) := by decide +kernel
theorem dL_law_1292 : decode cL_law 1292 = .ok (.iconst 0, 1) := by decide +kernel
theorem dL_law_1293 : decode cL_law 1293 = .ok (.ireturn, 1) := by decide +kernel
theorem dL_law_1294 : decode cL_law 1294 = .ok (.aload_n 1, 1) := by decide +kernel
theorem dL_law_1295 : decode cL_law 1295 = .ok (.aload_n 0, 1) := by decide +kernel
theorem dL_law_1296 : decode cL_law 1296 = .ok (.iload 4, 2) := by decide +kernel
theorem dL_law_1298 : decode cL_law 1298 = .ok (.iconst 1, 1) := by decide +kernel
theorem dL_law_1299 : decode cL_law 1299 = .ok (.iadd, 1) := by decide +kernel
theorem dL_law_1300 : decode cL_law 1300 = .ok (.iaload, 1) := by decide +kernel
theorem dL_law_1301 : decode cL_law 1301 = .ok (.invokevirtual 186, 3) := by decide +kernel
theorem dL_law_1304 : decode cL_law 1304 = .ok (.aload_n 2, 1) := by decide +kernel
theorem dL_law_1305 : decode cL_law 1305 = .ok (.aload_n 0, 1) := by decide +kernel
theorem dL_law_1306 : decode cL_law 1306 = .ok (.iload 4, 2) := by decide +kernel
theorem dL_law_1308 : decode cL_law 1308 = .ok (.iconst 1, 1) := by decide +kernel
theorem dL_law_1309 : decode cL_law 1309 = .ok (.iadd, 1) := by decide +kernel
theorem dL_law_1310 : decode cL_law 1310 = .ok (.iaload, 1) := by decide +kernel
theorem dL_law_1311 : decode cL_law 1311 = .ok (.invokevirtual 189, 3) := by decide +kernel
theorem dL_law_1314 : decode cL_law 1314 = .ok (.if_icmp .eq 92, 3) := by decide +kernel
theorem dL_law_1317 : decode cL_law 1317 = .ok (.iconst 0, 1) := by decide +kernel
theorem dL_law_1318 : decode cL_law 1318 = .ok (.ireturn, 1) := by decide +kernel
theorem dL_law_1319 : decode cL_law 1319 = .ok (.aload_n 1, 1) := by decide +kernel
theorem dL_law_1320 : decode cL_law 1320 = .ok (.aload_n 0, 1) := by decide +kernel
theorem dL_law_1321 : decode cL_law 1321 = .ok (.iload 4, 2) := by decide +kernel
theorem dL_law_1323 : decode cL_law 1323 = .ok (.iconst 1, 1) := by decide +kernel
theorem dL_law_1324 : decode cL_law 1324 = .ok (.iadd, 1) := by decide +kernel
theorem dL_law_1325 : decode cL_law 1325 = .ok (.iaload, 1) := by decide +kernel
theorem dL_law_1326 : decode cL_law 1326 = .ok (.invokevirtual 190, 3) := by decide +kernel
theorem dL_law_1329 : decode cL_law 1329 = .ok (.aload_n 2, 1) := by decide +kernel
theorem dL_law_1330 : decode cL_law 1330 = .ok (.aload_n 0, 1) := by decide +kernel
theorem dL_law_1331 : decode cL_law 1331 = .ok (.iload 4, 2) := by decide +kernel
theorem dL_law_1333 : decode cL_law 1333 = .ok (.iconst 1, 1) := by decide +kernel
theorem dL_law_1334 : decode cL_law 1334 = .ok (.iadd, 1) := by decide +kernel
theorem dL_law_1335 : decode cL_law 1335 = .ok (.iaload, 1) := by decide +kernel
theorem dL_law_1336 : decode cL_law 1336 = .ok (.invokevirtual 193, 3) := by decide +kernel
theorem dL_law_1339 : decode cL_law 1339 = .ok (.if_icmp .eq 67, 3) := by decide +kernel
theorem dL_law_1342 : decode cL_law 1342 = .ok (.iconst 0, 1) := by decide +kernel
theorem dL_law_1343 : decode cL_law 1343 = .ok (.ireturn, 1) := by decide +kernel
theorem dL_law_1344 : decode cL_law 1344 = .ok (.aload_n 1, 1) := by decide +kernel
theorem dL_law_1345 : decode cL_law 1345 = .ok (.aload_n 0, 1) := by decide +kernel
theorem dL_law_1346 : decode cL_law 1346 = .ok (.iload 4, 2) := by decide +kernel
theorem dL_law_1348 : decode cL_law 1348 = .ok (.iconst 1, 1) := by decide +kernel
theorem dL_law_1349 : decode cL_law 1349 = .ok (.iadd, 1) := by decide +kernel
theorem dL_law_1350 : decode cL_law 1350 = .ok (.iaload, 1) := by decide +kernel
theorem dL_law_1351 : decode cL_law 1351 = .ok (.aload_n 0, 1) := by decide +kernel
theorem dL_law_1352 : decode cL_law 1352 = .ok (.iload 4, 2) := by decide +kernel
theorem dL_law_1354 : decode cL_law 1354 = .ok (.iconst 2, 1) := by decide +kernel
theorem dL_law_1355 : decode cL_law 1355 = .ok (.iadd, 1) := by decide +kernel
theorem dL_law_1356 : decode cL_law 1356 = .ok (.iaload, 1) := by decide +kernel
theorem dL_law_1357 : decode cL_law 1357 = .ok (.invokevirtual 194, 3) := by decide +kernel
theorem dL_law_1360 : decode cL_law 1360 = .ok (.aload_n 2, 1) := by decide +kernel
theorem dL_law_1361 : decode cL_law 1361 = .ok (.aload_n 0, 1) := by decide +kernel
theorem dL_law_1362 : decode cL_law 1362 = .ok (.iload 4, 2) := by decide +kernel
theorem dL_law_1364 : decode cL_law 1364 = .ok (.iconst 1, 1) := by decide +kernel
theorem dL_law_1365 : decode cL_law 1365 = .ok (.iadd, 1) := by decide +kernel
theorem dL_law_1366 : decode cL_law 1366 = .ok (.iaload, 1) := by decide +kernel
theorem dL_law_1367 : decode cL_law 1367 = .ok (.aload_n 0, 1) := by decide +kernel
theorem dL_law_1368 : decode cL_law 1368 = .ok (.iload 4, 2) := by decide +kernel
theorem dL_law_1370 : decode cL_law 1370 = .ok (.iconst 2, 1) := by decide +kernel
theorem dL_law_1371 : decode cL_law 1371 = .ok (.iadd, 1) := by decide +kernel
theorem dL_law_1372 : decode cL_law 1372 = .ok (.iaload, 1) := by decide +kernel
theorem dL_law_1373 : decode cL_law 1373 = .ok (.invokevirtual 197, 3) := by decide +kernel
theorem dL_law_1376 : decode cL_law 1376 = .ok (.if_icmp .eq 30, 3) := by decide +kernel
theorem dL_law_1379 : decode cL_law 1379 = .ok (.iconst 0, 1) := by decide +kernel
theorem dL_law_1380 : decode cL_law 1380 = .ok (.ireturn, 1) := by decide +kernel
theorem dL_law_1381 : decode cL_law 1381 = .ok (.aload_n 1, 1) := by decide +kernel
theorem dL_law_1382 : decode cL_law 1382 = .ok (.aload_n 0, 1) := by decide +kernel
theorem dL_law_1383 : decode cL_law 1383 = .ok (.iload 4, 2) := by decide +kernel
theorem dL_law_1385 : decode cL_law 1385 = .ok (.iconst 1, 1) := by decide +kernel
theorem dL_law_1386 : decode cL_law 1386 = .ok (.iadd, 1) := by decide +kernel
theorem dL_law_1387 : decode cL_law 1387 = .ok (.iaload, 1) := by decide +kernel
theorem dL_law_1388 : decode cL_law 1388 = .ok (.invokevirtual 198, 3) := by decide +kernel
theorem dL_law_1391 : decode cL_law 1391 = .ok (.aload_n 2, 1) := by decide +kernel
theorem dL_law_1392 : decode cL_law 1392 = .ok (.aload_n 0, 1) := by decide +kernel
theorem dL_law_1393 : decode cL_law 1393 = .ok (.iload 4, 2) := by decide +kernel
theorem dL_law_1395 : decode cL_law 1395 = .ok (.iconst 1, 1) := by decide +kernel
theorem dL_law_1396 : decode cL_law 1396 = .ok (.iadd, 1) := by decide +kernel
theorem dL_law_1397 : decode cL_law 1397 = .ok (.iaload, 1) := by decide +kernel
theorem dL_law_1398 : decode cL_law 1398 = .ok (.invokevirtual 201, 3) := by decide +kernel
theorem dL_law_1401 : decode cL_law 1401 = .ok (.if_icmp .eq 5, 3) := by decide +kernel
theorem dL_law_1404 : decode cL_law 1404 = .ok (.iconst 0, 1) := by decide +kernel
theorem dL_law_1405 : decode cL_law 1405 = .ok (.ireturn, 1) := by decide +kernel
theorem dL_law_1406 : decode cL_law 1406 = .ok (.iinc 4 6, 3) := by decide +kernel
theorem dL_law_1409 : decode cL_law 1409 = .ok (.goto (-1386), 3) := by decide +kernel
theorem dL_law_1412 : decode cL_law 1412 = .ok (.iconst 1, 1) := by decide +kernel
theorem dL_law_1413 : decode cL_law 1413 = .ok (.ireturn, 1) := by decide +kernel
