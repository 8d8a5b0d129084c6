theorem dX7_linesInside_33 : decode cX7_linesInside 33 = .ok (.iload_n 2, 1) := by decide +kernel
theorem dX7_linesInside_34 : decode cX7_linesInside 34 = .ok (.iconst 1, 1) := by decide +kernel
theorem dX7_linesInside_35 : decode cX7_linesInside 35 = .ok (.iload_n 3, 1) := by decide +kernel
theorem dX7_linesInside_36 : decode cX7_linesInside 36 = .ok (.ishl, 1) := by decide +kernel
theorem dX7_linesInside_37 : decode cX7_linesInside 37 = .ok (.ior, 1) := by decide +kernel
theorem dX7_linesInside_38 : decode cX7_linesInside 38 = .ok (.istore_n 2, 1) := by decide +kernel
theorem dX7_linesInside_39 : decode cX7_linesInside 39 = .ok (.iinc 3 1, 3) := by decide +kernel
theorem dX7_linesInside_42 : decode cX7_linesInside 42 = .ok (.goto (-38), 3) := by decide +kernel
theorem dX7_linesInside_45 : decode cX7_linesInside 45 = .ok (.iload_n 2, 1) := by decide +kernel
theorem dX7_linesInside_46 : decode cX7_linesInside 46 = .ok (.ireturn, 1) := by decide +kernel
theorem dX7_carriesTwoTrees_0 : decode cX7_carriesTwoTrees 0 = .ok (.iconst 2, 1) := by decide +kernel
theorem dX7_carriesTwoTrees_1 : decode cX7_carriesTwoTrees 1 = .ok (.iload_n 1, 1) := by decide +kernel
theorem dX7_carriesTwoTrees_2 : decode cX7_carriesTwoTrees 2 = .ok (.invokestatic 82, 3) := by decide +kernel
theorem dX7_carriesTwoTrees_5 : decode cX7_carriesTwoTrees 5 = .ok (.iconst 1, 1) := by decide +kernel
theorem dX7_carriesTwoTrees_6 : decode cX7_carriesTwoTrees 6 = .ok (.isub, 1) := by decide +kernel
theorem dX7_carriesTwoTrees_7 : decode cX7_carriesTwoTrees 7 = .ok (.imul, 1) := by decide +kernel
theorem dX7_carriesTwoTrees_8 : decode cX7_carriesTwoTrees 8 = .ok (.istore_n 2, 1) := by decide +kernel
theorem dX7_carriesTwoTrees_9 : decode cX7_carriesTwoTrees 9 = .ok (.aload_n 0, 1) := by decide +kernel
theorem dX7_carriesTwoTrees_10 : decode cX7_carriesTwoTrees 10 = .ok (.iload_n 1, 1) := by decide +kernel
theorem dX7_carriesTwoTrees_11 : decode cX7_carriesTwoTrees 11 = .ok (.invokevirtual 111, 3) := by decide +kernel
theorem dX7_carriesTwoTrees_14 : decode cX7_carriesTwoTrees 14 = .ok (.istore_n 3, 1) := by decide +kernel
theorem dX7_carriesTwoTrees_15 : decode cX7_carriesTwoTrees 15 = .ok (.iload_n 3, 1) := by decide +kernel
theorem dX7_carriesTwoTrees_16 : decode cX7_carriesTwoTrees 16 = .ok (.invokestatic 82, 3) := by decide +kernel
theorem dX7_carriesTwoTrees_19 : decode cX7_carriesTwoTrees 19 = .ok (.iload_n 2, 1) := by decide +kernel
theorem dX7_carriesTwoTrees_20 : decode cX7_carriesTwoTrees 20 = .ok (.if_icmp .ge 5, 3) := by decide +kernel
theorem dX7_carriesTwoTrees_23 : decode cX7_carriesTwoTrees 23 = .ok (.iconst 0, 1) := by decide +kernel
theorem dX7_carriesTwoTrees_24 : decode cX7_carriesTwoTrees 24 = .ok (.ireturn, 1) := by decide +kernel
theorem dX7_carriesTwoTrees_25 : decode cX7_carriesTwoTrees 25 = .ok (.aload_n 0, 1) := by decide +kernel
theorem dX7_carriesTwoTrees_26 : decode cX7_carriesTwoTrees 26 = .ok (.getfield 28, 3) := by decide +kernel
theorem dX7_carriesTwoTrees_29 : decode cX7_carriesTwoTrees 29 = .ok (.invokevirtual 114, 3) := by decide +kernel
theorem dX7_carriesTwoTrees_32 : decode cX7_carriesTwoTrees 32 = .ok (.iconst 0, 1) := by decide +kernel
theorem dX7_carriesTwoTrees_33 : decode cX7_carriesTwoTrees 33 = .ok (.istore 4, 2) := by decide +kernel
theorem dX7_carriesTwoTrees_35 : decode cX7_carriesTwoTrees 35 = .ok (.iload 4, 2) := by decide +kernel
theorem dX7_carriesTwoTrees_37 : decode cX7_carriesTwoTrees 37 = .ok (.bipush 14, 2) := by decide +kernel
theorem dX7_carriesTwoTrees_39 : decode cX7_carriesTwoTrees 39 = .ok (.if_icmp .ge 28, 3) := by decide +kernel
theorem dX7_carriesTwoTrees_42 : decode cX7_carriesTwoTrees 42 = .ok (.iload_n 3, 1) := by decide +kernel
theorem dX7_carriesTwoTrees_43 : decode cX7_carriesTwoTrees 43 = .ok (.iload 4, 2) := by decide +kernel
theorem dX7_carriesTwoTrees_45 : decode cX7_carriesTwoTrees 45 = .ok (.invokestatic 90, 3) := by decide +kernel
theorem dX7_carriesTwoTrees_48 : decode cX7_carriesTwoTrees 48 = .ok (.ifCond .eq 13, 3) := by decide +kernel
theorem dX7_carriesTwoTrees_51 : decode cX7_carriesTwoTrees 51 = .ok (.aload_n 0, 1) := by decide +kernel
theorem dX7_carriesTwoTrees_52 : decode cX7_carriesTwoTrees 52 = .ok (.getfield 28, 3) := by decide +kernel
theorem dX7_carriesTwoTrees_55 : decode cX7_carriesTwoTrees 55 = .ok (.iload 4, 2) := by decide +kernel
theorem dX7_carriesTwoTrees_57 : decode cX7_carriesTwoTrees 57 = .ok (.invokevirtual 117, 3) := by decide +kernel
theorem dX7_carriesTwoTrees_60 : decode cX7_carriesTwoTrees 60 = .ok (.pop, 1) := by decide +kernel
theorem dX7_carriesTwoTrees_61 : decode cX7_carriesTwoTrees 61 = .ok (.iinc 4 1, 3) := by decide +kernel
theorem dX7_carriesTwoTrees_64 : decode cX7_carriesTwoTrees 64 = .ok (.goto (-29), 3) := by decide +kernel
theorem dX7_carriesTwoTrees_67 : decode cX7_carriesTwoTrees 67 = .ok (.aload_n 0, 1) := by decide +kernel
theorem dX7_carriesTwoTrees_68 : decode cX7_carriesTwoTrees 68 = .ok (.getfield 28, 3) := by decide +kernel
theorem dX7_carriesTwoTrees_71 : decode cX7_carriesTwoTrees 71 = .ok (.invokevirtual 120, 3) := by decide +kernel
theorem dX7_carriesTwoTrees_74 : decode cX7_carriesTwoTrees 74 = .ok (.iload_n 2, 1) := by decide +kernel
theorem dX7_carriesTwoTrees_75 : decode cX7_carriesTwoTrees 75 = .ok (.if_icmp .ne 7, 3) := by decide +kernel
theorem dX7_carriesTwoTrees_78 : decode cX7_carriesTwoTrees 78 = .ok (.iconst 1, 1) := by decide +kernel
theorem dX7_carriesTwoTrees_79 : decode cX7_carriesTwoTrees 79 = .ok (.goto 4, 3) := by decide +kernel
theorem dX7_carriesTwoTrees_82 : decode cX7_carriesTwoTrees 82 = .ok (.iconst 0, 1) := by decide +kernel
theorem dX7_carriesTwoTrees_83 : decode cX7_carriesTwoTrees 83 = .ok (.ireturn, 1) := by decide +kernel
theorem dX7_links_0 : decode cX7_links 0 = .ok (.aload_n 0, 1) := by decide +kernel
theorem dX7_links_1 : decode cX7_links 1 = .ok (.getfield 28, 3) := by decide +kernel
theorem dX7_links_4 : decode cX7_links 4 = .ok (.iload_n 1, 1) := by decide +kernel
theorem dX7_links_5 : decode cX7_links 5 = .ok (.iconst 1, 1) := by decide +kernel
theorem dX7_links_6 : decode cX7_links 6 = .ok (.iload_n 2, 1) := by decide +kernel
theorem dX7_links_7 : decode cX7_links 7 = .ok (.ishl, 1) := by decide +kernel
theorem dX7_links_8 : decode cX7_links 8 = .ok (.iconst (-1), 1) := by decide +kernel
theorem dX7_links_9 : decode cX7_links 9 = .ok (.ixor, 1) := by decide +kernel
theorem dX7_links_10 : decode cX7_links 10 = .ok (.iand, 1) := by decide +kernel
theorem dX7_links_11 : decode cX7_links 11 = .ok (.iload_n 3, 1) := by decide +kernel
theorem dX7_links_12 : decode cX7_links 12 = .ok (.invokevirtual 124, 3) := by decide +kernel
theorem dX7_links_15 : decode cX7_links 15 = .ok (.iconst (-1), 1) := by decide +kernel
theorem dX7_links_16 : decode cX7_links 16 = .ok (.if_icmp .ne 7, 3) := by decide +kernel
theorem dX7_links_19 : decode cX7_links 19 = .ok (.iconst 1, 1) := by decide +kernel
theorem dX7_links_20 : decode cX7_links 20 = .ok (.goto 4, 3) := by decide +kernel
theorem dX7_links_23 : decode cX7_links 23 = .ok (.iconst 0, 1) := by decide +kernel
theorem dX7_links_24 : decode cX7_links 24 = .ok (.ireturn, 1) := by decide +kernel
theorem dX7_reply_0 : decode cX7_reply 0 = .ok (.aload_n 0, 1) := by decide +kernel
theorem dX7_reply_1 : decode cX7_reply 1 = .ok (.getfield 18, 3) := by decide +kernel
theorem dX7_reply_4 : decode cX7_reply 4 = .ok (.aload_n 0, 1) := by decide +kernel
theorem dX7_reply_5 : decode cX7_reply 5 = .ok (.getfield 21, 3) := by decide +kernel
theorem dX7_reply_8 : decode cX7_reply 8 = .ok (.ior, 1) := by decide +kernel
theorem dX7_reply_9 : decode cX7_reply 9 = .ok (.iload_n 1, 1) := by decide +kernel
theorem dX7_reply_10 : decode cX7_reply 10 = .ok (.invokestatic 90, 3) := by decide +kernel
theorem dX7_reply_13 : decode cX7_reply 13 = .ok (.ifCond .ne 17, 3) := by decide +kernel
theorem dX7_reply_16 : decode cX7_reply 16 = .ok (.aload_n 0, 1) := by decide +kernel
theorem dX7_reply_17 : decode cX7_reply 17 = .ok (.getfield 18, 3) := by decide +kernel
theorem dX7_reply_20 : decode cX7_reply 20 = .ok (.aload_n 0, 1) := by decide +kernel
theorem dX7_reply_21 : decode cX7_reply 21 = .ok (.getfield 21, 3) := by decide +kernel
theorem dX7_reply_24 : decode cX7_reply 24 = .ok (.ior, 1) := by decide +kernel
theorem dX7_reply_25 : decode cX7_reply 25 = .ok (.iconst 0, 1) := by decide +kernel
theorem dX7_reply_26 : decode cX7_reply 26 = .ok (.invokestatic 127, 3) := by decide +kernel
theorem dX7_reply_29 : decode cX7_reply 29 = .ok (.ireturn, 1) := by decide +kernel
theorem dX7_reply_30 : decode cX7_reply 30 = .ok (.aload_n 0, 1) := by decide +kernel
theorem dX7_reply_31 : decode cX7_reply 31 = .ok (.getfield 18, 3) := by decide +kernel
theorem dX7_reply_34 : decode cX7_reply 34 = .ok (.iload_n 1, 1) := by decide +kernel
theorem dX7_reply_35 : decode cX7_reply 35 = .ok (.invokestatic 90, 3) := by decide +kernel
theorem dX7_reply_38 : decode cX7_reply 38 = .ok (.ifCond .eq 10, 3) := by decide +kernel
theorem dX7_reply_41 : decode cX7_reply 41 = .ok (.aload_n 0, 1) := by decide +kernel
theorem dX7_reply_42 : decode cX7_reply 42 = .ok (.getfield 18, 3) := by decide +kernel
theorem dX7_reply_45 : decode cX7_reply 45 = .ok (.goto 7, 3) := by decide +kernel
theorem dX7_reply_48 : decode cX7_reply 48 = .ok (.aload_n 0, 1) := by decide +kernel
theorem dX7_reply_49 : decode cX7_reply 49 = .ok (.getfield 21, 3) := by decide +kernel
theorem dX7_reply_52 : decode cX7_reply 52 = .ok (.istore_n 2, 1) := by decide +kernel
theorem dX7_reply_53 : decode cX7_reply 53 = .ok (.aload_n 0, 1) := by decide +kernel
theorem dX7_reply_54 : decode cX7_reply 54 = .ok (.getfield 18, 3) := by decide +kernel
theorem dX7_reply_57 : decode cX7_reply 57 = .ok (.iload_n 1, 1) := by decide +kernel
theorem dX7_reply_58 : decode cX7_reply 58 = .ok (.invokestatic 90, 3) := by decide +kernel
theorem dX7_reply_61 : decode cX7_reply 61 = .ok (.ifCond .eq 10, 3) := by decide +kernel
theorem dX7_reply_64 : decode cX7_reply 64 = .ok (.aload_n 0, 1) := by decide +kernel
theorem dX7_reply_65 : decode cX7_reply 65 = .ok (.getfield 21, 3) := by decide +kernel
theorem dX7_reply_68 : decode cX7_reply 68 = .ok (.goto 7, 3) := by decide +kernel
theorem dX7_reply_71 : decode cX7_reply 71 = .ok (.aload_n 0, 1) := by decide +kernel
theorem dX7_reply_72 : decode cX7_reply 72 = .ok (.getfield 18, 3) := by decide +kernel
theorem dX7_reply_75 : decode cX7_reply 75 = .ok (.istore_n 3, 1) := by decide +kernel
theorem dX7_reply_76 : decode cX7_reply 76 = .ok (.iconst 0, 1) := by decide +kernel
theorem dX7_reply_77 : decode cX7_reply 77 = .ok (.istore 4, 2) := by decide +kernel
theorem dX7_reply_79 : decode cX7_reply 79 = .ok (.iload 4, 2) := by decide +kernel
theorem dX7_reply_81 : decode cX7_reply 81 = .ok (.bipush 14, 2) := by decide +kernel
theorem dX7_reply_83 : decode cX7_reply 83 = .ok (.if_icmp .ge 32, 3) := by decide +kernel
theorem dX7_reply_86 : decode cX7_reply 86 = .ok (.iload_n 3, 1) := by decide +kernel
theorem dX7_reply_87 : decode cX7_reply 87 = .ok (.iload 4, 2) := by decide +kernel
theorem dX7_reply_89 : decode cX7_reply 89 = .ok (.invokestatic 90, 3) := by decide +kernel
theorem dX7_reply_92 : decode cX7_reply 92 = .ok (.ifCond .eq 17, 3) := by decide +kernel
theorem dX7_reply_95 : decode cX7_reply 95 = .ok (.aload_n 0, 1) := by decide +kernel
theorem dX7_reply_96 : decode cX7_reply 96 = .ok (.iload_n 2, 1) := by decide +kernel
theorem dX7_reply_97 : decode cX7_reply 97 = .ok (.iload_n 1, 1) := by decide +kernel
theorem dX7_reply_98 : decode cX7_reply 98 = .ok (.iload 4, 2) := by decide +kernel
theorem dX7_reply_100 : decode cX7_reply 100 = .ok (.invokevirtual 130, 3) := by decide +kernel
theorem dX7_reply_103 : decode cX7_reply 103 = .ok (.ifCond .eq 6, 3) := by decide +kernel
theorem dX7_reply_106 : decode cX7_reply 106 = .ok (.iload 4, 2) := by decide +kernel
theorem dX7_reply_108 : decode cX7_reply 108 = .ok (.ireturn, 1) := by decide +kernel
theorem dX7_reply_109 : decode cX7_reply 109 = .ok (.iinc 4 1, 3) := by decide +kernel
theorem dX7_reply_112 : decode cX7_reply 112 = .ok (.goto (-33), 3) := by decide +kernel
theorem dX7_reply_115 : decode cX7_reply 115 = .ok (.bipush (-2), 2) := by decide +kernel
theorem dX7_reply_117 : decode cX7_reply 117 = .ok (.ireturn, 1) := by decide +kernel
theorem dX7_swapFor_0 : decode cX7_swapFor 0 = .ok (.aload_n 0, 1) := by decide +kernel
theorem dX7_swapFor_1 : decode cX7_swapFor 1 = .ok (.getfield 18, 3) := by decide +kernel
theorem dX7_swapFor_4 : decode cX7_swapFor 4 = .ok (.aload_n 0, 1) := by decide +kernel
theorem dX7_swapFor_5 : decode cX7_swapFor 5 = .ok (.getfield 21, 3) := by decide +kernel
theorem dX7_swapFor_8 : decode cX7_swapFor 8 = .ok (.ior, 1) := by decide +kernel
theorem dX7_swapFor_9 : decode cX7_swapFor 9 = .ok (.iload_n 1, 1) := by decide +kernel
theorem dX7_swapFor_10 : decode cX7_swapFor 10 = .ok (.invokestatic 90, 3) := by decide +kernel
theorem dX7_swapFor_13 : decode cX7_swapFor 13 = .ok (.ifCond .ne 6, 3) := by decide +kernel
theorem dX7_swapFor_16 : decode cX7_swapFor 16 = .ok (.bipush (-2), 2) := by decide +kernel
theorem dX7_swapFor_18 : decode cX7_swapFor 18 = .ok (.ireturn, 1) := by decide +kernel
theorem dX7_swapFor_19 : decode cX7_swapFor 19 = .ok (.aload_n 0, 1) := by decide +kernel
theorem dX7_swapFor_20 : decode cX7_swapFor 20 = .ok (.getfield 18, 3) := by decide +kernel
theorem dX7_swapFor_23 : decode cX7_swapFor 23 = .ok (.iload_n 1, 1) := by decide +kernel
theorem dX7_swapFor_24 : decode cX7_swapFor 24 = .ok (.invokestatic 90, 3) := by decide +kernel
theorem dX7_swapFor_27 : decode cX7_swapFor 27 = .ok (.ifCond .eq 10, 3) := by decide +kernel
theorem dX7_swapFor_30 : decode cX7_swapFor 30 = .ok (.aload_n 0, 1) := by decide +kernel
theorem dX7_swapFor_31 : decode cX7_swapFor 31 = .ok (.getfield 18, 3) := by decide +kernel
theorem dX7_swapFor_34 : decode cX7_swapFor 34 = .ok (.goto 7, 3) := by decide +kernel
theorem dX7_swapFor_37 : decode cX7_swapFor 37 = .ok (.aload_n 0, 1) := by decide +kernel
theorem dX7_swapFor_38 : decode cX7_swapFor 38 = .ok (.getfield 21, 3) := by decide +kernel
theorem dX7_swapFor_41 : decode cX7_swapFor 41 = .ok (.istore_n 2, 1) := by decide +kernel
theorem dX7_swapFor_42 : decode cX7_swapFor 42 = .ok (.aload_n 0, 1) := by decide +kernel
theorem dX7_swapFor_43 : decode cX7_swapFor 43 = .ok (.getfield 18, 3) := by decide +kernel
theorem dX7_swapFor_46 : decode cX7_swapFor 46 = .ok (.iload_n 1, 1) := by decide +kernel
theorem dX7_swapFor_47 : decode cX7_swapFor 47 = .ok (.invokestatic 90, 3) := by decide +kernel
theorem dX7_swapFor_50 : decode cX7_swapFor 50 = .ok (.ifCond .eq 10, 3) := by decide +kernel
theorem dX7_swapFor_53 : decode cX7_swapFor 53 = .ok (.aload_n 0, 1) := by decide +kernel
theorem dX7_swapFor_54 : decode cX7_swapFor 54 = .ok (.getfield 21, 3) := by decide +kernel
theorem dX7_swapFor_57 : decode cX7_swapFor 57 = .ok (.goto 7, 3) := by decide +kernel
theorem dX7_swapFor_60 : decode cX7_swapFor 60 = .ok (.aload_n 0, 1) := by decide +kernel
theorem dX7_swapFor_61 : decode cX7_swapFor 61 = .ok (.getfield 18, 3) := by decide +kernel
theorem dX7_swapFor_64 : decode cX7_swapFor 64 = .ok (.istore_n 3, 1) := by decide +kernel
theorem dX7_swapFor_65 : decode cX7_swapFor 65 = .ok (.iconst 0, 1) := by decide +kernel
theorem dX7_swapFor_66 : decode cX7_swapFor 66 = .ok (.istore 4, 2) := by decide +kernel
theorem dX7_swapFor_68 : decode cX7_swapFor 68 = .ok (.iload 4, 2) := by decide +kernel
theorem dX7_swapFor_70 : decode cX7_swapFor 70 = .ok (.bipush 14, 2) := by decide +kernel
theorem dX7_swapFor_72 : decode cX7_swapFor 72 = .ok (.if_icmp .ge 43, 3) := by decide +kernel
theorem dX7_swapFor_75 : decode cX7_swapFor 75 = .ok (.iload_n 3, 1) := by decide +kernel
theorem dX7_swapFor_76 : decode cX7_swapFor 76 = .ok (.iload 4, 2) := by decide +kernel
theorem dX7_swapFor_78 : decode cX7_swapFor 78 = .ok (.invokestatic 90, 3) := by decide +kernel
theorem dX7_swapFor_81 : decode cX7_swapFor 81 = .ok (.ifCond .eq 28, 3) := by decide +kernel
theorem dX7_swapFor_84 : decode cX7_swapFor 84 = .ok (.aload_n 0, 1) := by decide +kernel
theorem dX7_swapFor_85 : decode cX7_swapFor 85 = .ok (.iload_n 2, 1) := by decide +kernel
theorem dX7_swapFor_86 : decode cX7_swapFor 86 = .ok (.iload_n 1, 1) := by decide +kernel
theorem dX7_swapFor_87 : decode cX7_swapFor 87 = .ok (.iload 4, 2) := by decide +kernel
theorem dX7_swapFor_89 : decode cX7_swapFor 89 = .ok (.invokevirtual 130, 3) := by decide +kernel
theorem dX7_swapFor_92 : decode cX7_swapFor 92 = .ok (.ifCond .eq 17, 3) := by decide +kernel
theorem dX7_swapFor_95 : decode cX7_swapFor 95 = .ok (.aload_n 0, 1) := by decide +kernel
theorem dX7_swapFor_96 : decode cX7_swapFor 96 = .ok (.iload_n 3, 1) := by decide +kernel
theorem dX7_swapFor_97 : decode cX7_swapFor 97 = .ok (.iload 4, 2) := by decide +kernel
theorem dX7_swapFor_99 : decode cX7_swapFor 99 = .ok (.iload_n 1, 1) := by decide +kernel
theorem dX7_swapFor_100 : decode cX7_swapFor 100 = .ok (.invokevirtual 130, 3) := by decide +kernel
theorem dX7_swapFor_103 : decode cX7_swapFor 103 = .ok (.ifCond .eq 6, 3) := by decide +kernel
theorem dX7_swapFor_106 : decode cX7_swapFor 106 = .ok (.iload 4, 2) := by decide +kernel
theorem dX7_swapFor_108 : decode cX7_swapFor 108 = .ok (.ireturn, 1) := by decide +kernel
theorem dX7_swapFor_109 : decode cX7_swapFor 109 = .ok (.iinc 4 1, 3) := by decide +kernel
theorem dX7_swapFor_112 : decode cX7_swapFor 112 = .ok (.goto (-44), 3) := by decide +kernel
theorem dX7_swapFor_115 : decode cX7_swapFor 115 = .ok (.bipush (-2), 2) := by decide +kernel
theorem dX7_swapFor_117 : decode cX7_swapFor 117 = .ok (.ireturn, 1) := by decide +kernel
theorem dX7_replies_0 : decode cX7_replies 0 = .ok (.aload_n 0, 1) := by decide +kernel
theorem dX7_replies_1 : decode cX7_replies 1 = .ok (.getfield 9, 3) := by decide +kernel
theorem dX7_replies_4 : decode cX7_replies 4 = .ok (.istore_n 1, 1) := by decide +kernel
theorem dX7_replies_5 : decode cX7_replies 5 = .ok (.lconst 0, 1) := by decide +kernel
theorem dX7_replies_6 : decode cX7_replies 6 = .ok (.lstore_n 2, 1) := by decide +kernel
theorem dX7_replies_7 : decode cX7_replies 7 = .ok (.iconst 0, 1) := by decide +kernel
theorem dX7_replies_8 : decode cX7_replies 8 = .ok (.istore 4, 2) := by decide +kernel
theorem dX7_replies_10 : decode cX7_replies 10 = .ok (.iload 4, 2) := by decide +kernel
theorem dX7_replies_12 : decode cX7_replies 12 = .ok (.bipush 14, 2) := by decide +kernel
theorem dX7_replies_14 : decode cX7_replies 14 = .ok (.if_icmp .ge 36, 3) := by decide +kernel
theorem dX7_replies_17 : decode cX7_replies 17 = .ok (.iload_n 1, 1) := by decide +kernel
theorem dX7_replies_18 : decode cX7_replies 18 = .ok (.iload 4, 2) := by decide +kernel
theorem dX7_replies_20 : decode cX7_replies 20 = .ok (.invokestatic 90, 3) := by decide +kernel
theorem dX7_replies_23 : decode cX7_replies 23 = .ok (.ifCond .eq 21, 3) := by decide +kernel
theorem dX7_replies_26 : decode cX7_replies 26 = .ok (.lload_n 2, 1) := by decide +kernel
theorem dX7_replies_27 : decode cX7_replies 27 = .ok (.aload_n 0, 1) := by decide +kernel
theorem dX7_replies_28 : decode cX7_replies 28 = .ok (.iload 4, 2) := by decide +kernel
theorem dX7_replies_30 : decode cX7_replies 30 = .ok (.invokevirtual 134, 3) := by decide +kernel
theorem dX7_replies_33 : decode cX7_replies 33 = .ok (.bipush 15, 2) := by decide +kernel
theorem dX7_replies_35 : decode cX7_replies 35 = .ok (.iand, 1) := by decide +kernel
theorem dX7_replies_36 : decode cX7_replies 36 = .ok (.i2l, 1) := by decide +kernel
theorem dX7_replies_37 : decode cX7_replies 37 = .ok (.iconst 4, 1) := by decide +kernel
theorem dX7_replies_38 : decode cX7_replies 38 = .ok (.iload 4, 2) := by decide +kernel
theorem dX7_replies_40 : decode cX7_replies 40 = .ok (.imul, 1) := by decide +kernel
theorem dX7_replies_41 : decode cX7_replies 41 = .ok (.lshl, 1) := by decide +kernel
theorem dX7_replies_42 : decode cX7_replies 42 = .ok (.lor, 1) := by decide +kernel
theorem dX7_replies_43 : decode cX7_replies 43 = .ok (.lstore_n 2, 1) := by decide +kernel
theorem dX7_replies_44 : decode cX7_replies 44 = .ok (.iinc 4 1, 3) := by decide +kernel
theorem dX7_replies_47 : decode cX7_replies 47 = .ok (.goto (-37), 3) := by decide +kernel
theorem dX7_replies_50 : decode cX7_replies 50 = .ok (.lload_n 2, 1) := by decide +kernel
theorem dX7_replies_51 : decode cX7_replies 51 = .ok (.lreturn, 1) := by decide +kernel
theorem dX8_numberOf_0 : decode cX8_numberOf 0 = .ok (.iload_n 0, 1) := by decide +kernel
theorem dX8_numberOf_1 : decode cX8_numberOf 1 = .ok (.iconst 4, 1) := by decide +kernel
theorem dX8_numberOf_2 : decode cX8_numberOf 2 = .ok (.iload_n 1, 1) := by decide +kernel
theorem dX8_numberOf_3 : decode cX8_numberOf 3 = .ok (.imul, 1) := by decide +kernel
theorem dX8_numberOf_4 : decode cX8_numberOf 4 = .ok (.iushr, 1) := by decide +kernel
theorem dX8_numberOf_5 : decode cX8_numberOf 5 = .ok (.bipush 7, 2) := by decide +kernel
theorem dX8_numberOf_7 : decode cX8_numberOf 7 = .ok (.iand, 1) := by decide +kernel
theorem dX8_numberOf_8 : decode cX8_numberOf 8 = .ok (.ireturn, 1) := by decide +kernel
theorem dX8_together_0 : decode cX8_together 0 = .ok (.iload_n 0, 1) := by decide +kernel
theorem dX8_together_1 : decode cX8_together 1 = .ok (.iload_n 1, 1) := by decide +kernel
theorem dX8_together_2 : decode cX8_together 2 = .ok (.invokestatic 9, 3) := by decide +kernel
theorem dX8_together_5 : decode cX8_together 5 = .ok (.iload_n 0, 1) := by decide +kernel
theorem dX8_together_6 : decode cX8_together 6 = .ok (.iload_n 2, 1) := by decide +kernel
theorem dX8_together_7 : decode cX8_together 7 = .ok (.invokestatic 9, 3) := by decide +kernel
theorem dX8_together_10 : decode cX8_together 10 = .ok (.if_icmp .ne 7, 3) := by decide +kernel
theorem dX8_together_13 : decode cX8_together 13 = .ok (.iconst 1, 1) := by decide +kernel
theorem dX8_together_14 : decode cX8_together 14 = .ok (.goto 4, 3) := by decide +kernel
theorem dX8_together_17 : decode cX8_together 17 = .ok (.iconst 0, 1) := by decide +kernel
theorem dX8_together_18 : decode cX8_together 18 = .ok (.ireturn, 1) := by decide +kernel
theorem dX8_merged_0 : decode cX8_merged 0 = .ok (.iload_n 0, 1) := by decide +kernel
theorem dX8_merged_1 : decode cX8_merged 1 = .ok (.iload_n 1, 1) := by decide +kernel
theorem dX8_merged_2 : decode cX8_merged 2 = .ok (.invokestatic 9, 3) := by decide +kernel
theorem dX8_merged_5 : decode cX8_merged 5 = .ok (.istore_n 3, 1) := by decide +kernel
theorem dX8_merged_6 : decode cX8_merged 6 = .ok (.iload_n 0, 1) := by decide +kernel
theorem dX8_merged_7 : decode cX8_merged 7 = .ok (.iload_n 2, 1) := by decide +kernel
theorem dX8_merged_8 : decode cX8_merged 8 = .ok (.invokestatic 9, 3) := by decide +kernel
theorem dX8_merged_11 : decode cX8_merged 11 = .ok (.istore 4, 2) := by decide +kernel
theorem dX8_merged_13 : decode cX8_merged 13 = .ok (.iload_n 3, 1) := by decide +kernel
theorem dX8_merged_14 : decode cX8_merged 14 = .ok (.iload 4, 2) := by decide +kernel
theorem dX8_merged_16 : decode cX8_merged 16 = .ok (.if_icmp .ne 5, 3) := by decide +kernel
theorem dX8_merged_19 : decode cX8_merged 19 = .ok (.iload_n 0, 1) := by decide +kernel
theorem dX8_merged_20 : decode cX8_merged 20 = .ok (.ireturn, 1) := by decide +kernel
theorem dX8_merged_21 : decode cX8_merged 21 = .ok (.iload_n 3, 1) := by decide +kernel
theorem dX8_merged_22 : decode cX8_merged 22 = .ok (.iload 4, 2) := by decide +kernel
theorem dX8_merged_24 : decode cX8_merged 24 = .ok (.invokestatic 15, 3) := by decide +kernel
theorem dX8_merged_27 : decode cX8_merged 27 = .ok (.istore 5, 2) := by decide +kernel
theorem dX8_merged_29 : decode cX8_merged 29 = .ok (.iload_n 0, 1) := by decide +kernel
theorem dX8_merged_30 : decode cX8_merged 30 = .ok (.iload 5, 2) := by decide +kernel
theorem dX8_merged_32 : decode cX8_merged 32 = .ok (.ldc 20, 2) := by decide +kernel
theorem dX8_merged_34 : decode cX8_merged 34 = .ok (.imul, 1) := by decide +kernel
theorem dX8_merged_35 : decode cX8_merged 35 = .ok (.ixor, 1) := by decide +kernel
theorem dX8_merged_36 : decode cX8_merged 36 = .ok (.istore 6, 2) := by decide +kernel
theorem dX8_merged_38 : decode cX8_merged 38 = .ok (.iload 6, 2) := by decide +kernel
theorem dX8_merged_40 : decode cX8_merged 40 = .ok (.iload 6, 2) := by decide +kernel
theorem dX8_merged_42 : decode cX8_merged 42 = .ok (.iconst 1, 1) := by decide +kernel
theorem dX8_merged_43 : decode cX8_merged 43 = .ok (.iushr, 1) := by decide +kernel
theorem dX8_merged_44 : decode cX8_merged 44 = .ok (.ior, 1) := by decide +kernel
theorem dX8_merged_45 : decode cX8_merged 45 = .ok (.iload 6, 2) := by decide +kernel
theorem dX8_merged_47 : decode cX8_merged 47 = .ok (.iconst 2, 1) := by decide +kernel
theorem dX8_merged_48 : decode cX8_merged 48 = .ok (.iushr, 1) := by decide +kernel
theorem dX8_merged_49 : decode cX8_merged 49 = .ok (.ior, 1) := by decide +kernel
theorem dX8_merged_50 : decode cX8_merged 50 = .ok (.ldc 20, 2) := by decide +kernel
theorem dX8_merged_52 : decode cX8_merged 52 = .ok (.iand, 1) := by decide +kernel
theorem dX8_merged_53 : decode cX8_merged 53 = .ok (.istore 7, 2) := by decide +kernel
theorem dX8_merged_55 : decode cX8_merged 55 = .ok (.iload_n 0, 1) := by decide +kernel
theorem dX8_merged_56 : decode cX8_merged 56 = .ok (.iload 7, 2) := by decide +kernel
theorem dX8_merged_58 : decode cX8_merged 58 = .ok (.ldc 20, 2) := by decide +kernel
theorem dX8_merged_60 : decode cX8_merged 60 = .ok (.ixor, 1) := by decide +kernel
theorem dX8_merged_61 : decode cX8_merged 61 = .ok (.iload_n 3, 1) := by decide +kernel
theorem dX8_merged_62 : decode cX8_merged 62 = .ok (.iload 4, 2) := by decide +kernel
theorem dX8_merged_64 : decode cX8_merged 64 = .ok (.ixor, 1) := by decide +kernel
theorem dX8_merged_65 : decode cX8_merged 65 = .ok (.imul, 1) := by decide +kernel
theorem dX8_merged_66 : decode cX8_merged 66 = .ok (.ixor, 1) := by decide +kernel
theorem dX8_merged_67 : decode cX8_merged 67 = .ok (.ireturn, 1) := by decide +kernel
theorem dX8_knotsOf_0 : decode cX8_knotsOf 0 = .ok (.iconst 0, 1) := by decide +kernel
theorem dX8_knotsOf_1 : decode cX8_knotsOf 1 = .ok (.istore_n 3, 1) := by decide +kernel
theorem dX8_knotsOf_2 : decode cX8_knotsOf 2 = .ok (.iconst 0, 1) := by decide +kernel
theorem dX8_knotsOf_3 : decode cX8_knotsOf 3 = .ok (.istore 4, 2) := by decide +kernel
theorem dX8_knotsOf_5 : decode cX8_knotsOf 5 = .ok (.iload 4, 2) := by decide +kernel
theorem dX8_knotsOf_7 : decode cX8_knotsOf 7 = .ok (.iload_n 2, 1) := by decide +kernel
theorem dX8_knotsOf_8 : decode cX8_knotsOf 8 = .ok (.if_icmp .ge 33, 3) := by decide +kernel
theorem dX8_knotsOf_11 : decode cX8_knotsOf 11 = .ok (.iload 4, 2) := by decide +kernel
theorem dX8_knotsOf_13 : decode cX8_knotsOf 13 = .ok (.bipush 8, 2) := by decide +kernel
theorem dX8_knotsOf_15 : decode cX8_knotsOf 15 = .ok (.if_icmp .ge 26, 3) := by decide +kernel
theorem dX8_knotsOf_18 : decode cX8_knotsOf 18 = .ok (.iload_n 0, 1) := by decide +kernel
theorem dX8_knotsOf_19 : decode cX8_knotsOf 19 = .ok (.iload 4, 2) := by decide +kernel
theorem dX8_knotsOf_21 : decode cX8_knotsOf 21 = .ok (.invokestatic 9, 3) := by decide +kernel
theorem dX8_knotsOf_24 : decode cX8_knotsOf 24 = .ok (.iload_n 1, 1) := by decide +kernel
theorem dX8_knotsOf_25 : decode cX8_knotsOf 25 = .ok (.if_icmp .ne 10, 3) := by decide +kernel
theorem dX8_knotsOf_28 : decode cX8_knotsOf 28 = .ok (.iload_n 3, 1) := by decide +kernel
theorem dX8_knotsOf_29 : decode cX8_knotsOf 29 = .ok (.iconst 1, 1) := by decide +kernel
theorem dX8_knotsOf_30 : decode cX8_knotsOf 30 = .ok (.iload 4, 2) := by decide +kernel
theorem dX8_knotsOf_32 : decode cX8_knotsOf 32 = .ok (.ishl, 1) := by decide +kernel
theorem dX8_knotsOf_33 : decode cX8_knotsOf 33 = .ok (.ior, 1) := by decide +kernel
theorem dX8_knotsOf_34 : decode cX8_knotsOf 34 = .ok (.istore_n 3, 1) := by decide +kernel
theorem dX8_knotsOf_35 : decode cX8_knotsOf 35 = .ok (.iinc 4 1, 3) := by decide +kernel
theorem dX8_knotsOf_38 : decode cX8_knotsOf 38 = .ok (.goto (-33), 3) := by decide +kernel
theorem dX8_knotsOf_41 : decode cX8_knotsOf 41 = .ok (.iload_n 3, 1) := by decide +kernel
theorem dX8_knotsOf_42 : decode cX8_knotsOf 42 = .ok (.ireturn, 1) := by decide +kernel
theorem dX8_heads_0 : decode cX8_heads 0 = .ok (.iconst 0, 1) := by decide +kernel
theorem dX8_heads_1 : decode cX8_heads 1 = .ok (.istore_n 2, 1) := by decide +kernel
theorem dX8_heads_2 : decode cX8_heads 2 = .ok (.iconst 0, 1) := by decide +kernel
theorem dX8_heads_3 : decode cX8_heads 3 = .ok (.istore_n 3, 1) := by decide +kernel
theorem dX8_heads_4 : decode cX8_heads 4 = .ok (.iload_n 3, 1) := by decide +kernel
theorem dX8_heads_5 : decode cX8_heads 5 = .ok (.iload_n 1, 1) := by decide +kernel
theorem dX8_heads_6 : decode cX8_heads 6 = .ok (.if_icmp .ge 25, 3) := by decide +kernel
theorem dX8_heads_9 : decode cX8_heads 9 = .ok (.iload_n 3, 1) := by decide +kernel
theorem dX8_heads_10 : decode cX8_heads 10 = .ok (.bipush 8, 2) := by decide +kernel
theorem dX8_heads_12 : decode cX8_heads 12 = .ok (.if_icmp .ge 19, 3) := by decide +kernel
theorem dX8_heads_15 : decode cX8_heads 15 = .ok (.iload_n 2, 1) := by decide +kernel
theorem dX8_heads_16 : decode cX8_heads 16 = .ok (.iconst 1, 1) := by decide +kernel
theorem dX8_heads_17 : decode cX8_heads 17 = .ok (.iload_n 0, 1) := by decide +kernel
theorem dX8_heads_18 : decode cX8_heads 18 = .ok (.iload_n 3, 1) := by decide +kernel
theorem dX8_heads_19 : decode cX8_heads 19 = .ok (.invokestatic 9, 3) := by decide +kernel
theorem dX8_heads_22 : decode cX8_heads 22 = .ok (.ishl, 1) := by decide +kernel
theorem dX8_heads_23 : decode cX8_heads 23 = .ok (.ior, 1) := by decide +kernel
theorem dX8_heads_24 : decode cX8_heads 24 = .ok (.istore_n 2, 1) := by decide +kernel
theorem dX8_heads_25 : decode cX8_heads 25 = .ok (.iinc 3 1, 3) := by decide +kernel
theorem dX8_heads_28 : decode cX8_heads 28 = .ok (.goto (-24), 3) := by decide +kernel
theorem dX8_heads_31 : decode cX8_heads 31 = .ok (.iload_n 2, 1) := by decide +kernel
theorem dX8_heads_32 : decode cX8_heads 32 = .ok (.ireturn, 1) := by decide +kernel
theorem dX9_init_0 : decode cX9_init 0 = .ok (.aload_n 0, 1) := by decide +kernel
theorem dX9_init_1 : decode cX9_init 1 = .ok (.invokespecial 3, 3) := by decide +kernel
theorem dX9_init_4 : decode cX9_init 4 = .ok (.aload_n 0, 1) := by decide +kernel
theorem dX9_init_5 : decode cX9_init 5 = .ok (.iconst 0, 1) := by decide +kernel
theorem dX9_init_6 : decode cX9_init 6 = .ok (.putfield 9, 3) := by decide +kernel
theorem dX9_init_9 : decode cX9_init 9 = .ok (.aload_n 0, 1) := by decide +kernel
theorem dX9_init_10 : decode cX9_init 10 = .ok (.iconst 0, 1) := by decide +kernel
theorem dX9_init_11 : decode cX9_init 11 = .ok (.putfield 15, 3) := by decide +kernel
theorem dX9_init_14 : decode cX9_init 14 = .ok (.aload_n 0, 1) := by decide +kernel
theorem dX9_init_15 : decode cX9_init 15 = .ok (.iconst 0, 1) := by decide +kernel
theorem dX9_init_16 : decode cX9_init 16 = .ok (.putfield 18, 3) := by decide +kernel
theorem dX9_init_19 : decode cX9_init 19 = .ok (.aload_n 0, 1) := by decide +kernel
theorem dX9_init_20 : decode cX9_init 20 = .ok (.iconst 0, 1) := by decide +kernel
theorem dX9_init_21 : decode cX9_init 21 = .ok (.putfield 21, 3) := by decide +kernel
theorem dX9_init_24 : decode cX9_init 24 = .ok (.aload_n 0, 1) := by decide +kernel
theorem dX9_init_25 : decode cX9_init 25 = .ok (.iconst 0, 1) := by decide +kernel
theorem dX9_init_26 : decode cX9_init 26 = .ok (.putfield 24, 3) := by decide +kernel
theorem dX9_init_29 : decode cX9_init 29 = .ok (.aload_n 0, 1) := by decide +kernel
theorem dX9_init_30 : decode cX9_init 30 = .ok (.iconst 0, 1) := by decide +kernel
theorem dX9_init_31 : decode cX9_init 31 = .ok (.putfield 27, 3) := by decide +kernel
theorem dX9_init_34 : decode cX9_init 34 = .ok (.aload_n 0, 1) := by decide +kernel
theorem dX9_init_35 : decode cX9_init 35 = .ok (.iconst 0, 1) := by decide +kernel
theorem dX9_init_36 : decode cX9_init 36 = .ok (.putfield 30, 3) := by decide +kernel
theorem dX9_init_39 : decode cX9_init 39 = .ok (.aload_n 0, 1) := by decide +kernel
theorem dX9_init_40 : decode cX9_init 40 = .ok (.iconst 0, 1) := by decide +kernel
theorem dX9_init_41 : decode cX9_init 41 = .ok (.putfield 34, 3) := by decide +kernel
theorem dX9_init_44 : decode cX9_init 44 = .ok (.aload_n 0, 1) := by decide +kernel
theorem dX9_init_45 : decode cX9_init 45 = .ok (.iconst 0, 1) := by decide +kernel
theorem dX9_init_46 : decode cX9_init 46 = .ok (.putfield 37, 3) := by decide +kernel
theorem dX9_init_49 : decode cX9_init 49 = .ok (.aload_n 0, 1) := by decide +kernel
theorem dX9_init_50 : decode cX9_init 50 = .ok (.iconst 0, 1) := by decide +kernel
theorem dX9_init_51 : decode cX9_init 51 = .ok (.putfield 40, 3) := by decide +kernel
theorem dX9_init_54 : decode cX9_init 54 = .ok (.aload_n 0, 1) := by decide +kernel
theorem dX9_init_55 : decode cX9_init 55 = .ok (.iconst (-1), 1) := by decide +kernel
theorem dX9_init_56 : decode cX9_init 56 = .ok (.putfield 43, 3) := by decide +kernel
theorem dX9_init_59 : decode cX9_init 59 = .ok (.aload_n 0, 1) := by decide +kernel
theorem dX9_init_60 : decode cX9_init 60 = .ok (.aload_n 1, 1) := by decide +kernel
theorem dX9_init_61 : decode cX9_init 61 = .ok (.putfield 46, 3) := by decide +kernel
theorem dX9_init_64 : decode cX9_init 64 = .ok (.aload_n 0, 1) := by decide +kernel
theorem dX9_init_65 : decode cX9_init 65 = .ok (.aload_n 2, 1) := by decide +kernel
theorem dX9_init_66 : decode cX9_init 66 = .ok (.putfield 50, 3) := by decide +kernel
theorem dX9_init_69 : decode cX9_init 69 = .ok (.return_, 1) := by decide +kernel
theorem dX9_read_0 : decode cX9_read 0 = .ok (.aload_n 0, 1) := by decide +kernel
theorem dX9_read_1 : decode cX9_read 1 = .ok (.iload_n 1, 1) := by decide +kernel
theorem dX9_read_2 : decode cX9_read 2 = .ok (.aload_n 0, 1) := by decide +kernel
theorem dX9_read_3 : decode cX9_read 3 = .ok (.getfield 46, 3) := by decide +kernel
theorem dX9_read_6 : decode cX9_read 6 = .ok (.arraylength, 1) := by decide +kernel
theorem dX9_read_7 : decode cX9_read 7 = .ok (.invokestatic 54, 3) := by decide +kernel
theorem dX9_read_10 : decode cX9_read 10 = .ok (.putfield 9, 3) := by decide +kernel
theorem dX9_read_13 : decode cX9_read 13 = .ok (.aload_n 0, 1) := by decide +kernel
theorem dX9_read_14 : decode cX9_read 14 = .ok (.iconst 0, 1) := by decide +kernel
theorem dX9_read_15 : decode cX9_read 15 = .ok (.putfield 15, 3) := by decide +kernel
theorem dX9_read_18 : decode cX9_read 18 = .ok (.aload_n 0, 1) := by decide +kernel
theorem dX9_read_19 : decode cX9_read 19 = .ok (.iconst 0, 1) := by decide +kernel
theorem dX9_read_20 : decode cX9_read 20 = .ok (.putfield 30, 3) := by decide +kernel
theorem dX9_read_23 : decode cX9_read 23 = .ok (.aload_n 0, 1) := by decide +kernel
theorem dX9_read_24 : decode cX9_read 24 = .ok (.iconst 0, 1) := by decide +kernel
theorem dX9_read_25 : decode cX9_read 25 = .ok (.putfield 34, 3) := by decide +kernel
theorem dX9_read_28 : decode cX9_read 28 = .ok (.aload_n 0, 1) := by decide +kernel
theorem dX9_read_29 : decode cX9_read 29 = .ok (.iconst 0, 1) := by decide +kernel
theorem dX9_read_30 : decode cX9_read 30 = .ok (.putfield 37, 3) := by decide +kernel
theorem dX9_read_33 : decode cX9_read 33 = .ok (.aload_n 0, 1) := by decide +kernel
theorem dX9_read_34 : decode cX9_read 34 = .ok (.iconst 0, 1) := by decide +kernel
theorem dX9_read_35 : decode cX9_read 35 = .ok (.putfield 40, 3) := by decide +kernel
theorem dX9_read_38 : decode cX9_read 38 = .ok (.aload_n 0, 1) := by decide +kernel
theorem dX9_read_39 : decode cX9_read 39 = .ok (.iconst (-1), 1) := by decide +kernel
theorem dX9_read_40 : decode cX9_read 40 = .ok (.putfield 43, 3) := by decide +kernel
theorem dX9_read_43 : decode cX9_read 43 = .ok (.aload_n 0, 1) := by decide +kernel
theorem dX9_read_44 : decode cX9_read 44 = .ok (.getfield 50, 3) := by decide +kernel
theorem dX9_read_47 : decode cX9_read 47 = .ok (.invokevirtual 60, 3) := by decide +kernel
theorem dX9_read_50 : decode cX9_read 50 = .ok (.aload_n 0, 1) := by decide +kernel
theorem dX9_read_51 : decode cX9_read 51 = .ok (.invokevirtual 65, 3) := by decide +kernel
theorem dX9_read_54 : decode cX9_read 54 = .ok (.iconst 0, 1) := by decide +kernel
theorem dX9_read_55 : decode cX9_read 55 = .ok (.istore_n 2, 1) := by decide +kernel
theorem dX9_read_56 : decode cX9_read 56 = .ok (.iload_n 2, 1) := by decide +kernel
theorem dX9_read_57 : decode cX9_read 57 = .ok (.sipush 600, 3) := by decide +kernel
theorem dX9_read_60 : decode cX9_read 60 = .ok (.if_icmp .ge 45, 3) := by decide +kernel
theorem dX9_read_63 : decode cX9_read 63 = .ok (.aload_n 0, 1) := by decide +kernel
theorem dX9_read_64 : decode cX9_read 64 = .ok (.getfield 18, 3) := by decide +kernel
theorem dX9_read_67 : decode cX9_read 67 = .ok (.ifCond .eq 38, 3) := by decide +kernel
theorem dX9_read_70 : decode cX9_read 70 = .ok (.aload_n 0, 1) := by decide +kernel
theorem dX9_read_71 : decode cX9_read 71 = .ok (.invokevirtual 68, 3) := by decide +kernel
theorem dX9_read_74 : decode cX9_read 74 = .ok (.ifCond .eq 10, 3) := by decide +kernel
theorem dX9_read_77 : decode cX9_read 77 = .ok (.aload_n 0, 1) := by decide +kernel
theorem dX9_read_78 : decode cX9_read 78 = .ok (.invokevirtual 72, 3) := by decide +kernel
theorem dX9_read_81 : decode cX9_read 81 = .ok (.ifCond .ne 5, 3) := by decide +kernel
theorem dX9_read_84 : decode cX9_read 84 = .ok (.iconst 0, 1) := by decide +kernel
theorem dX9_read_85 : decode cX9_read 85 = .ok (.ireturn, 1) := by decide +kernel
theorem dX9_read_86 : decode cX9_read 86 = .ok (.aload_n 0, 1) := by decide +kernel
theorem dX9_read_87 : decode cX9_read 87 = .ok (.getfield 50, 3) := by decide +kernel
theorem dX9_read_90 : decode cX9_read 90 = .ok (.dup, 1) := by decide +kernel
theorem dX9_read_91 : decode cX9_read 91 = .ok (.getfield 75, 3) := by decide +kernel
theorem dX9_read_94 : decode cX9_read 94 = .ok (.iconst 1, 1) := by decide +kernel
theorem dX9_read_95 : decode cX9_read 95 = .ok (.iadd, 1) := by decide +kernel
theorem dX9_read_96 : decode cX9_read 96 = .ok (.putfield 75, 3) := by decide +kernel
theorem dX9_read_99 : decode cX9_read 99 = .ok (.iinc 2 1, 3) := by decide +kernel
theorem dX9_read_102 : decode cX9_read 102 = .ok (.goto (-46), 3) := by decide +kernel
theorem dX9_read_105 : decode cX9_read 105 = .ok (.iconst 1, 1) := by decide +kernel
theorem dX9_read_106 : decode cX9_read 106 = .ok (.ireturn, 1) := by decide +kernel
theorem dX9_refuse_0 : decode cX9_refuse 0 = .ok (.aload_n 0, 1) := by decide +kernel
theorem dX9_refuse_1 : decode cX9_refuse 1 = .ok (.iload_n 1, 1) := by decide +kernel
theorem dX9_refuse_2 : decode cX9_refuse 2 = .ok (.putfield 40, 3) := by decide +kernel
theorem dX9_refuse_5 : decode cX9_refuse 5 = .ok (.aload_n 0, 1) := by decide +kernel
theorem dX9_refuse_6 : decode cX9_refuse 6 = .ok (.aload_n 0, 1) := by decide +kernel
theorem dX9_refuse_7 : decode cX9_refuse 7 = .ok (.getfield 21, 3) := by decide +kernel
theorem dX9_refuse_10 : decode cX9_refuse 10 = .ok (.putfield 43, 3) := by decide +kernel
theorem dX9_refuse_13 : decode cX9_refuse 13 = .ok (.iconst 0, 1) := by decide +kernel
theorem dX9_refuse_14 : decode cX9_refuse 14 = .ok (.ireturn, 1) := by decide +kernel
theorem dX9_stop_0 : decode cX9_stop 0 = .ok (.aload_n 0, 1) := by decide +kernel
theorem dX9_stop_1 : decode cX9_stop 1 = .ok (.getfield 18, 3) := by decide +kernel
theorem dX9_stop_4 : decode cX9_stop 4 = .ok (.iconst 3, 1) := by decide +kernel
theorem dX9_stop_5 : decode cX9_stop 5 = .ok (.if_icmp .eq 9, 3) := by decide +kernel
theorem dX9_stop_8 : decode cX9_stop 8 = .ok (.aload_n 0, 1) := by decide +kernel
theorem dX9_stop_9 : decode cX9_stop 9 = .ok (.iconst 1, 1) := by decide +kernel
theorem dX9_stop_10 : decode cX9_stop 10 = .ok (.invokevirtual 78, 3) := by decide +kernel
theorem dX9_stop_13 : decode cX9_stop 13 = .ok (.ireturn, 1) := by decide +kernel
theorem dX9_stop_14 : decode cX9_stop 14 = .ok (.aload_n 0, 1) := by decide +kernel
theorem dX9_stop_15 : decode cX9_stop 15 = .ok (.invokevirtual 65, 3) := by decide +kernel
theorem dX9_stop_18 : decode cX9_stop 18 = .ok (.iconst 1, 1) := by decide +kernel
theorem dX9_stop_19 : decode cX9_stop 19 = .ok (.ireturn, 1) := by decide +kernel
theorem dX9_sentence_0 : decode cX9_sentence 0 = .ok (.aload_n 0, 1) := by decide +kernel
theorem dX9_sentence_1 : decode cX9_sentence 1 = .ok (.invokevirtual 82, 3) := by decide +kernel
theorem dX9_sentence_4 : decode cX9_sentence 4 = .ok (.istore_n 1, 1) := by decide +kernel
theorem dX9_sentence_5 : decode cX9_sentence 5 = .ok (.aload_n 0, 1) := by decide +kernel
theorem dX9_sentence_6 : decode cX9_sentence 6 = .ok (.getfield 30, 3) := by decide +kernel
theorem dX9_sentence_9 : decode cX9_sentence 9 = .ok (.ifCond .ne 14, 3) := by decide +kernel
theorem dX9_sentence_12 : decode cX9_sentence 12 = .ok (.iload_n 1, 1) := by decide +kernel
theorem dX9_sentence_13 : decode cX9_sentence 13 = .ok (.iconst 1, 1) := by decide +kernel
theorem dX9_sentence_14 : decode cX9_sentence 14 = .ok (.if_icmp .eq 9, 3) := by decide +kernel
theorem dX9_sentence_17 : decode cX9_sentence 17 = .ok (.aload_n 0, 1) := by decide +kernel
theorem dX9_sentence_18 : decode cX9_sentence 18 = .ok (.iconst 1, 1) := by decide +kernel
theorem dX9_sentence_19 : decode cX9_sentence 19 = .ok (.invokevirtual 78, 3) := by decide +kernel
theorem dX9_sentence_22 : decode cX9_sentence 22 = .ok (.ireturn, 1) := by decide +kernel
theorem dX9_sentence_23 : decode cX9_sentence 23 = .ok (.iload_n 1, 1) := by decide +kernel
theorem dX9_sentence_24 : decode cX9_sentence 24 = .ok (.tableswitch 72 1 6 #[40, 45, 50, 55, 61, 67], 40) := by decide +kernel
theorem dX9_sentence_64 : decode cX9_sentence 64 = .ok (.aload_n 0, 1) := by decide +kernel
theorem dX9_sentence_65 : decode cX9_sentence 65 = .ok (.invokevirtual 86, 3) := by decide +kernel
theorem dX9_sentence_68 : decode cX9_sentence 68 = .ok (.ireturn, 1) := by decide +kernel
theorem dX9_sentence_69 : decode cX9_sentence 69 = .ok (.aload_n 0, 1) := by decide +kernel
theorem dX9_sentence_70 : decode cX9_sentence 70 = .ok (.invokevirtual 89, 3) := by decide +kernel
theorem dX9_sentence_73 : decode cX9_sentence 73 = .ok (.ireturn, 1) := by decide +kernel
theorem dX9_sentence_74 : decode cX9_sentence 74 = .ok (.aload_n 0, 1) := by decide +kernel
theorem dX9_sentence_75 : decode cX9_sentence 75 = .ok (.invokevirtual 92, 3) := by decide +kernel
theorem dX9_sentence_78 : decode cX9_sentence 78 = .ok (.ireturn, 1) := by decide +kernel
theorem dX9_sentence_79 : decode cX9_sentence 79 = .ok (.aload_n 0, 1) := by decide +kernel
theorem dX9_sentence_80 : decode cX9_sentence 80 = .ok (.iconst 1, 1) := by decide +kernel
theorem dX9_sentence_81 : decode cX9_sentence 81 = .ok (.invokevirtual 95, 3) := by decide +kernel
theorem dX9_sentence_84 : decode cX9_sentence 84 = .ok (.ireturn, 1) := by decide +kernel
theorem dX9_sentence_85 : decode cX9_sentence 85 = .ok (.aload_n 0, 1) := by decide +kernel
theorem dX9_sentence_86 : decode cX9_sentence 86 = .ok (.iconst 0, 1) := by decide +kernel
theorem dX9_sentence_87 : decode cX9_sentence 87 = .ok (.invokevirtual 95, 3) := by decide +kernel
theorem dX9_sentence_90 : decode cX9_sentence 90 = .ok (.ireturn, 1) := by decide +kernel
theorem dX9_sentence_91 : decode cX9_sentence 91 = .ok (.aload_n 0, 1) := by decide +kernel
theorem dX9_sentence_92 : decode cX9_sentence 92 = .ok (.invokevirtual 99, 3) := by decide +kernel
theorem dX9_sentence_95 : decode cX9_sentence 95 = .ok (.ireturn, 1) := by decide +kernel
theorem dX9_sentence_96 : decode cX9_sentence 96 = .ok (.aload_n 0, 1) := by decide +kernel
theorem dX9_sentence_97 : decode cX9_sentence 97 = .ok (.iconst 1, 1) := by decide +kernel
theorem dX9_sentence_98 : decode cX9_sentence 98 = .ok (.invokevirtual 78, 3) := by decide +kernel
theorem dX9_sentence_101 : decode cX9_sentence 101 = .ok (.ireturn, 1) := by decide +kernel
theorem dX9_knotsSentence_0 : decode cX9_knotsSentence 0 = .ok (.aload_n 0, 1) := by decide +kernel
theorem dX9_knotsSentence_1 : decode cX9_knotsSentence 1 = .ok (.getfield 30, 3) := by decide +kernel
theorem dX9_knotsSentence_4 : decode cX9_knotsSentence 4 = .ok (.ifCond .eq 9, 3) := by decide +kernel
theorem dX9_knotsSentence_7 : decode cX9_knotsSentence 7 = .ok (.aload_n 0, 1) := by decide +kernel
theorem dX9_knotsSentence_8 : decode cX9_knotsSentence 8 = .ok (.iconst 3, 1) := by decide +kernel
theorem dX9_knotsSentence_9 : decode cX9_knotsSentence 9 = .ok (.invokevirtual 78, 3) := by decide +kernel
theorem dX9_knotsSentence_12 : decode cX9_knotsSentence 12 = .ok (.ireturn, 1) := by decide +kernel
theorem dX9_knotsSentence_13 : decode cX9_knotsSentence 13 = .ok (.aload_n 0, 1) := by decide +kernel
theorem dX9_knotsSentence_14 : decode cX9_knotsSentence 14 = .ok (.invokevirtual 65, 3) := by decide +kernel
theorem dX9_knotsSentence_17 : decode cX9_knotsSentence 17 = .ok (.aload_n 0, 1) := by decide +kernel
theorem dX9_knotsSentence_18 : decode cX9_knotsSentence 18 = .ok (.getfield 18, 3) := by decide +kernel
theorem dX9_knotsSentence_21 : decode cX9_knotsSentence 21 = .ok (.iconst 2, 1) := by decide +kernel
theorem dX9_knotsSentence_22 : decode cX9_knotsSentence 22 = .ok (.if_icmp .eq 9, 3) := by decide +kernel
theorem dX9_knotsSentence_25 : decode cX9_knotsSentence 25 = .ok (.aload_n 0, 1) := by decide +kernel
theorem dX9_knotsSentence_26 : decode cX9_knotsSentence 26 = .ok (.iconst 1, 1) := by decide +kernel
theorem dX9_knotsSentence_27 : decode cX9_knotsSentence 27 = .ok (.invokevirtual 78, 3) := by decide +kernel
theorem dX9_knotsSentence_30 : decode cX9_knotsSentence 30 = .ok (.ireturn, 1) := by decide +kernel
theorem dX9_knotsSentence_31 : decode cX9_knotsSentence 31 = .ok (.aload_n 0, 1) := by decide +kernel
theorem dX9_knotsSentence_32 : decode cX9_knotsSentence 32 = .ok (.getfield 24, 3) := by decide +kernel
theorem dX9_knotsSentence_35 : decode cX9_knotsSentence 35 = .ok (.iconst 2, 1) := by decide +kernel
theorem dX9_knotsSentence_36 : decode cX9_knotsSentence 36 = .ok (.if_icmp .lt 12, 3) := by decide +kernel
theorem dX9_knotsSentence_39 : decode cX9_knotsSentence 39 = .ok (.aload_n 0, 1) := by decide +kernel
theorem dX9_knotsSentence_40 : decode cX9_knotsSentence 40 = .ok (.getfield 24, 3) := by decide +kernel
theorem dX9_knotsSentence_43 : decode cX9_knotsSentence 43 = .ok (.bipush 8, 2) := by decide +kernel
theorem dX9_knotsSentence_45 : decode cX9_knotsSentence 45 = .ok (.if_icmp .le 9, 3) := by decide +kernel
theorem dX9_knotsSentence_48 : decode cX9_knotsSentence 48 = .ok (.aload_n 0, 1) := by decide +kernel
theorem dX9_knotsSentence_49 : decode cX9_knotsSentence 49 = .ok (.iconst 2, 1) := by decide +kernel
theorem dX9_knotsSentence_50 : decode cX9_knotsSentence 50 = .ok (.invokevirtual 78, 3) := by decide +kernel
theorem dX9_knotsSentence_53 : decode cX9_knotsSentence 53 = .ok (.ireturn, 1) := by decide +kernel
theorem dX9_knotsSentence_54 : decode cX9_knotsSentence 54 = .ok (.aload_n 0, 1) := by decide +kernel
theorem dX9_knotsSentence_55 : decode cX9_knotsSentence 55 = .ok (.iconst 1, 1) := by decide +kernel
theorem dX9_knotsSentence_56 : decode cX9_knotsSentence 56 = .ok (.putfield 30, 3) := by decide +kernel
theorem dX9_knotsSentence_59 : decode cX9_knotsSentence 59 = .ok (.aload_n 0, 1) := by decide +kernel
theorem dX9_knotsSentence_60 : decode cX9_knotsSentence 60 = .ok (.getfield 50, 3) := by decide +kernel
theorem dX9_knotsSentence_63 : decode cX9_knotsSentence 63 = .ok (.aload_n 0, 1) := by decide +kernel
theorem dX9_knotsSentence_64 : decode cX9_knotsSentence 64 = .ok (.getfield 24, 3) := by decide +kernel
theorem dX9_knotsSentence_67 : decode cX9_knotsSentence 67 = .ok (.putfield 102, 3) := by decide +kernel
theorem dX9_knotsSentence_70 : decode cX9_knotsSentence 70 = .ok (.aload_n 0, 1) := by decide +kernel
theorem dX9_knotsSentence_71 : decode cX9_knotsSentence 71 = .ok (.getfield 50, 3) := by decide +kernel
theorem dX9_knotsSentence_74 : decode cX9_knotsSentence 74 = .ok (.aload_n 0, 1) := by decide +kernel
theorem dX9_knotsSentence_75 : decode cX9_knotsSentence 75 = .ok (.getfield 24, 3) := by decide +kernel
theorem dX9_knotsSentence_78 : decode cX9_knotsSentence 78 = .ok (.iconst 1, 1) := by decide +kernel
theorem dX9_knotsSentence_79 : decode cX9_knotsSentence 79 = .ok (.isub, 1) := by decide +kernel
theorem dX9_knotsSentence_80 : decode cX9_knotsSentence 80 = .ok (.putfield 105, 3) := by decide +kernel
theorem dX9_knotsSentence_83 : decode cX9_knotsSentence 83 = .ok (.aload_n 0, 1) := by decide +kernel
theorem dX9_knotsSentence_84 : decode cX9_knotsSentence 84 = .ok (.invokevirtual 65, 3) := by decide +kernel
theorem dX9_knotsSentence_87 : decode cX9_knotsSentence 87 = .ok (.iconst 1, 1) := by decide +kernel
theorem dX9_knotsSentence_88 : decode cX9_knotsSentence 88 = .ok (.ireturn, 1) := by decide +kernel
theorem dX9_endsSentence_0 : decode cX9_endsSentence 0 = .ok (.aload_n 0, 1) := by decide +kernel
theorem dX9_endsSentence_1 : decode cX9_endsSentence 1 = .ok (.getfield 34, 3) := by decide +kernel
theorem dX9_endsSentence_4 : decode cX9_endsSentence 4 = .ok (.ifCond .eq 9, 3) := by decide +kernel
theorem dX9_endsSentence_7 : decode cX9_endsSentence 7 = .ok (.aload_n 0, 1) := by decide +kernel
theorem dX9_endsSentence_8 : decode cX9_endsSentence 8 = .ok (.iconst 3, 1) := by decide +kernel
theorem dX9_endsSentence_9 : decode cX9_endsSentence 9 = .ok (.invokevirtual 78, 3) := by decide +kernel
theorem dX9_endsSentence_12 : decode cX9_endsSentence 12 = .ok (.ireturn, 1) := by decide +kernel
theorem dX9_endsSentence_13 : decode cX9_endsSentence 13 = .ok (.aload_n 0, 1) := by decide +kernel
theorem dX9_endsSentence_14 : decode cX9_endsSentence 14 = .ok (.iconst 1, 1) := by decide +kernel
theorem dX9_endsSentence_15 : decode cX9_endsSentence 15 = .ok (.putfield 34, 3) := by decide +kernel
theorem dX9_endsSentence_18 : decode cX9_endsSentence 18 = .ok (.aload_n 0, 1) := by decide +kernel
theorem dX9_endsSentence_19 : decode cX9_endsSentence 19 = .ok (.invokevirtual 108, 3) := by decide +kernel
theorem dX9_endsSentence_22 : decode cX9_endsSentence 22 = .ok (.ifCond .ne 5, 3) := by decide +kernel
theorem dX9_endsSentence_25 : decode cX9_endsSentence 25 = .ok (.iconst 0, 1) := by decide +kernel
theorem dX9_endsSentence_26 : decode cX9_endsSentence 26 = .ok (.ireturn, 1) := by decide +kernel
theorem dX9_endsSentence_27 : decode cX9_endsSentence 27 = .ok (.aload_n 0, 1) := by decide +kernel
theorem dX9_endsSentence_28 : decode cX9_endsSentence 28 = .ok (.getfield 50, 3) := by decide +kernel
theorem dX9_endsSentence_31 : decode cX9_endsSentence 31 = .ok (.aload_n 0, 1) := by decide +kernel
theorem dX9_endsSentence_32 : decode cX9_endsSentence 32 = .ok (.getfield 27, 3) := by decide +kernel
theorem dX9_endsSentence_35 : decode cX9_endsSentence 35 = .ok (.putfield 111, 3) := by decide +kernel
theorem dX9_endsSentence_38 : decode cX9_endsSentence 38 = .ok (.aload_n 0, 1) := by decide +kernel
theorem dX9_endsSentence_39 : decode cX9_endsSentence 39 = .ok (.getfield 50, 3) := by decide +kernel
theorem dX9_endsSentence_42 : decode cX9_endsSentence 42 = .ok (.aload_n 0, 1) := by decide +kernel
theorem dX9_endsSentence_43 : decode cX9_endsSentence 43 = .ok (.getfield 24, 3) := by decide +kernel
theorem dX9_endsSentence_46 : decode cX9_endsSentence 46 = .ok (.putfield 105, 3) := by decide +kernel
theorem dX9_endsSentence_49 : decode cX9_endsSentence 49 = .ok (.aload_n 0, 1) := by decide +kernel
theorem dX9_endsSentence_50 : decode cX9_endsSentence 50 = .ok (.invokevirtual 65, 3) := by decide +kernel
theorem dX9_endsSentence_53 : decode cX9_endsSentence 53 = .ok (.iconst 1, 1) := by decide +kernel
theorem dX9_endsSentence_54 : decode cX9_endsSentence 54 = .ok (.ireturn, 1) := by decide +kernel
theorem dX9_lineSentence_0 : decode cX9_lineSentence 0 = .ok (.aload_n 0, 1) := by decide +kernel
theorem dX9_lineSentence_1 : decode cX9_lineSentence 1 = .ok (.getfield 50, 3) := by decide +kernel
theorem dX9_lineSentence_4 : decode cX9_lineSentence 4 = .ok (.getfield 114, 3) := by decide +kernel
theorem dX9_lineSentence_7 : decode cX9_lineSentence 7 = .ok (.bipush 14, 2) := by decide +kernel
theorem dX9_lineSentence_9 : decode cX9_lineSentence 9 = .ok (.if_icmp .lt 9, 3) := by decide +kernel
theorem dX9_lineSentence_12 : decode cX9_lineSentence 12 = .ok (.aload_n 0, 1) := by decide +kernel
theorem dX9_lineSentence_13 : decode cX9_lineSentence 13 = .ok (.iconst 2, 1) := by decide +kernel
theorem dX9_lineSentence_14 : decode cX9_lineSentence 14 = .ok (.invokevirtual 78, 3) := by decide +kernel
theorem dX9_lineSentence_17 : decode cX9_lineSentence 17 = .ok (.ireturn, 1) := by decide +kernel
theorem dX9_lineSentence_18 : decode cX9_lineSentence 18 = .ok (.aload_n 0, 1) := by decide +kernel
theorem dX9_lineSentence_19 : decode cX9_lineSentence 19 = .ok (.invokevirtual 108, 3) := by decide +kernel
theorem dX9_lineSentence_22 : decode cX9_lineSentence 22 = .ok (.ifCond .ne 5, 3) := by decide +kernel
theorem dX9_lineSentence_25 : decode cX9_lineSentence 25 = .ok (.iconst 0, 1) := by decide +kernel
theorem dX9_lineSentence_26 : decode cX9_lineSentence 26 = .ok (.ireturn, 1) := by decide +kernel
theorem dX9_lineSentence_27 : decode cX9_lineSentence 27 = .ok (.aload_n 0, 1) := by decide +kernel
theorem dX9_lineSentence_28 : decode cX9_lineSentence 28 = .ok (.getfield 50, 3) := by decide +kernel
theorem dX9_lineSentence_31 : decode cX9_lineSentence 31 = .ok (.aload_n 0, 1) := by decide +kernel
theorem dX9_lineSentence_32 : decode cX9_lineSentence 32 = .ok (.getfield 27, 3) := by decide +kernel
theorem dX9_lineSentence_35 : decode cX9_lineSentence 35 = .ok (.aload_n 0, 1) := by decide +kernel
theorem dX9_lineSentence_36 : decode cX9_lineSentence 36 = .ok (.getfield 24, 3) := by decide +kernel
theorem dX9_lineSentence_39 : decode cX9_lineSentence 39 = .ok (.invokevirtual 117, 3) := by decide +kernel
theorem dX9_lineSentence_42 : decode cX9_lineSentence 42 = .ok (.aload_n 0, 1) := by decide +kernel
theorem dX9_lineSentence_43 : decode cX9_lineSentence 43 = .ok (.invokevirtual 65, 3) := by decide +kernel
theorem dX9_lineSentence_46 : decode cX9_lineSentence 46 = .ok (.iconst 1, 1) := by decide +kernel
theorem dX9_lineSentence_47 : decode cX9_lineSentence 47 = .ok (.ireturn, 1) := by decide +kernel
theorem dX9_twoKnots_0 : decode cX9_twoKnots 0 = .ok (.aload_n 0, 1) := by decide +kernel
theorem dX9_twoKnots_1 : decode cX9_twoKnots 1 = .ok (.invokevirtual 65, 3) := by decide +kernel
theorem dX9_twoKnots_4 : decode cX9_twoKnots 4 = .ok (.aload_n 0, 1) := by decide +kernel
theorem dX9_twoKnots_5 : decode cX9_twoKnots 5 = .ok (.getfield 18, 3) := by decide +kernel
theorem dX9_twoKnots_8 : decode cX9_twoKnots 8 = .ok (.iconst 2, 1) := by decide +kernel
theorem dX9_twoKnots_9 : decode cX9_twoKnots 9 = .ok (.if_icmp .ne 17, 3) := by decide +kernel
theorem dX9_twoKnots_12 : decode cX9_twoKnots 12 = .ok (.aload_n 0, 1) := by decide +kernel
theorem dX9_twoKnots_13 : decode cX9_twoKnots 13 = .ok (.getfield 50, 3) := by decide +kernel
theorem dX9_twoKnots_16 : decode cX9_twoKnots 16 = .ok (.aload_n 0, 1) := by decide +kernel
theorem dX9_twoKnots_17 : decode cX9_twoKnots 17 = .ok (.getfield 24, 3) := by decide +kernel
theorem dX9_twoKnots_20 : decode cX9_twoKnots 20 = .ok (.invokevirtual 121, 3) := by decide +kernel
theorem dX9_twoKnots_23 : decode cX9_twoKnots 23 = .ok (.ifCond .ne 9, 3) := by decide +kernel
theorem dX9_twoKnots_26 : decode cX9_twoKnots 26 = .ok (.aload_n 0, 1) := by decide +kernel
theorem dX9_twoKnots_27 : decode cX9_twoKnots 27 = .ok (.iconst 1, 1) := by decide +kernel
theorem dX9_twoKnots_28 : decode cX9_twoKnots 28 = .ok (.invokevirtual 78, 3) := by decide +kernel
theorem dX9_twoKnots_31 : decode cX9_twoKnots 31 = .ok (.ireturn, 1) := by decide +kernel
theorem dX9_twoKnots_32 : decode cX9_twoKnots 32 = .ok (.aload_n 0, 1) := by decide +kernel
theorem dX9_twoKnots_33 : decode cX9_twoKnots 33 = .ok (.aload_n 0, 1) := by decide +kernel
theorem dX9_twoKnots_34 : decode cX9_twoKnots 34 = .ok (.getfield 24, 3) := by decide +kernel
theorem dX9_twoKnots_37 : decode cX9_twoKnots 37 = .ok (.putfield 27, 3) := by decide +kernel
theorem dX9_twoKnots_40 : decode cX9_twoKnots 40 = .ok (.aload_n 0, 1) := by decide +kernel
theorem dX9_twoKnots_41 : decode cX9_twoKnots 41 = .ok (.invokevirtual 65, 3) := by decide +kernel
theorem dX9_twoKnots_44 : decode cX9_twoKnots 44 = .ok (.aload_n 0, 1) := by decide +kernel
theorem dX9_twoKnots_45 : decode cX9_twoKnots 45 = .ok (.getfield 18, 3) := by decide +kernel
theorem dX9_twoKnots_48 : decode cX9_twoKnots 48 = .ok (.iconst 2, 1) := by decide +kernel
theorem dX9_twoKnots_49 : decode cX9_twoKnots 49 = .ok (.if_icmp .ne 17, 3) := by decide +kernel
theorem dX9_twoKnots_52 : decode cX9_twoKnots 52 = .ok (.aload_n 0, 1) := by decide +kernel
theorem dX9_twoKnots_53 : decode cX9_twoKnots 53 = .ok (.getfield 50, 3) := by decide +kernel
theorem dX9_twoKnots_56 : decode cX9_twoKnots 56 = .ok (.aload_n 0, 1) := by decide +kernel
theorem dX9_twoKnots_57 : decode cX9_twoKnots 57 = .ok (.getfield 24, 3) := by decide +kernel
theorem dX9_twoKnots_60 : decode cX9_twoKnots 60 = .ok (.invokevirtual 121, 3) := by decide +kernel
theorem dX9_twoKnots_63 : decode cX9_twoKnots 63 = .ok (.ifCond .ne 9, 3) := by decide +kernel
theorem dX9_twoKnots_66 : decode cX9_twoKnots 66 = .ok (.aload_n 0, 1) := by decide +kernel
theorem dX9_twoKnots_67 : decode cX9_twoKnots 67 = .ok (.iconst 1, 1) := by decide +kernel
theorem dX9_twoKnots_68 : decode cX9_twoKnots 68 = .ok (.invokevirtual 78, 3) := by decide +kernel
theorem dX9_twoKnots_71 : decode cX9_twoKnots 71 = .ok (.ireturn, 1) := by decide +kernel
theorem dX9_twoKnots_72 : decode cX9_twoKnots 72 = .ok (.aload_n 0, 1) := by decide +kernel
theorem dX9_twoKnots_73 : decode cX9_twoKnots 73 = .ok (.getfield 24, 3) := by decide +kernel
theorem dX9_twoKnots_76 : decode cX9_twoKnots 76 = .ok (.aload_n 0, 1) := by decide +kernel
theorem dX9_twoKnots_77 : decode cX9_twoKnots 77 = .ok (.getfield 27, 3) := by decide +kernel
theorem dX9_twoKnots_80 : decode cX9_twoKnots 80 = .ok (.if_icmp .ne 11, 3) := by decide +kernel
theorem dX9_twoKnots_83 : decode cX9_twoKnots 83 = .ok (.aload_n 0, 1) := by decide +kernel
theorem dX9_twoKnots_84 : decode cX9_twoKnots 84 = .ok (.iconst 3, 1) := by decide +kernel
theorem dX9_twoKnots_85 : decode cX9_twoKnots 85 = .ok (.invokevirtual 78, 3) := by decide +kernel
theorem dX9_twoKnots_88 : decode cX9_twoKnots 88 = .ok (.ifCond .eq 7, 3) := by decide +kernel
theorem dX9_twoKnots_91 : decode cX9_twoKnots 91 = .ok (.iconst 1, 1) := by decide +kernel
theorem dX9_twoKnots_92 : decode cX9_twoKnots 92 = .ok (.goto 4, 3) := by decide +kernel
theorem dX9_twoKnots_95 : decode cX9_twoKnots 95 = .ok (.iconst 0, 1) := by decide +kernel
theorem dX9_twoKnots_96 : decode cX9_twoKnots 96 = .ok (.ireturn, 1) := by decide +kernel
theorem dX9_standSentence_0 : decode cX9_standSentence 0 = .ok (.aload_n 0, 1) := by decide +kernel
theorem dX9_standSentence_1 : decode cX9_standSentence 1 = .ok (.invokevirtual 65, 3) := by decide +kernel
theorem dX9_standSentence_4 : decode cX9_standSentence 4 = .ok (.aload_n 0, 1) := by decide +kernel
theorem dX9_standSentence_5 : decode cX9_standSentence 5 = .ok (.getfield 18, 3) := by decide +kernel
theorem dX9_standSentence_8 : decode cX9_standSentence 8 = .ok (.iconst 2, 1) := by decide +kernel
theorem dX9_standSentence_9 : decode cX9_standSentence 9 = .ok (.if_icmp .ne 17, 3) := by decide +kernel
theorem dX9_standSentence_12 : decode cX9_standSentence 12 = .ok (.aload_n 0, 1) := by decide +kernel
theorem dX9_standSentence_13 : decode cX9_standSentence 13 = .ok (.getfield 50, 3) := by decide +kernel
theorem dX9_standSentence_16 : decode cX9_standSentence 16 = .ok (.aload_n 0, 1) := by decide +kernel
theorem dX9_standSentence_17 : decode cX9_standSentence 17 = .ok (.getfield 24, 3) := by decide +kernel
theorem dX9_standSentence_20 : decode cX9_standSentence 20 = .ok (.invokevirtual 124, 3) := by decide +kernel
theorem dX9_standSentence_23 : decode cX9_standSentence 23 = .ok (.ifCond .ne 9, 3) := by decide +kernel
theorem dX9_standSentence_26 : decode cX9_standSentence 26 = .ok (.aload_n 0, 1) := by decide +kernel
theorem dX9_standSentence_27 : decode cX9_standSentence 27 = .ok (.iconst 1, 1) := by decide +kernel
theorem dX9_standSentence_28 : decode cX9_standSentence 28 = .ok (.invokevirtual 78, 3) := by decide +kernel
theorem dX9_standSentence_31 : decode cX9_standSentence 31 = .ok (.ireturn, 1) := by decide +kernel
theorem dX9_standSentence_32 : decode cX9_standSentence 32 = .ok (.aload_n 0, 1) := by decide +kernel
theorem dX9_standSentence_33 : decode cX9_standSentence 33 = .ok (.getfield 50, 3) := by decide +kernel
theorem dX9_standSentence_36 : decode cX9_standSentence 36 = .ok (.getfield 127, 3) := by decide +kernel
theorem dX9_standSentence_39 : decode cX9_standSentence 39 = .ok (.aload_n 0, 1) := by decide +kernel
theorem dX9_standSentence_40 : decode cX9_standSentence 40 = .ok (.getfield 50, 3) := by decide +kernel
theorem dX9_standSentence_43 : decode cX9_standSentence 43 = .ok (.getfield 130, 3) := by decide +kernel
theorem dX9_standSentence_46 : decode cX9_standSentence 46 = .ok (.ior, 1) := by decide +kernel
theorem dX9_standSentence_47 : decode cX9_standSentence 47 = .ok (.aload_n 0, 1) := by decide +kernel
theorem dX9_standSentence_48 : decode cX9_standSentence 48 = .ok (.getfield 24, 3) := by decide +kernel
theorem dX9_standSentence_51 : decode cX9_standSentence 51 = .ok (.invokestatic 133, 3) := by decide +kernel
theorem dX9_standSentence_54 : decode cX9_standSentence 54 = .ok (.ifCond .eq 9, 3) := by decide +kernel
theorem dX9_standSentence_57 : decode cX9_standSentence 57 = .ok (.aload_n 0, 1) := by decide +kernel
theorem dX9_standSentence_58 : decode cX9_standSentence 58 = .ok (.iconst 3, 1) := by decide +kernel
theorem dX9_standSentence_59 : decode cX9_standSentence 59 = .ok (.invokevirtual 78, 3) := by decide +kernel
theorem dX9_standSentence_62 : decode cX9_standSentence 62 = .ok (.ireturn, 1) := by decide +kernel
theorem dX9_standSentence_63 : decode cX9_standSentence 63 = .ok (.iload_n 1, 1) := by decide +kernel
theorem dX9_standSentence_64 : decode cX9_standSentence 64 = .ok (.ifCond .eq 24, 3) := by decide +kernel
theorem dX9_standSentence_67 : decode cX9_standSentence 67 = .ok (.aload_n 0, 1) := by decide +kernel
theorem dX9_standSentence_68 : decode cX9_standSentence 68 = .ok (.getfield 50, 3) := by decide +kernel
theorem dX9_standSentence_71 : decode cX9_standSentence 71 = .ok (.dup, 1) := by decide +kernel
theorem dX9_standSentence_72 : decode cX9_standSentence 72 = .ok (.getfield 127, 3) := by decide +kernel
theorem dX9_standSentence_75 : decode cX9_standSentence 75 = .ok (.iconst 1, 1) := by decide +kernel
theorem dX9_standSentence_76 : decode cX9_standSentence 76 = .ok (.aload_n 0, 1) := by decide +kernel
theorem dX9_standSentence_77 : decode cX9_standSentence 77 = .ok (.getfield 24, 3) := by decide +kernel
theorem dX9_standSentence_80 : decode cX9_standSentence 80 = .ok (.ishl, 1) := by decide +kernel
theorem dX9_standSentence_81 : decode cX9_standSentence 81 = .ok (.ior, 1) := by decide +kernel
theorem dX9_standSentence_82 : decode cX9_standSentence 82 = .ok (.putfield 127, 3) := by decide +kernel
theorem dX9_standSentence_85 : decode cX9_standSentence 85 = .ok (.goto 21, 3) := by decide +kernel
theorem dX9_standSentence_88 : decode cX9_standSentence 88 = .ok (.aload_n 0, 1) := by decide +kernel
theorem dX9_standSentence_89 : decode cX9_standSentence 89 = .ok (.getfield 50, 3) := by decide +kernel
theorem dX9_standSentence_92 : decode cX9_standSentence 92 = .ok (.dup, 1) := by decide +kernel
theorem dX9_standSentence_93 : decode cX9_standSentence 93 = .ok (.getfield 130, 3) := by decide +kernel
theorem dX9_standSentence_96 : decode cX9_standSentence 96 = .ok (.iconst 1, 1) := by decide +kernel
theorem dX9_standSentence_97 : decode cX9_standSentence 97 = .ok (.aload_n 0, 1) := by decide +kernel
theorem dX9_standSentence_98 : decode cX9_standSentence 98 = .ok (.getfield 24, 3) := by decide +kernel
theorem dX9_standSentence_101 : decode cX9_standSentence 101 = .ok (.ishl, 1) := by decide +kernel
theorem dX9_standSentence_102 : decode cX9_standSentence 102 = .ok (.ior, 1) := by decide +kernel
theorem dX9_standSentence_103 : decode cX9_standSentence 103 = .ok (.putfield 130, 3) := by decide +kernel
theorem dX9_standSentence_106 : decode cX9_standSentence 106 = .ok (.aload_n 0, 1) := by decide +kernel
theorem dX9_standSentence_107 : decode cX9_standSentence 107 = .ok (.invokevirtual 65, 3) := by decide +kernel
theorem dX9_standSentence_110 : decode cX9_standSentence 110 = .ok (.iconst 1, 1) := by decide +kernel
theorem dX9_standSentence_111 : decode cX9_standSentence 111 = .ok (.ireturn, 1) := by decide +kernel
theorem dX9_firstSentence_0 : decode cX9_firstSentence 0 = .ok (.aload_n 0, 1) := by decide +kernel
theorem dX9_firstSentence_1 : decode cX9_firstSentence 1 = .ok (.getfield 37, 3) := by decide +kernel
theorem dX9_firstSentence_4 : decode cX9_firstSentence 4 = .ok (.ifCond .eq 9, 3) := by decide +kernel
theorem dX9_firstSentence_7 : decode cX9_firstSentence 7 = .ok (.aload_n 0, 1) := by decide +kernel
theorem dX9_firstSentence_8 : decode cX9_firstSentence 8 = .ok (.iconst 3, 1) := by decide +kernel
theorem dX9_firstSentence_9 : decode cX9_firstSentence 9 = .ok (.invokevirtual 78, 3) := by decide +kernel
theorem dX9_firstSentence_12 : decode cX9_firstSentence 12 = .ok (.ireturn, 1) := by decide +kernel
theorem dX9_firstSentence_13 : decode cX9_firstSentence 13 = .ok (.aload_n 0, 1) := by decide +kernel
theorem dX9_firstSentence_14 : decode cX9_firstSentence 14 = .ok (.iconst 1, 1) := by decide +kernel
theorem dX9_firstSentence_15 : decode cX9_firstSentence 15 = .ok (.putfield 37, 3) := by decide +kernel
theorem dX9_firstSentence_18 : decode cX9_firstSentence 18 = .ok (.aload_n 0, 1) := by decide +kernel
theorem dX9_firstSentence_19 : decode cX9_firstSentence 19 = .ok (.invokevirtual 65, 3) := by decide +kernel
theorem dX9_firstSentence_22 : decode cX9_firstSentence 22 = .ok (.aload_n 0, 1) := by decide +kernel
theorem dX9_firstSentence_23 : decode cX9_firstSentence 23 = .ok (.invokevirtual 82, 3) := by decide +kernel
theorem dX9_firstSentence_26 : decode cX9_firstSentence 26 = .ok (.istore_n 1, 1) := by decide +kernel
theorem dX9_firstSentence_27 : decode cX9_firstSentence 27 = .ok (.iload_n 1, 1) := by decide +kernel
theorem dX9_firstSentence_28 : decode cX9_firstSentence 28 = .ok (.bipush 7, 2) := by decide +kernel
theorem dX9_firstSentence_30 : decode cX9_firstSentence 30 = .ok (.if_icmp .eq 15, 3) := by decide +kernel
theorem dX9_firstSentence_33 : decode cX9_firstSentence 33 = .ok (.iload_n 1, 1) := by decide +kernel
theorem dX9_firstSentence_34 : decode cX9_firstSentence 34 = .ok (.bipush 8, 2) := by decide +kernel
theorem dX9_firstSentence_36 : decode cX9_firstSentence 36 = .ok (.if_icmp .eq 9, 3) := by decide +kernel
theorem dX9_firstSentence_39 : decode cX9_firstSentence 39 = .ok (.aload_n 0, 1) := by decide +kernel
theorem dX9_firstSentence_40 : decode cX9_firstSentence 40 = .ok (.iconst 1, 1) := by decide +kernel
theorem dX9_firstSentence_41 : decode cX9_firstSentence 41 = .ok (.invokevirtual 78, 3) := by decide +kernel
theorem dX9_firstSentence_44 : decode cX9_firstSentence 44 = .ok (.ireturn, 1) := by decide +kernel
theorem dX9_firstSentence_45 : decode cX9_firstSentence 45 = .ok (.aload_n 0, 1) := by decide +kernel
theorem dX9_firstSentence_46 : decode cX9_firstSentence 46 = .ok (.getfield 50, 3) := by decide +kernel
theorem dX9_firstSentence_49 : decode cX9_firstSentence 49 = .ok (.iload_n 1, 1) := by decide +kernel
theorem dX9_firstSentence_50 : decode cX9_firstSentence 50 = .ok (.bipush 7, 2) := by decide +kernel
theorem dX9_firstSentence_52 : decode cX9_firstSentence 52 = .ok (.if_icmp .ne 7, 3) := by decide +kernel
theorem dX9_firstSentence_55 : decode cX9_firstSentence 55 = .ok (.iconst 0, 1) := by decide +kernel
theorem dX9_firstSentence_56 : decode cX9_firstSentence 56 = .ok (.goto 4, 3) := by decide +kernel
theorem dX9_firstSentence_59 : decode cX9_firstSentence 59 = .ok (.iconst 1, 1) := by decide +kernel
theorem dX9_firstSentence_60 : decode cX9_firstSentence 60 = .ok (.putfield 137, 3) := by decide +kernel
theorem dX9_firstSentence_63 : decode cX9_firstSentence 63 = .ok (.aload_n 0, 1) := by decide +kernel
theorem dX9_firstSentence_64 : decode cX9_firstSentence 64 = .ok (.invokevirtual 65, 3) := by decide +kernel
theorem dX9_firstSentence_67 : decode cX9_firstSentence 67 = .ok (.iconst 1, 1) := by decide +kernel
theorem dX9_firstSentence_68 : decode cX9_firstSentence 68 = .ok (.ireturn, 1) := by decide +kernel
theorem dX9_step_0 : decode cX9_step 0 = .ok (.aload_n 0, 1) := by decide +kernel
theorem dX9_step_1 : decode cX9_step 1 = .ok (.getfield 15, 3) := by decide +kernel
theorem dX9_step_4 : decode cX9_step 4 = .ok (.aload_n 0, 1) := by decide +kernel
theorem dX9_step_5 : decode cX9_step 5 = .ok (.getfield 9, 3) := by decide +kernel
theorem dX9_step_8 : decode cX9_step 8 = .ok (.if_icmp .ge 30, 3) := by decide +kernel
theorem dX9_step_11 : decode cX9_step 11 = .ok (.aload_n 0, 1) := by decide +kernel
theorem dX9_step_12 : decode cX9_step 12 = .ok (.aload_n 0, 1) := by decide +kernel
theorem dX9_step_13 : decode cX9_step 13 = .ok (.getfield 15, 3) := by decide +kernel
theorem dX9_step_16 : decode cX9_step 16 = .ok (.invokevirtual 140, 3) := by decide +kernel
theorem dX9_step_19 : decode cX9_step 19 = .ok (.invokestatic 144, 3) := by decide +kernel
theorem dX9_step_22 : decode cX9_step 22 = .ok (.ifCond .eq 16, 3) := by decide +kernel
theorem dX9_step_25 : decode cX9_step 25 = .ok (.aload_n 0, 1) := by decide +kernel
theorem dX9_step_26 : decode cX9_step 26 = .ok (.dup, 1) := by decide +kernel
theorem dX9_step_27 : decode cX9_step 27 = .ok (.getfield 15, 3) := by decide +kernel
theorem dX9_step_30 : decode cX9_step 30 = .ok (.iconst 1, 1) := by decide +kernel
theorem dX9_step_31 : decode cX9_step 31 = .ok (.iadd, 1) := by decide +kernel
theorem dX9_step_32 : decode cX9_step 32 = .ok (.putfield 15, 3) := by decide +kernel
theorem dX9_step_35 : decode cX9_step 35 = .ok (.goto (-35), 3) := by decide +kernel
theorem dX9_step_38 : decode cX9_step 38 = .ok (.aload_n 0, 1) := by decide +kernel
theorem dX9_step_39 : decode cX9_step 39 = .ok (.aload_n 0, 1) := by decide +kernel
theorem dX9_step_40 : decode cX9_step 40 = .ok (.getfield 15, 3) := by decide +kernel
theorem dX9_step_43 : decode cX9_step 43 = .ok (.putfield 21, 3) := by decide +kernel
theorem dX9_step_46 : decode cX9_step 46 = .ok (.aload_n 0, 1) := by decide +kernel
theorem dX9_step_47 : decode cX9_step 47 = .ok (.getfield 15, 3) := by decide +kernel
theorem dX9_step_50 : decode cX9_step 50 = .ok (.aload_n 0, 1) := by decide +kernel
theorem dX9_step_51 : decode cX9_step 51 = .ok (.getfield 9, 3) := by decide +kernel
theorem dX9_step_54 : decode cX9_step 54 = .ok (.if_icmp .lt 11, 3) := by decide +kernel
theorem dX9_step_57 : decode cX9_step 57 = .ok (.aload_n 0, 1) := by decide +kernel
theorem dX9_step_58 : decode cX9_step 58 = .ok (.iconst 0, 1) := by decide +kernel
theorem dX9_step_59 : decode cX9_step 59 = .ok (.putfield 18, 3) := by decide +kernel
theorem dX9_step_62 : decode cX9_step 62 = .ok (.goto 113, 3) := by decide +kernel
theorem dX9_step_65 : decode cX9_step 65 = .ok (.aload_n 0, 1) := by decide +kernel
theorem dX9_step_66 : decode cX9_step 66 = .ok (.aload_n 0, 1) := by decide +kernel
theorem dX9_step_67 : decode cX9_step 67 = .ok (.getfield 15, 3) := by decide +kernel
theorem dX9_step_70 : decode cX9_step 70 = .ok (.invokevirtual 140, 3) := by decide +kernel
theorem dX9_step_73 : decode cX9_step 73 = .ok (.invokestatic 147, 3) := by decide +kernel
theorem dX9_step_76 : decode cX9_step 76 = .ok (.ifCond .eq 46, 3) := by decide +kernel
theorem dX9_step_79 : decode cX9_step 79 = .ok (.aload_n 0, 1) := by decide +kernel
theorem dX9_step_80 : decode cX9_step 80 = .ok (.iconst 1, 1) := by decide +kernel
theorem dX9_step_81 : decode cX9_step 81 = .ok (.putfield 18, 3) := by decide +kernel
theorem dX9_step_84 : decode cX9_step 84 = .ok (.aload_n 0, 1) := by decide +kernel
theorem dX9_step_85 : decode cX9_step 85 = .ok (.getfield 15, 3) := by decide +kernel
theorem dX9_step_88 : decode cX9_step 88 = .ok (.aload_n 0, 1) := by decide +kernel
theorem dX9_step_89 : decode cX9_step 89 = .ok (.getfield 9, 3) := by decide +kernel
theorem dX9_step_92 : decode cX9_step 92 = .ok (.if_icmp .ge 83, 3) := by decide +kernel
theorem dX9_step_95 : decode cX9_step 95 = .ok (.aload_n 0, 1) := by decide +kernel
theorem dX9_step_96 : decode cX9_step 96 = .ok (.aload_n 0, 1) := by decide +kernel
theorem dX9_step_97 : decode cX9_step 97 = .ok (.getfield 15, 3) := by decide +kernel
theorem dX9_step_100 : decode cX9_step 100 = .ok (.invokevirtual 140, 3) := by decide +kernel
theorem dX9_step_103 : decode cX9_step 103 = .ok (.invokestatic 147, 3) := by decide +kernel
theorem dX9_step_106 : decode cX9_step 106 = .ok (.ifCond .eq 69, 3) := by decide +kernel
theorem dX9_step_109 : decode cX9_step 109 = .ok (.aload_n 0, 1) := by decide +kernel
theorem dX9_step_110 : decode cX9_step 110 = .ok (.dup, 1) := by decide +kernel
theorem dX9_step_111 : decode cX9_step 111 = .ok (.getfield 15, 3) := by decide +kernel
theorem dX9_step_114 : decode cX9_step 114 = .ok (.iconst 1, 1) := by decide +kernel
theorem dX9_step_115 : decode cX9_step 115 = .ok (.iadd, 1) := by decide +kernel
theorem dX9_step_116 : decode cX9_step 116 = .ok (.putfield 15, 3) := by decide +kernel
theorem dX9_step_119 : decode cX9_step 119 = .ok (.goto (-35), 3) := by decide +kernel
theorem dX9_step_122 : decode cX9_step 122 = .ok (.aload_n 0, 1) := by decide +kernel
theorem dX9_step_123 : decode cX9_step 123 = .ok (.aload_n 0, 1) := by decide +kernel
theorem dX9_step_124 : decode cX9_step 124 = .ok (.getfield 15, 3) := by decide +kernel
theorem dX9_step_127 : decode cX9_step 127 = .ok (.invokevirtual 140, 3) := by decide +kernel
theorem dX9_step_130 : decode cX9_step 130 = .ok (.invokestatic 150, 3) := by decide +kernel
theorem dX9_step_133 : decode cX9_step 133 = .ok (.ifCond .eq 10, 3) := by decide +kernel
theorem dX9_step_136 : decode cX9_step 136 = .ok (.aload_n 0, 1) := by decide +kernel
theorem dX9_step_137 : decode cX9_step 137 = .ok (.invokevirtual 153, 3) := by decide +kernel
theorem dX9_step_140 : decode cX9_step 140 = .ok (.goto 35, 3) := by decide +kernel
theorem dX9_step_143 : decode cX9_step 143 = .ok (.aload_n 0, 1) := by decide +kernel
theorem dX9_step_144 : decode cX9_step 144 = .ok (.aload_n 0, 1) := by decide +kernel
theorem dX9_step_145 : decode cX9_step 145 = .ok (.aload_n 0, 1) := by decide +kernel
theorem dX9_step_146 : decode cX9_step 146 = .ok (.getfield 15, 3) := by decide +kernel
theorem dX9_step_149 : decode cX9_step 149 = .ok (.invokevirtual 140, 3) := by decide +kernel
theorem dX9_step_152 : decode cX9_step 152 = .ok (.bipush 59, 2) := by decide +kernel
theorem dX9_step_154 : decode cX9_step 154 = .ok (.if_icmp .ne 7, 3) := by decide +kernel
theorem dX9_step_157 : decode cX9_step 157 = .ok (.iconst 3, 1) := by decide +kernel
theorem dX9_step_158 : decode cX9_step 158 = .ok (.goto 4, 3) := by decide +kernel
theorem dX9_step_161 : decode cX9_step 161 = .ok (.iconst 4, 1) := by decide +kernel
theorem dX9_step_162 : decode cX9_step 162 = .ok (.putfield 18, 3) := by decide +kernel
theorem dX9_step_165 : decode cX9_step 165 = .ok (.aload_n 0, 1) := by decide +kernel
theorem dX9_step_166 : decode cX9_step 166 = .ok (.dup, 1) := by decide +kernel
theorem dX9_step_167 : decode cX9_step 167 = .ok (.getfield 15, 3) := by decide +kernel
theorem dX9_step_170 : decode cX9_step 170 = .ok (.iconst 1, 1) := by decide +kernel
theorem dX9_step_171 : decode cX9_step 171 = .ok (.iadd, 1) := by decide +kernel
theorem dX9_step_172 : decode cX9_step 172 = .ok (.putfield 15, 3) := by decide +kernel
theorem dX9_step_175 : decode cX9_step 175 = .ok (.return_, 1) := by decide +kernel
theorem dX9_takeNumber_0 : decode cX9_takeNumber 0 = .ok (.aload_n 0, 1) := by decide +kernel
theorem dX9_takeNumber_1 : decode cX9_takeNumber 1 = .ok (.iconst 2, 1) := by decide +kernel
theorem dX9_takeNumber_2 : decode cX9_takeNumber 2 = .ok (.putfield 18, 3) := by decide +kernel
theorem dX9_takeNumber_5 : decode cX9_takeNumber 5 = .ok (.aload_n 0, 1) := by decide +kernel
theorem dX9_takeNumber_6 : decode cX9_takeNumber 6 = .ok (.iconst 0, 1) := by decide +kernel
theorem dX9_takeNumber_7 : decode cX9_takeNumber 7 = .ok (.putfield 24, 3) := by decide +kernel
theorem dX9_takeNumber_10 : decode cX9_takeNumber 10 = .ok (.aload_n 0, 1) := by decide +kernel
theorem dX9_takeNumber_11 : decode cX9_takeNumber 11 = .ok (.getfield 15, 3) := by decide +kernel
theorem dX9_takeNumber_14 : decode cX9_takeNumber 14 = .ok (.aload_n 0, 1) := by decide +kernel
theorem dX9_takeNumber_15 : decode cX9_takeNumber 15 = .ok (.getfield 9, 3) := by decide +kernel
theorem dX9_takeNumber_18 : decode cX9_takeNumber 18 = .ok (.if_icmp .ge 62, 3) := by decide +kernel
theorem dX9_takeNumber_21 : decode cX9_takeNumber 21 = .ok (.aload_n 0, 1) := by decide +kernel
theorem dX9_takeNumber_22 : decode cX9_takeNumber 22 = .ok (.aload_n 0, 1) := by decide +kernel
theorem dX9_takeNumber_23 : decode cX9_takeNumber 23 = .ok (.getfield 15, 3) := by decide +kernel
theorem dX9_takeNumber_26 : decode cX9_takeNumber 26 = .ok (.invokevirtual 140, 3) := by decide +kernel
theorem dX9_takeNumber_29 : decode cX9_takeNumber 29 = .ok (.invokestatic 150, 3) := by decide +kernel
theorem dX9_takeNumber_32 : decode cX9_takeNumber 32 = .ok (.ifCond .eq 48, 3) := by decide +kernel
theorem dX9_takeNumber_35 : decode cX9_takeNumber 35 = .ok (.aload_n 0, 1) := by decide +kernel
theorem dX9_takeNumber_36 : decode cX9_takeNumber 36 = .ok (.getfield 24, 3) := by decide +kernel
theorem dX9_takeNumber_39 : decode cX9_takeNumber 39 = .ok (.ldc 156, 2) := by decide +kernel
theorem dX9_takeNumber_41 : decode cX9_takeNumber 41 = .ok (.if_icmp .ge 26, 3) := by decide +kernel
theorem dX9_takeNumber_44 : decode cX9_takeNumber 44 = .ok (.aload_n 0, 1) := by decide +kernel
theorem dX9_takeNumber_45 : decode cX9_takeNumber 45 = .ok (.aload_n 0, 1) := by decide +kernel
theorem dX9_takeNumber_46 : decode cX9_takeNumber 46 = .ok (.getfield 24, 3) := by decide +kernel
theorem dX9_takeNumber_49 : decode cX9_takeNumber 49 = .ok (.bipush 10, 2) := by decide +kernel
theorem dX9_takeNumber_51 : decode cX9_takeNumber 51 = .ok (.imul, 1) := by decide +kernel
theorem dX9_takeNumber_52 : decode cX9_takeNumber 52 = .ok (.aload_n 0, 1) := by decide +kernel
theorem dX9_takeNumber_53 : decode cX9_takeNumber 53 = .ok (.aload_n 0, 1) := by decide +kernel
theorem dX9_takeNumber_54 : decode cX9_takeNumber 54 = .ok (.getfield 15, 3) := by decide +kernel
theorem dX9_takeNumber_57 : decode cX9_takeNumber 57 = .ok (.invokevirtual 140, 3) := by decide +kernel
theorem dX9_takeNumber_60 : decode cX9_takeNumber 60 = .ok (.bipush 48, 2) := by decide +kernel
theorem dX9_takeNumber_62 : decode cX9_takeNumber 62 = .ok (.isub, 1) := by decide +kernel
theorem dX9_takeNumber_63 : decode cX9_takeNumber 63 = .ok (.iadd, 1) := by decide +kernel
theorem dX9_takeNumber_64 : decode cX9_takeNumber 64 = .ok (.putfield 24, 3) := by decide +kernel
theorem dX9_takeNumber_67 : decode cX9_takeNumber 67 = .ok (.aload_n 0, 1) := by decide +kernel
theorem dX9_takeNumber_68 : decode cX9_takeNumber 68 = .ok (.dup, 1) := by decide +kernel
theorem dX9_takeNumber_69 : decode cX9_takeNumber 69 = .ok (.getfield 15, 3) := by decide +kernel
theorem dX9_takeNumber_72 : decode cX9_takeNumber 72 = .ok (.iconst 1, 1) := by decide +kernel
theorem dX9_takeNumber_73 : decode cX9_takeNumber 73 = .ok (.iadd, 1) := by decide +kernel
theorem dX9_takeNumber_74 : decode cX9_takeNumber 74 = .ok (.putfield 15, 3) := by decide +kernel
theorem dX9_takeNumber_77 : decode cX9_takeNumber 77 = .ok (.goto (-67), 3) := by decide +kernel
theorem dX9_takeNumber_80 : decode cX9_takeNumber 80 = .ok (.return_, 1) := by decide +kernel
theorem dX9_word_0 : decode cX9_word 0 = .ok (.aload_n 0, 1) := by decide +kernel
theorem dX9_word_1 : decode cX9_word 1 = .ok (.getfield 18, 3) := by decide +kernel
theorem dX9_word_4 : decode cX9_word 4 = .ok (.iconst 1, 1) := by decide +kernel
theorem dX9_word_5 : decode cX9_word 5 = .ok (.if_icmp .eq 5, 3) := by decide +kernel
theorem dX9_word_8 : decode cX9_word 8 = .ok (.iconst 0, 1) := by decide +kernel
theorem dX9_word_9 : decode cX9_word 9 = .ok (.ireturn, 1) := by decide +kernel
theorem dX9_word_10 : decode cX9_word 10 = .ok (.aload_n 0, 1) := by decide +kernel
theorem dX9_word_11 : decode cX9_word 11 = .ok (.ldc 157, 2) := by decide +kernel
theorem dX9_word_13 : decode cX9_word 13 = .ok (.invokevirtual 158, 3) := by decide +kernel
theorem dX9_word_16 : decode cX9_word 16 = .ok (.ifCond .eq 5, 3) := by decide +kernel
theorem dX9_word_19 : decode cX9_word 19 = .ok (.iconst 1, 1) := by decide +kernel
theorem dX9_word_20 : decode cX9_word 20 = .ok (.ireturn, 1) := by decide +kernel
theorem dX9_word_21 : decode cX9_word 21 = .ok (.aload_n 0, 1) := by decide +kernel
theorem dX9_word_22 : decode cX9_word 22 = .ok (.ldc 162, 2) := by decide +kernel
theorem dX9_word_24 : decode cX9_word 24 = .ok (.invokevirtual 158, 3) := by decide +kernel
theorem dX9_word_27 : decode cX9_word 27 = .ok (.ifCond .eq 5, 3) := by decide +kernel
theorem dX9_word_30 : decode cX9_word 30 = .ok (.iconst 2, 1) := by decide +kernel
theorem dX9_word_31 : decode cX9_word 31 = .ok (.ireturn, 1) := by decide +kernel
theorem dX9_word_32 : decode cX9_word 32 = .ok (.aload_n 0, 1) := by decide +kernel
theorem dX9_word_33 : decode cX9_word 33 = .ok (.ldc 164, 2) := by decide +kernel
theorem dX9_word_35 : decode cX9_word 35 = .ok (.invokevirtual 158, 3) := by decide +kernel
theorem dX9_word_38 : decode cX9_word 38 = .ok (.ifCond .eq 5, 3) := by decide +kernel
theorem dX9_word_41 : decode cX9_word 41 = .ok (.iconst 3, 1) := by decide +kernel
theorem dX9_word_42 : decode cX9_word 42 = .ok (.ireturn, 1) := by decide +kernel
theorem dX9_word_43 : decode cX9_word 43 = .ok (.aload_n 0, 1) := by decide +kernel
theorem dX9_word_44 : decode cX9_word 44 = .ok (.ldc 166, 2) := by decide +kernel
theorem dX9_word_46 : decode cX9_word 46 = .ok (.invokevirtual 158, 3) := by decide +kernel
theorem dX9_word_49 : decode cX9_word 49 = .ok (.ifCond .eq 5, 3) := by decide +kernel
theorem dX9_word_52 : decode cX9_word 52 = .ok (.iconst 4, 1) := by decide +kernel
theorem dX9_word_53 : decode cX9_word 53 = .ok (.ireturn, 1) := by decide +kernel
theorem dX9_word_54 : decode cX9_word 54 = .ok (.aload_n 0, 1) := by decide +kernel
theorem dX9_word_55 : decode cX9_word 55 = .ok (.ldc 168, 2) := by decide +kernel
theorem dX9_word_57 : decode cX9_word 57 = .ok (.invokevirtual 158, 3) := by decide +kernel
theorem dX9_word_60 : decode cX9_word 60 = .ok (.ifCond .eq 5, 3) := by decide +kernel
theorem dX9_word_63 : decode cX9_word 63 = .ok (.iconst 5, 1) := by decide +kernel
theorem dX9_word_64 : decode cX9_word 64 = .ok (.ireturn, 1) := by decide +kernel
theorem dX9_word_65 : decode cX9_word 65 = .ok (.aload_n 0, 1) := by decide +kernel
theorem dX9_word_66 : decode cX9_word 66 = .ok (.ldc 170, 2) := by decide +kernel
theorem dX9_word_68 : decode cX9_word 68 = .ok (.invokevirtual 158, 3) := by decide +kernel
theorem dX9_word_71 : decode cX9_word 71 = .ok (.ifCond .eq 6, 3) := by decide +kernel
theorem dX9_word_74 : decode cX9_word 74 = .ok (.bipush 6, 2) := by decide +kernel
theorem dX9_word_76 : decode cX9_word 76 = .ok (.ireturn, 1) := by decide +kernel
theorem dX9_word_77 : decode cX9_word 77 = .ok (.aload_n 0, 1) := by decide +kernel
theorem dX9_word_78 : decode cX9_word 78 = .ok (.ldc 172, 2) := by decide +kernel
theorem dX9_word_80 : decode cX9_word 80 = .ok (.invokevirtual 158, 3) := by decide +kernel
theorem dX9_word_83 : decode cX9_word 83 = .ok (.ifCond .eq 6, 3) := by decide +kernel
theorem dX9_word_86 : decode cX9_word 86 = .ok (.bipush 7, 2) := by decide +kernel
theorem dX9_word_88 : decode cX9_word 88 = .ok (.ireturn, 1) := by decide +kernel
theorem dX9_word_89 : decode cX9_word 89 = .ok (.aload_n 0, 1) := by decide +kernel
theorem dX9_word_90 : decode cX9_word 90 = .ok (.ldc 174, 2) := by decide +kernel
theorem dX9_word_92 : decode cX9_word 92 = .ok (.invokevirtual 158, 3) := by decide +kernel
theorem dX9_word_95 : decode cX9_word 95 = .ok (.ifCond .eq 8, 3) := by decide +kernel
theorem dX9_word_98 : decode cX9_word 98 = .ok (.bipush 8, 2) := by decide +kernel
theorem dX9_word_100 : decode cX9_word 100 = .ok (.goto 4, 3) := by decide +kernel
theorem dX9_word_103 : decode cX9_word 103 = .ok (.iconst 0, 1) := by decide +kernel
theorem dX9_word_104 : decode cX9_word 104 = .ok (.ireturn, 1) := by decide +kernel
theorem dX9_spells_0 : decode cX9_spells 0 = .ok (.aload_n 0, 1) := by decide +kernel
theorem dX9_spells_1 : decode cX9_spells 1 = .ok (.getfield 15, 3) := by decide +kernel
theorem dX9_spells_4 : decode cX9_spells 4 = .ok (.aload_n 0, 1) := by decide +kernel
theorem dX9_spells_5 : decode cX9_spells 5 = .ok (.getfield 21, 3) := by decide +kernel
theorem dX9_spells_8 : decode cX9_spells 8 = .ok (.isub, 1) := by decide +kernel
theorem dX9_spells_9 : decode cX9_spells 9 = .ok (.aload_n 1, 1) := by decide +kernel
theorem dX9_spells_10 : decode cX9_spells 10 = .ok (.invokevirtual 176, 3) := by decide +kernel
theorem dX9_spells_13 : decode cX9_spells 13 = .ok (.if_icmp .eq 5, 3) := by decide +kernel
theorem dX9_spells_16 : decode cX9_spells 16 = .ok (.iconst 0, 1) := by decide +kernel
theorem dX9_spells_17 : decode cX9_spells 17 = .ok (.ireturn, 1) := by decide +kernel
theorem dX9_spells_18 : decode cX9_spells 18 = .ok (.iconst 0, 1) := by decide +kernel
theorem dX9_spells_19 : decode cX9_spells 19 = .ok (.istore_n 2, 1) := by decide +kernel
theorem dX9_spells_20 : decode cX9_spells 20 = .ok (.iload_n 2, 1) := by decide +kernel
theorem dX9_spells_21 : decode cX9_spells 21 = .ok (.aload_n 1, 1) := by decide +kernel
theorem dX9_spells_22 : decode cX9_spells 22 = .ok (.invokevirtual 176, 3) := by decide +kernel
theorem dX9_spells_25 : decode cX9_spells 25 = .ok (.if_icmp .ge 29, 3) := by decide +kernel
theorem dX9_spells_28 : decode cX9_spells 28 = .ok (.aload_n 0, 1) := by decide +kernel
theorem dX9_spells_29 : decode cX9_spells 29 = .ok (.aload_n 0, 1) := by decide +kernel
theorem dX9_spells_30 : decode cX9_spells 30 = .ok (.getfield 21, 3) := by decide +kernel
theorem dX9_spells_33 : decode cX9_spells 33 = .ok (.iload_n 2, 1) := by decide +kernel
theorem dX9_spells_34 : decode cX9_spells 34 = .ok (.iadd, 1) := by decide +kernel
theorem dX9_spells_35 : decode cX9_spells 35 = .ok (.invokevirtual 140, 3) := by decide +kernel
theorem dX9_spells_38 : decode cX9_spells 38 = .ok (.aload_n 1, 1) := by decide +kernel
theorem dX9_spells_39 : decode cX9_spells 39 = .ok (.iload_n 2, 1) := by decide +kernel
theorem dX9_spells_40 : decode cX9_spells 40 = .ok (.invokevirtual 180, 3) := by decide +kernel
theorem dX9_spells_43 : decode cX9_spells 43 = .ok (.if_icmp .eq 5, 3) := by decide +kernel
theorem dX9_spells_46 : decode cX9_spells 46 = .ok (.iconst 0, 1) := by decide +kernel
theorem dX9_spells_47 : decode cX9_spells 47 = .ok (.ireturn, 1) := by decide +kernel
theorem dX9_spells_48 : decode cX9_spells 48 = .ok (.iinc 2 1, 3) := by decide +kernel
theorem dX9_spells_51 : decode cX9_spells 51 = .ok (.goto (-31), 3) := by decide +kernel
theorem dX9_spells_54 : decode cX9_spells 54 = .ok (.iconst 1, 1) := by decide +kernel
theorem dX9_spells_55 : decode cX9_spells 55 = .ok (.ireturn, 1) := by decide +kernel
theorem dX9_byteAt_0 : decode cX9_byteAt 0 = .ok (.iload_n 1, 1) := by decide +kernel
theorem dX9_byteAt_1 : decode cX9_byteAt 1 = .ok (.ifCond .lt 25, 3) := by decide +kernel
theorem dX9_byteAt_4 : decode cX9_byteAt 4 = .ok (.iload_n 1, 1) := by decide +kernel
theorem dX9_byteAt_5 : decode cX9_byteAt 5 = .ok (.aload_n 0, 1) := by decide +kernel
theorem dX9_byteAt_6 : decode cX9_byteAt 6 = .ok (.getfield 46, 3) := by decide +kernel
theorem dX9_byteAt_9 : decode cX9_byteAt 9 = .ok (.arraylength, 1) := by decide +kernel
theorem dX9_byteAt_10 : decode cX9_byteAt 10 = .ok (.if_icmp .ge 16, 3) := by decide +kernel
theorem dX9_byteAt_13 : decode cX9_byteAt 13 = .ok (.aload_n 0, 1) := by decide +kernel
theorem dX9_byteAt_14 : decode cX9_byteAt 14 = .ok (.getfield 46, 3) := by decide +kernel
theorem dX9_byteAt_17 : decode cX9_byteAt 17 = .ok (.iload_n 1, 1) := by decide +kernel
theorem dX9_byteAt_18 : decode cX9_byteAt 18 = .ok (.baload, 1) := by decide +kernel
theorem dX9_byteAt_19 : decode cX9_byteAt 19 = .ok (.sipush 255, 3) := by decide +kernel
theorem dX9_byteAt_22 : decode cX9_byteAt 22 = .ok (.iand, 1) := by decide +kernel
theorem dX9_byteAt_23 : decode cX9_byteAt 23 = .ok (.goto 4, 3) := by decide +kernel
theorem dX9_byteAt_26 : decode cX9_byteAt 26 = .ok (.iconst 0, 1) := by decide +kernel
theorem dX9_byteAt_27 : decode cX9_byteAt 27 = .ok (.ireturn, 1) := by decide +kernel
theorem dX9_isBlank_0 : decode cX9_isBlank 0 = .ok (.iload_n 0, 1) := by decide +kernel
theorem dX9_isBlank_1 : decode cX9_isBlank 1 = .ok (.bipush 10, 2) := by decide +kernel
theorem dX9_isBlank_3 : decode cX9_isBlank 3 = .ok (.if_icmp .eq 9, 3) := by decide +kernel
theorem dX9_isBlank_6 : decode cX9_isBlank 6 = .ok (.iload_n 0, 1) := by decide +kernel
theorem dX9_isBlank_7 : decode cX9_isBlank 7 = .ok (.bipush 32, 2) := by decide +kernel
theorem dX9_isBlank_9 : decode cX9_isBlank 9 = .ok (.if_icmp .ne 7, 3) := by decide +kernel
theorem dX9_isBlank_12 : decode cX9_isBlank 12 = .ok (.iconst 1, 1) := by decide +kernel
theorem dX9_isBlank_13 : decode cX9_isBlank 13 = .ok (.goto 4, 3) := by decide +kernel
theorem dX9_isBlank_16 : decode cX9_isBlank 16 = .ok (.iconst 0, 1) := by decide +kernel
theorem dX9_isBlank_17 : decode cX9_isBlank 17 = .ok (.ireturn, 1) := by decide +kernel
theorem dX9_isLetter_0 : decode cX9_isLetter 0 = .ok (.iload_n 0, 1) := by decide +kernel
theorem dX9_isLetter_1 : decode cX9_isLetter 1 = .ok (.bipush 97, 2) := by decide +kernel
theorem dX9_isLetter_3 : decode cX9_isLetter 3 = .ok (.if_icmp .lt 13, 3) := by decide +kernel
theorem dX9_isLetter_6 : decode cX9_isLetter 6 = .ok (.iload_n 0, 1) := by decide +kernel
theorem dX9_isLetter_7 : decode cX9_isLetter 7 = .ok (.bipush 122, 2) := by decide +kernel
theorem dX9_isLetter_9 : decode cX9_isLetter 9 = .ok (.if_icmp .gt 7, 3) := by decide +kernel
theorem dX9_isLetter_12 : decode cX9_isLetter 12 = .ok (.iconst 1, 1) := by decide +kernel
theorem dX9_isLetter_13 : decode cX9_isLetter 13 = .ok (.goto 4, 3) := by decide +kernel
theorem dX9_isLetter_16 : decode cX9_isLetter 16 = .ok (.iconst 0, 1) := by decide +kernel
theorem dX9_isLetter_17 : decode cX9_isLetter 17 = .ok (.ireturn, 1) := by decide +kernel
theorem dX9_isDigit_0 : decode cX9_isDigit 0 = .ok (.iload_n 0, 1) := by decide +kernel
theorem dX9_isDigit_1 : decode cX9_isDigit 1 = .ok (.bipush 48, 2) := by decide +kernel
theorem dX9_isDigit_3 : decode cX9_isDigit 3 = .ok (.if_icmp .lt 13, 3) := by decide +kernel
theorem dX9_isDigit_6 : decode cX9_isDigit 6 = .ok (.iload_n 0, 1) := by decide +kernel
theorem dX9_isDigit_7 : decode cX9_isDigit 7 = .ok (.bipush 57, 2) := by decide +kernel
theorem dX9_isDigit_9 : decode cX9_isDigit 9 = .ok (.if_icmp .gt 7, 3) := by decide +kernel
theorem dX9_isDigit_12 : decode cX9_isDigit 12 = .ok (.iconst 1, 1) := by decide +kernel
theorem dX9_isDigit_13 : decode cX9_isDigit 13 = .ok (.goto 4, 3) := by decide +kernel
theorem dX9_isDigit_16 : decode cX9_isDigit 16 = .ok (.iconst 0, 1) := by decide +kernel
theorem dX9_isDigit_17 : decode cX9_isDigit 17 = .ok (.ireturn, 1) := by decide +kernel
theorem dX10_init_0 : decode cX10_init 0 = .ok (.aload_n 0, 1) := by decide +kernel
theorem dX10_init_1 : decode cX10_init 1 = .ok (.invokespecial 3, 3) := by decide +kernel
theorem dX10_init_4 : decode cX10_init 4 = .ok (.aload_n 0, 1) := by decide +kernel
theorem dX10_init_5 : decode cX10_init 5 = .ok (.bipush 7, 2) := by decide +kernel
theorem dX10_init_7 : decode cX10_init 7 = .ok (.bipush 7, 2) := by decide +kernel
theorem dX10_init_9 : decode cX10_init 9 = .ok (.multianewarray 11 2, 4) := by decide +kernel
theorem dX10_init_13 : decode cX10_init 13 = .ok (.putfield 13, 3) := by decide +kernel
theorem dX10_init_16 : decode cX10_init 16 = .ok (.aload_n 0, 1) := by decide +kernel
theorem dX10_init_17 : decode cX10_init 17 = .ok (.bipush 8, 2) := by decide +kernel
theorem dX10_init_19 : decode cX10_init 19 = .ok (.newarray .int, 2) := by decide +kernel
theorem dX10_init_21 : decode cX10_init 21 = .ok (.putfield 16, 3) := by decide +kernel
theorem dX10_init_24 : decode cX10_init 24 = .ok (.aload_n 0, 1) := by decide +kernel
theorem dX10_init_25 : decode cX10_init 25 = .ok (.iconst 0, 1) := by decide +kernel
theorem dX10_init_26 : decode cX10_init 26 = .ok (.putfield 20, 3) := by decide +kernel
theorem dX10_init_29 : decode cX10_init 29 = .ok (.aload_n 0, 1) := by decide +kernel
theorem dX10_init_30 : decode cX10_init 30 = .ok (.aload_n 1, 1) := by decide +kernel
theorem dX10_init_31 : decode cX10_init 31 = .ok (.putfield 24, 3) := by decide +kernel
theorem dX10_init_34 : decode cX10_init 34 = .ok (.return_, 1) := by decide +kernel
theorem dX10_tally_0 : decode cX10_tally 0 = .ok (.aload_n 0, 1) := by decide +kernel
theorem dX10_tally_1 : decode cX10_tally 1 = .ok (.getfield 24, 3) := by decide +kernel
theorem dX10_tally_4 : decode cX10_tally 4 = .ok (.iload_n 1, 1) := by decide +kernel
theorem dX10_tally_5 : decode cX10_tally 5 = .ok (.invokevirtual 28, 3) := by decide +kernel
theorem dX10_tally_8 : decode cX10_tally 8 = .ok (.istore_n 3, 1) := by decide +kernel
theorem dX10_tally_9 : decode cX10_tally 9 = .ok (.aload_n 0, 1) := by decide +kernel
theorem dX10_tally_10 : decode cX10_tally 10 = .ok (.iload_n 3, 1) := by decide +kernel
theorem dX10_tally_11 : decode cX10_tally 11 = .ok (.aload_n 0, 1) := by decide +kernel
theorem dX10_tally_12 : decode cX10_tally 12 = .ok (.getfield 24, 3) := by decide +kernel
theorem dX10_tally_15 : decode cX10_tally 15 = .ok (.getfield 34, 3) := by decide +kernel
theorem dX10_tally_18 : decode cX10_tally 18 = .ok (.invokestatic 37, 3) := by decide +kernel
theorem dX10_tally_21 : decode cX10_tally 21 = .ok (.invokevirtual 43, 3) := by decide +kernel
theorem dX10_tally_24 : decode cX10_tally 24 = .ok (.aload_n 0, 1) := by decide +kernel
theorem dX10_tally_25 : decode cX10_tally 25 = .ok (.getfield 24, 3) := by decide +kernel
theorem dX10_tally_28 : decode cX10_tally 28 = .ok (.iload_n 1, 1) := by decide +kernel
theorem dX10_tally_29 : decode cX10_tally 29 = .ok (.iload_n 2, 1) := by decide +kernel
theorem dX10_tally_30 : decode cX10_tally 30 = .ok (.invokevirtual 47, 3) := by decide +kernel
theorem dX10_tally_33 : decode cX10_tally 33 = .ok (.istore 4, 2) := by decide +kernel
theorem dX10_tally_35 : decode cX10_tally 35 = .ok (.iconst 0, 1) := by decide +kernel
theorem dX10_tally_36 : decode cX10_tally 36 = .ok (.istore 5, 2) := by decide +kernel
theorem dX10_tally_38 : decode cX10_tally 38 = .ok (.iload 5, 2) := by decide +kernel
theorem dX10_tally_40 : decode cX10_tally 40 = .ok (.bipush 14, 2) := by decide +kernel
theorem dX10_tally_42 : decode cX10_tally 42 = .ok (.if_icmp .ge 63, 3) := by decide +kernel
theorem dX10_tally_45 : decode cX10_tally 45 = .ok (.iload 4, 2) := by decide +kernel
theorem dX10_tally_47 : decode cX10_tally 47 = .ok (.iload 5, 2) := by decide +kernel
theorem dX10_tally_49 : decode cX10_tally 49 = .ok (.invokestatic 50, 3) := by decide +kernel
theorem dX10_tally_52 : decode cX10_tally 52 = .ok (.ifCond .eq 47, 3) := by decide +kernel
theorem dX10_tally_55 : decode cX10_tally 55 = .ok (.aload_n 0, 1) := by decide +kernel
theorem dX10_tally_56 : decode cX10_tally 56 = .ok (.getfield 24, 3) := by decide +kernel
theorem dX10_tally_59 : decode cX10_tally 59 = .ok (.iload 5, 2) := by decide +kernel
theorem dX10_tally_61 : decode cX10_tally 61 = .ok (.invokevirtual 54, 3) := by decide +kernel
theorem dX10_tally_64 : decode cX10_tally 64 = .ok (.ifCond .eq 35, 3) := by decide +kernel
theorem dX10_tally_67 : decode cX10_tally 67 = .ok (.aload_n 0, 1) := by decide +kernel
theorem dX10_tally_68 : decode cX10_tally 68 = .ok (.iload_n 3, 1) := by decide +kernel
theorem dX10_tally_69 : decode cX10_tally 69 = .ok (.aload_n 0, 1) := by decide +kernel
theorem dX10_tally_70 : decode cX10_tally 70 = .ok (.getfield 24, 3) := by decide +kernel
theorem dX10_tally_73 : decode cX10_tally 73 = .ok (.getfield 58, 3) := by decide +kernel
theorem dX10_tally_76 : decode cX10_tally 76 = .ok (.iload 5, 2) := by decide +kernel
theorem dX10_tally_78 : decode cX10_tally 78 = .ok (.iaload, 1) := by decide +kernel
theorem dX10_tally_79 : decode cX10_tally 79 = .ok (.invokestatic 61, 3) := by decide +kernel
theorem dX10_tally_82 : decode cX10_tally 82 = .ok (.iload_n 3, 1) := by decide +kernel
theorem dX10_tally_83 : decode cX10_tally 83 = .ok (.aload_n 0, 1) := by decide +kernel
theorem dX10_tally_84 : decode cX10_tally 84 = .ok (.getfield 24, 3) := by decide +kernel
theorem dX10_tally_87 : decode cX10_tally 87 = .ok (.getfield 64, 3) := by decide +kernel
theorem dX10_tally_90 : decode cX10_tally 90 = .ok (.iload 5, 2) := by decide +kernel
theorem dX10_tally_92 : decode cX10_tally 92 = .ok (.iaload, 1) := by decide +kernel
theorem dX10_tally_93 : decode cX10_tally 93 = .ok (.invokestatic 61, 3) := by decide +kernel
theorem dX10_tally_96 : decode cX10_tally 96 = .ok (.invokevirtual 67, 3) := by decide +kernel
theorem dX10_tally_99 : decode cX10_tally 99 = .ok (.iinc 5 1, 3) := by decide +kernel
theorem dX10_tally_102 : decode cX10_tally 102 = .ok (.goto (-64), 3) := by decide +kernel
theorem dX10_tally_105 : decode cX10_tally 105 = .ok (.aload_n 0, 1) := by decide +kernel
theorem dX10_tally_106 : decode cX10_tally 106 = .ok (.invokevirtual 71, 3) := by decide +kernel
theorem dX10_tally_109 : decode cX10_tally 109 = .ok (.l2i, 1) := by decide +kernel
theorem dX10_tally_110 : decode cX10_tally 110 = .ok (.ireturn, 1) := by decide +kernel
theorem dX10_clear_0 : decode cX10_clear 0 = .ok (.aload_n 0, 1) := by decide +kernel
theorem dX10_clear_1 : decode cX10_clear 1 = .ok (.iconst 0, 1) := by decide +kernel
theorem dX10_clear_2 : decode cX10_clear 2 = .ok (.putfield 20, 3) := by decide +kernel
theorem dX10_clear_5 : decode cX10_clear 5 = .ok (.iconst 0, 1) := by decide +kernel
theorem dX10_clear_6 : decode cX10_clear 6 = .ok (.istore_n 2, 1) := by decide +kernel
theorem dX10_clear_7 : decode cX10_clear 7 = .ok (.iload_n 2, 1) := by decide +kernel
theorem dX10_clear_8 : decode cX10_clear 8 = .ok (.bipush 8, 2) := by decide +kernel
theorem dX10_clear_10 : decode cX10_clear 10 = .ok (.if_icmp .ge 48, 3) := by decide +kernel
theorem dX10_clear_13 : decode cX10_clear 13 = .ok (.aload_n 0, 1) := by decide +kernel
theorem dX10_clear_14 : decode cX10_clear 14 = .ok (.getfield 16, 3) := by decide +kernel
theorem dX10_clear_17 : decode cX10_clear 17 = .ok (.iload_n 2, 1) := by decide +kernel
theorem dX10_clear_18 : decode cX10_clear 18 = .ok (.iconst (-1), 1) := by decide +kernel
theorem dX10_clear_19 : decode cX10_clear 19 = .ok (.iastore, 1) := by decide +kernel
theorem dX10_clear_20 : decode cX10_clear 20 = .ok (.iload_n 2, 1) := by decide +kernel
theorem dX10_clear_21 : decode cX10_clear 21 = .ok (.ifCond .le 31, 3) := by decide +kernel
theorem dX10_clear_24 : decode cX10_clear 24 = .ok (.iload_n 1, 1) := by decide +kernel
theorem dX10_clear_25 : decode cX10_clear 25 = .ok (.iload_n 2, 1) := by decide +kernel
theorem dX10_clear_26 : decode cX10_clear 26 = .ok (.invokestatic 50, 3) := by decide +kernel
theorem dX10_clear_29 : decode cX10_clear 29 = .ok (.ifCond .eq 23, 3) := by decide +kernel
theorem dX10_clear_32 : decode cX10_clear 32 = .ok (.aload_n 0, 1) := by decide +kernel
theorem dX10_clear_33 : decode cX10_clear 33 = .ok (.getfield 16, 3) := by decide +kernel
theorem dX10_clear_36 : decode cX10_clear 36 = .ok (.iload_n 2, 1) := by decide +kernel
theorem dX10_clear_37 : decode cX10_clear 37 = .ok (.aload_n 0, 1) := by decide +kernel
theorem dX10_clear_38 : decode cX10_clear 38 = .ok (.getfield 20, 3) := by decide +kernel
theorem dX10_clear_41 : decode cX10_clear 41 = .ok (.iastore, 1) := by decide +kernel
theorem dX10_clear_42 : decode cX10_clear 42 = .ok (.aload_n 0, 1) := by decide +kernel
theorem dX10_clear_43 : decode cX10_clear 43 = .ok (.dup, 1) := by decide +kernel
theorem dX10_clear_44 : decode cX10_clear 44 = .ok (.getfield 20, 3) := by decide +kernel
theorem dX10_clear_47 : decode cX10_clear 47 = .ok (.iconst 1, 1) := by decide +kernel
theorem dX10_clear_48 : decode cX10_clear 48 = .ok (.iadd, 1) := by decide +kernel
theorem dX10_clear_49 : decode cX10_clear 49 = .ok (.putfield 20, 3) := by decide +kernel
theorem dX10_clear_52 : decode cX10_clear 52 = .ok (.iinc 2 1, 3) := by decide +kernel
theorem dX10_clear_55 : decode cX10_clear 55 = .ok (.goto (-48), 3) := by decide +kernel
theorem dX10_clear_58 : decode cX10_clear 58 = .ok (.iconst 0, 1) := by decide +kernel
theorem dX10_clear_59 : decode cX10_clear 59 = .ok (.istore_n 2, 1) := by decide +kernel
theorem dX10_clear_60 : decode cX10_clear 60 = .ok (.iload_n 2, 1) := by decide +kernel
theorem dX10_clear_61 : decode cX10_clear 61 = .ok (.bipush 7, 2) := by decide +kernel
theorem dX10_clear_63 : decode cX10_clear 63 = .ok (.if_icmp .ge 19, 3) := by decide +kernel
theorem dX10_clear_66 : decode cX10_clear 66 = .ok (.aload_n 0, 1) := by decide +kernel
theorem dX10_clear_67 : decode cX10_clear 67 = .ok (.getfield 13, 3) := by decide +kernel
theorem dX10_clear_70 : decode cX10_clear 70 = .ok (.iload_n 2, 1) := by decide +kernel
theorem dX10_clear_71 : decode cX10_clear 71 = .ok (.aaload, 1) := by decide +kernel
theorem dX10_clear_72 : decode cX10_clear 72 = .ok (.lconst 0, 1) := by decide +kernel
theorem dX10_clear_73 : decode cX10_clear 73 = .ok (.invokestatic 75, 3) := by decide +kernel
theorem dX10_clear_76 : decode cX10_clear 76 = .ok (.iinc 2 1, 3) := by decide +kernel
theorem dX10_clear_79 : decode cX10_clear 79 = .ok (.goto (-19), 3) := by decide +kernel
theorem dX10_clear_82 : decode cX10_clear 82 = .ok (.return_, 1) := by decide +kernel
theorem dX10_enter_0 : decode cX10_enter 0 = .ok (.iload_n 1, 1) := by decide +kernel
theorem dX10_enter_1 : decode cX10_enter 1 = .ok (.iload_n 2, 1) := by decide +kernel
theorem dX10_enter_2 : decode cX10_enter 2 = .ok (.if_icmp .ne 4, 3) := by decide +kernel
theorem dX10_enter_5 : decode cX10_enter 5 = .ok (.return_, 1) := by decide +kernel
theorem dX10_enter_6 : decode cX10_enter 6 = .ok (.aload_n 0, 1) := by decide +kernel
theorem dX10_enter_7 : decode cX10_enter 7 = .ok (.getfield 16, 3) := by decide +kernel
theorem dX10_enter_10 : decode cX10_enter 10 = .ok (.iload_n 1, 1) := by decide +kernel
theorem dX10_enter_11 : decode cX10_enter 11 = .ok (.bipush 7, 2) := by decide +kernel
theorem dX10_enter_13 : decode cX10_enter 13 = .ok (.iand, 1) := by decide +kernel
theorem dX10_enter_14 : decode cX10_enter 14 = .ok (.iaload, 1) := by decide +kernel
theorem dX10_enter_15 : decode cX10_enter 15 = .ok (.istore_n 3, 1) := by decide +kernel
theorem dX10_enter_16 : decode cX10_enter 16 = .ok (.aload_n 0, 1) := by decide +kernel
theorem dX10_enter_17 : decode cX10_enter 17 = .ok (.getfield 16, 3) := by decide +kernel
theorem dX10_enter_20 : decode cX10_enter 20 = .ok (.iload_n 2, 1) := by decide +kernel
theorem dX10_enter_21 : decode cX10_enter 21 = .ok (.bipush 7, 2) := by decide +kernel
theorem dX10_enter_23 : decode cX10_enter 23 = .ok (.iand, 1) := by decide +kernel
theorem dX10_enter_24 : decode cX10_enter 24 = .ok (.iaload, 1) := by decide +kernel
theorem dX10_enter_25 : decode cX10_enter 25 = .ok (.istore 4, 2) := by decide +kernel
theorem dX10_enter_27 : decode cX10_enter 27 = .ok (.aload_n 0, 1) := by decide +kernel
theorem dX10_enter_28 : decode cX10_enter 28 = .ok (.iload_n 3, 1) := by decide +kernel
theorem dX10_enter_29 : decode cX10_enter 29 = .ok (.iload_n 3, 1) := by decide +kernel
theorem dX10_enter_30 : decode cX10_enter 30 = .ok (.iconst 1, 1) := by decide +kernel
theorem dX10_enter_31 : decode cX10_enter 31 = .ok (.invokevirtual 81, 3) := by decide +kernel
theorem dX10_enter_34 : decode cX10_enter 34 = .ok (.aload_n 0, 1) := by decide +kernel
theorem dX10_enter_35 : decode cX10_enter 35 = .ok (.iload 4, 2) := by decide +kernel
theorem dX10_enter_37 : decode cX10_enter 37 = .ok (.iload 4, 2) := by decide +kernel
theorem dX10_enter_39 : decode cX10_enter 39 = .ok (.iconst 1, 1) := by decide +kernel
theorem dX10_enter_40 : decode cX10_enter 40 = .ok (.invokevirtual 81, 3) := by decide +kernel
theorem dX10_enter_43 : decode cX10_enter 43 = .ok (.aload_n 0, 1) := by decide +kernel
theorem dX10_enter_44 : decode cX10_enter 44 = .ok (.iload_n 3, 1) := by decide +kernel
theorem dX10_enter_45 : decode cX10_enter 45 = .ok (.iload 4, 2) := by decide +kernel
theorem dX10_enter_47 : decode cX10_enter 47 = .ok (.iconst (-1), 1) := by decide +kernel
theorem dX10_enter_48 : decode cX10_enter 48 = .ok (.invokevirtual 81, 3) := by decide +kernel
theorem dX10_enter_51 : decode cX10_enter 51 = .ok (.aload_n 0, 1) := by decide +kernel
theorem dX10_enter_52 : decode cX10_enter 52 = .ok (.iload 4, 2) := by decide +kernel
theorem dX10_enter_54 : decode cX10_enter 54 = .ok (.iload_n 3, 1) := by decide +kernel
theorem dX10_enter_55 : decode cX10_enter 55 = .ok (.iconst (-1), 1) := by decide +kernel
theorem dX10_enter_56 : decode cX10_enter 56 = .ok (.invokevirtual 81, 3) := by decide +kernel
theorem dX10_enter_59 : decode cX10_enter 59 = .ok (.return_, 1) := by decide +kernel
theorem dX10_add_0 : decode cX10_add 0 = .ok (.iload_n 1, 1) := by decide +kernel
theorem dX10_add_1 : decode cX10_add 1 = .ok (.ifCond .lt 32, 3) := by decide +kernel
theorem dX10_add_4 : decode cX10_add 4 = .ok (.iload_n 1, 1) := by decide +kernel
theorem dX10_add_5 : decode cX10_add 5 = .ok (.bipush 7, 2) := by decide +kernel
theorem dX10_add_7 : decode cX10_add 7 = .ok (.if_icmp .ge 26, 3) := by decide +kernel
theorem dX10_add_10 : decode cX10_add 10 = .ok (.iload_n 2, 1) := by decide +kernel
theorem dX10_add_11 : decode cX10_add 11 = .ok (.ifCond .lt 22, 3) := by decide +kernel
theorem dX10_add_14 : decode cX10_add 14 = .ok (.iload_n 2, 1) := by decide +kernel
theorem dX10_add_15 : decode cX10_add 15 = .ok (.bipush 7, 2) := by decide +kernel
theorem dX10_add_17 : decode cX10_add 17 = .ok (.if_icmp .ge 16, 3) := by decide +kernel
theorem dX10_add_20 : decode cX10_add 20 = .ok (.aload_n 0, 1) := by decide +kernel
theorem dX10_add_21 : decode cX10_add 21 = .ok (.getfield 13, 3) := by decide +kernel
theorem dX10_add_24 : decode cX10_add 24 = .ok (.iload_n 1, 1) := by decide +kernel
theorem dX10_add_25 : decode cX10_add 25 = .ok (.aaload, 1) := by decide +kernel
theorem dX10_add_26 : decode cX10_add 26 = .ok (.iload_n 2, 1) := by decide +kernel
theorem dX10_add_27 : decode cX10_add 27 = .ok (.dup2, 1) := by decide +kernel
theorem dX10_add_28 : decode cX10_add 28 = .ok (.laload, 1) := by decide +kernel
theorem dX10_add_29 : decode cX10_add 29 = .ok (.iload_n 3, 1) := by decide +kernel
theorem dX10_add_30 : decode cX10_add 30 = .ok (.i2l, 1) := by decide +kernel
theorem dX10_add_31 : decode cX10_add 31 = .ok (.ladd, 1) := by decide +kernel
theorem dX10_add_32 : decode cX10_add 32 = .ok (.lastore, 1) := by decide +kernel
theorem dX10_add_33 : decode cX10_add 33 = .ok (.return_, 1) := by decide +kernel
theorem dX10_determinant_0 : decode cX10_determinant 0 = .ok (.lconst 1, 1) := by decide +kernel
theorem dX10_determinant_1 : decode cX10_determinant 1 = .ok (.lstore_n 1, 1) := by decide +kernel
theorem dX10_determinant_2 : decode cX10_determinant 2 = .ok (.iconst 0, 1) := by decide +kernel
theorem dX10_determinant_3 : decode cX10_determinant 3 = .ok (.istore_n 3, 1) := by decide +kernel
theorem dX10_determinant_4 : decode cX10_determinant 4 = .ok (.iload_n 3, 1) := by decide +kernel
theorem dX10_determinant_5 : decode cX10_determinant 5 = .ok (.aload_n 0, 1) := by decide +kernel
theorem dX10_determinant_6 : decode cX10_determinant 6 = .ok (.getfield 20, 3) := by decide +kernel
theorem dX10_determinant_9 : decode cX10_determinant 9 = .ok (.if_icmp .ge 146, 3) := by decide +kernel
theorem dX10_determinant_12 : decode cX10_determinant 12 = .ok (.iload_n 3, 1) := by decide +kernel
theorem dX10_determinant_13 : decode cX10_determinant 13 = .ok (.bipush 7, 2) := by decide +kernel
theorem dX10_determinant_15 : decode cX10_determinant 15 = .ok (.if_icmp .ge 140, 3) := by decide +kernel
theorem dX10_determinant_18 : decode cX10_determinant 18 = .ok (.aload_n 0, 1) := by decide +kernel
theorem dX10_determinant_19 : decode cX10_determinant 19 = .ok (.getfield 13, 3) := by decide +kernel
theorem dX10_determinant_22 : decode cX10_determinant 22 = .ok (.iload_n 3, 1) := by decide +kernel
theorem dX10_determinant_23 : decode cX10_determinant 23 = .ok (.aaload, 1) := by decide +kernel
theorem dX10_determinant_24 : decode cX10_determinant 24 = .ok (.iload_n 3, 1) := by decide +kernel
theorem dX10_determinant_25 : decode cX10_determinant 25 = .ok (.laload, 1) := by decide +kernel
theorem dX10_determinant_26 : decode cX10_determinant 26 = .ok (.lstore 4, 2) := by decide +kernel
theorem dX10_determinant_28 : decode cX10_determinant 28 = .ok (.lload 4, 2) := by decide +kernel
theorem dX10_determinant_30 : decode cX10_determinant 30 = .ok (.lconst 0, 1) := by decide +kernel
theorem dX10_determinant_31 : decode cX10_determinant 31 = .ok (.lcmp, 1) := by decide +kernel
theorem dX10_determinant_32 : decode cX10_determinant 32 = .ok (.ifCond .eq 9, 3) := by decide +kernel
theorem dX10_determinant_35 : decode cX10_determinant 35 = .ok (.lload_n 1, 1) := by decide +kernel
theorem dX10_determinant_36 : decode cX10_determinant 36 = .ok (.lconst 0, 1) := by decide +kernel
theorem dX10_determinant_37 : decode cX10_determinant 37 = .ok (.lcmp, 1) := by decide +kernel
theorem dX10_determinant_38 : decode cX10_determinant 38 = .ok (.ifCond .ne 5, 3) := by decide +kernel
theorem dX10_determinant_41 : decode cX10_determinant 41 = .ok (.lconst 0, 1) := by decide +kernel
theorem dX10_determinant_42 : decode cX10_determinant 42 = .ok (.lreturn, 1) := by decide +kernel
theorem dX10_determinant_43 : decode cX10_determinant 43 = .ok (.iload_n 3, 1) := by decide +kernel
theorem dX10_determinant_44 : decode cX10_determinant 44 = .ok (.iconst 1, 1) := by decide +kernel
theorem dX10_determinant_45 : decode cX10_determinant 45 = .ok (.iadd, 1) := by decide +kernel
theorem dX10_determinant_46 : decode cX10_determinant 46 = .ok (.istore 6, 2) := by decide +kernel
theorem dX10_determinant_48 : decode cX10_determinant 48 = .ok (.iload 6, 2) := by decide +kernel
theorem dX10_determinant_50 : decode cX10_determinant 50 = .ok (.aload_n 0, 1) := by decide +kernel
theorem dX10_determinant_51 : decode cX10_determinant 51 = .ok (.getfield 20, 3) := by decide +kernel
theorem dX10_determinant_54 : decode cX10_determinant 54 = .ok (.if_icmp .ge 92, 3) := by decide +kernel
theorem dX10_determinant_57 : decode cX10_determinant 57 = .ok (.iload 6, 2) := by decide +kernel
theorem dX10_determinant_59 : decode cX10_determinant 59 = .ok (.bipush 7, 2) := by decide +kernel
theorem dX10_determinant_61 : decode cX10_determinant 61 = .ok (.if_icmp .ge 85, 3) := by decide +kernel
theorem dX10_determinant_64 : decode cX10_determinant 64 = .ok (.iload_n 3, 1) := by decide +kernel
theorem dX10_determinant_65 : decode cX10_determinant 65 = .ok (.iconst 1, 1) := by decide +kernel
theorem dX10_determinant_66 : decode cX10_determinant 66 = .ok (.iadd, 1) := by decide +kernel
theorem dX10_determinant_67 : decode cX10_determinant 67 = .ok (.istore 7, 2) := by decide +kernel
theorem dX10_determinant_69 : decode cX10_determinant 69 = .ok (.iload 7, 2) := by decide +kernel
theorem dX10_determinant_71 : decode cX10_determinant 71 = .ok (.aload_n 0, 1) := by decide +kernel
theorem dX10_determinant_72 : decode cX10_determinant 72 = .ok (.getfield 20, 3) := by decide +kernel
theorem dX10_determinant_75 : decode cX10_determinant 75 = .ok (.if_icmp .ge 65, 3) := by decide +kernel
theorem dX10_determinant_78 : decode cX10_determinant 78 = .ok (.iload 7, 2) := by decide +kernel
theorem dX10_determinant_80 : decode cX10_determinant 80 = .ok (.bipush 7, 2) := by decide +kernel
theorem dX10_determinant_82 : decode cX10_determinant 82 = .ok (.if_icmp .ge 58, 3) := by decide +kernel
theorem dX10_determinant_85 : decode cX10_determinant 85 = .ok (.aload_n 0, 1) := by decide +kernel
theorem dX10_determinant_86 : decode cX10_determinant 86 = .ok (.getfield 13, 3) := by decide +kernel
theorem dX10_determinant_89 : decode cX10_determinant 89 = .ok (.iload 6, 2) := by decide +kernel
theorem dX10_determinant_91 : decode cX10_determinant 91 = .ok (.aaload, 1) := by decide +kernel
theorem dX10_determinant_92 : decode cX10_determinant 92 = .ok (.iload_n 3, 1) := by decide +kernel
theorem dX10_determinant_93 : decode cX10_determinant 93 = .ok (.laload, 1) := by decide +kernel
theorem dX10_determinant_94 : decode cX10_determinant 94 = .ok (.aload_n 0, 1) := by decide +kernel
theorem dX10_determinant_95 : decode cX10_determinant 95 = .ok (.getfield 13, 3) := by decide +kernel
theorem dX10_determinant_98 : decode cX10_determinant 98 = .ok (.iload_n 3, 1) := by decide +kernel
theorem dX10_determinant_99 : decode cX10_determinant 99 = .ok (.aaload, 1) := by decide +kernel
theorem dX10_determinant_100 : decode cX10_determinant 100 = .ok (.iload 7, 2) := by decide +kernel
theorem dX10_determinant_102 : decode cX10_determinant 102 = .ok (.laload, 1) := by decide +kernel
theorem dX10_determinant_103 : decode cX10_determinant 103 = .ok (.lmul, 1) := by decide +kernel
theorem dX10_determinant_104 : decode cX10_determinant 104 = .ok (.lstore 8, 2) := by decide +kernel
theorem dX10_determinant_106 : decode cX10_determinant 106 = .ok (.aload_n 0, 1) := by decide +kernel
theorem dX10_determinant_107 : decode cX10_determinant 107 = .ok (.getfield 13, 3) := by decide +kernel
theorem dX10_determinant_110 : decode cX10_determinant 110 = .ok (.iload 6, 2) := by decide +kernel
theorem dX10_determinant_112 : decode cX10_determinant 112 = .ok (.aaload, 1) := by decide +kernel
theorem dX10_determinant_113 : decode cX10_determinant 113 = .ok (.iload 7, 2) := by decide +kernel
theorem dX10_determinant_115 : decode cX10_determinant 115 = .ok (.aload_n 0, 1) := by decide +kernel
theorem dX10_determinant_116 : decode cX10_determinant 116 = .ok (.getfield 13, 3) := by decide +kernel
theorem dX10_determinant_119 : decode cX10_determinant 119 = .ok (.iload 6, 2) := by decide +kernel
theorem dX10_determinant_121 : decode cX10_determinant 121 = .ok (.aaload, 1) := by decide +kernel
theorem dX10_determinant_122 : decode cX10_determinant 122 = .ok (.iload 7, 2) := by decide +kernel
theorem dX10_determinant_124 : decode cX10_determinant 124 = .ok (.laload, 1) := by decide +kernel
theorem dX10_determinant_125 : decode cX10_determinant 125 = .ok (.lload 4, 2) := by decide +kernel
theorem dX10_determinant_127 : decode cX10_determinant 127 = .ok (.lmul, 1) := by decide +kernel
theorem dX10_determinant_128 : decode cX10_determinant 128 = .ok (.lload 8, 2) := by decide +kernel
theorem dX10_determinant_130 : decode cX10_determinant 130 = .ok (.lsub, 1) := by decide +kernel
theorem dX10_determinant_131 : decode cX10_determinant 131 = .ok (.lload_n 1, 1) := by decide +kernel
theorem dX10_determinant_132 : decode cX10_determinant 132 = .ok (.ldiv, 1) := by decide +kernel
theorem dX10_determinant_133 : decode cX10_determinant 133 = .ok (.lastore, 1) := by decide +kernel
theorem dX10_determinant_134 : decode cX10_determinant 134 = .ok (.iinc 7 1, 3) := by decide +kernel
theorem dX10_determinant_137 : decode cX10_determinant 137 = .ok (.goto (-68), 3) := by decide +kernel
theorem dX10_determinant_140 : decode cX10_determinant 140 = .ok (.iinc 6 1, 3) := by decide +kernel
theorem dX10_determinant_143 : decode cX10_determinant 143 = .ok (.goto (-95), 3) := by decide +kernel
theorem dX10_determinant_146 : decode cX10_determinant 146 = .ok (.lload 4, 2) := by decide +kernel
theorem dX10_determinant_148 : decode cX10_determinant 148 = .ok (.lstore_n 1, 1) := by decide +kernel
theorem dX10_determinant_149 : decode cX10_determinant 149 = .ok (.iinc 3 1, 3) := by decide +kernel
theorem dX10_determinant_152 : decode cX10_determinant 152 = .ok (.goto (-148), 3) := by decide +kernel
theorem dX10_determinant_155 : decode cX10_determinant 155 = .ok (.lload_n 1, 1) := by decide +kernel
theorem dX10_determinant_156 : decode cX10_determinant 156 = .ok (.lreturn, 1) := by decide +kernel
theorem dX11_init_0 : decode cX11_init 0 = .ok (.aload_n 0, 1) := by decide +kernel
theorem dX11_init_1 : decode cX11_init 1 = .ok (.invokespecial 1, 3) := by decide +kernel
theorem dX11_init_4 : decode cX11_init 4 = .ok (.aload_n 0, 1) := by decide +kernel
theorem dX11_init_5 : decode cX11_init 5 = .ok (.sipush 600, 3) := by decide +kernel
theorem dX11_init_8 : decode cX11_init 8 = .ok (.newarray .byte, 2) := by decide +kernel
theorem dX11_init_10 : decode cX11_init 10 = .ok (.putfield 9, 3) := by decide +kernel
theorem dX11_init_13 : decode cX11_init 13 = .ok (.aload_n 0, 1) := by decide +kernel
theorem dX11_init_14 : decode cX11_init 14 = .ok (.new 13, 3) := by decide +kernel
theorem dX11_init_17 : decode cX11_init 17 = .ok (.dup, 1) := by decide +kernel
theorem dX11_init_18 : decode cX11_init 18 = .ok (.invokespecial 15, 3) := by decide +kernel
theorem dX11_init_21 : decode cX11_init 21 = .ok (.putfield 16, 3) := by decide +kernel
theorem dX11_init_24 : decode cX11_init 24 = .ok (.aload_n 0, 1) := by decide +kernel
theorem dX11_init_25 : decode cX11_init 25 = .ok (.new 13, 3) := by decide +kernel
theorem dX11_init_28 : decode cX11_init 28 = .ok (.dup, 1) := by decide +kernel
theorem dX11_init_29 : decode cX11_init 29 = .ok (.invokespecial 15, 3) := by decide +kernel
theorem dX11_init_32 : decode cX11_init 32 = .ok (.putfield 20, 3) := by decide +kernel
theorem dX11_init_35 : decode cX11_init 35 = .ok (.aload_n 0, 1) := by decide +kernel
theorem dX11_init_36 : decode cX11_init 36 = .ok (.new 23, 3) := by decide +kernel
theorem dX11_init_39 : decode cX11_init 39 = .ok (.dup, 1) := by decide +kernel
theorem dX11_init_40 : decode cX11_init 40 = .ok (.aload_n 0, 1) := by decide +kernel
theorem dX11_init_41 : decode cX11_init 41 = .ok (.getfield 9, 3) := by decide +kernel
theorem dX11_init_44 : decode cX11_init 44 = .ok (.aload_n 0, 1) := by decide +kernel
theorem dX11_init_45 : decode cX11_init 45 = .ok (.getfield 20, 3) := by decide +kernel
theorem dX11_init_48 : decode cX11_init 48 = .ok (.invokespecial 25, 3) := by decide +kernel
theorem dX11_init_51 : decode cX11_init 51 = .ok (.putfield 28, 3) := by decide +kernel
theorem dX11_init_54 : decode cX11_init 54 = .ok (.aload_n 0, 1) := by decide +kernel
theorem dX11_init_55 : decode cX11_init 55 = .ok (.new 32, 3) := by decide +kernel
theorem dX11_init_58 : decode cX11_init 58 = .ok (.dup, 1) := by decide +kernel
theorem dX11_init_59 : decode cX11_init 59 = .ok (.invokespecial 34, 3) := by decide +kernel
theorem dX11_init_62 : decode cX11_init 62 = .ok (.putfield 35, 3) := by decide +kernel
theorem dX11_init_65 : decode cX11_init 65 = .ok (.aload_n 0, 1) := by decide +kernel
theorem dX11_init_66 : decode cX11_init 66 = .ok (.new 39, 3) := by decide +kernel
theorem dX11_init_69 : decode cX11_init 69 = .ok (.dup, 1) := by decide +kernel
theorem dX11_init_70 : decode cX11_init 70 = .ok (.aload_n 0, 1) := by decide +kernel
theorem dX11_init_71 : decode cX11_init 71 = .ok (.getfield 16, 3) := by decide +kernel
theorem dX11_init_74 : decode cX11_init 74 = .ok (.aload_n 0, 1) := by decide +kernel
theorem dX11_init_75 : decode cX11_init 75 = .ok (.getfield 35, 3) := by decide +kernel
theorem dX11_init_78 : decode cX11_init 78 = .ok (.invokespecial 41, 3) := by decide +kernel
theorem dX11_init_81 : decode cX11_init 81 = .ok (.putfield 44, 3) := by decide +kernel
theorem dX11_init_84 : decode cX11_init 84 = .ok (.aload_n 0, 1) := by decide +kernel
theorem dX11_init_85 : decode cX11_init 85 = .ok (.new 48, 3) := by decide +kernel
theorem dX11_init_88 : decode cX11_init 88 = .ok (.dup, 1) := by decide +kernel
theorem dX11_init_89 : decode cX11_init 89 = .ok (.aload_n 0, 1) := by decide +kernel
theorem dX11_init_90 : decode cX11_init 90 = .ok (.getfield 16, 3) := by decide +kernel
theorem dX11_init_93 : decode cX11_init 93 = .ok (.aload_n 0, 1) := by decide +kernel
theorem dX11_init_94 : decode cX11_init 94 = .ok (.getfield 35, 3) := by decide +kernel
theorem dX11_init_97 : decode cX11_init 97 = .ok (.invokespecial 50, 3) := by decide +kernel
theorem dX11_init_100 : decode cX11_init 100 = .ok (.putfield 51, 3) := by decide +kernel
theorem dX11_init_103 : decode cX11_init 103 = .ok (.aload_n 0, 1) := by decide +kernel
theorem dX11_init_104 : decode cX11_init 104 = .ok (.new 55, 3) := by decide +kernel
theorem dX11_init_107 : decode cX11_init 107 = .ok (.dup, 1) := by decide +kernel
theorem dX11_init_108 : decode cX11_init 108 = .ok (.aload_n 0, 1) := by decide +kernel
theorem dX11_init_109 : decode cX11_init 109 = .ok (.getfield 16, 3) := by decide +kernel
theorem dX11_init_112 : decode cX11_init 112 = .ok (.invokespecial 57, 3) := by decide +kernel
theorem dX11_init_115 : decode cX11_init 115 = .ok (.putfield 60, 3) := by decide +kernel
theorem dX11_init_118 : decode cX11_init 118 = .ok (.aload_n 0, 1) := by decide +kernel
theorem dX11_init_119 : decode cX11_init 119 = .ok (.new 64, 3) := by decide +kernel
theorem dX11_init_122 : decode cX11_init 122 = .ok (.dup, 1) := by decide +kernel
theorem dX11_init_123 : decode cX11_init 123 = .ok (.aload_n 0, 1) := by decide +kernel
theorem dX11_init_124 : decode cX11_init 124 = .ok (.getfield 16, 3) := by decide +kernel
theorem dX11_init_127 : decode cX11_init 127 = .ok (.invokespecial 66, 3) := by decide +kernel
theorem dX11_init_130 : decode cX11_init 130 = .ok (.putfield 67, 3) := by decide +kernel
theorem dX11_init_133 : decode cX11_init 133 = .ok (.aload_n 0, 1) := by decide +kernel
theorem dX11_init_134 : decode cX11_init 134 = .ok (.new 71, 3) := by decide +kernel
theorem dX11_init_137 : decode cX11_init 137 = .ok (.dup, 1) := by decide +kernel
theorem dX11_init_138 : decode cX11_init 138 = .ok (.aload_n 0, 1) := by decide +kernel
theorem dX11_init_139 : decode cX11_init 139 = .ok (.getfield 16, 3) := by decide +kernel
theorem dX11_init_142 : decode cX11_init 142 = .ok (.aload_n 0, 1) := by decide +kernel
theorem dX11_init_143 : decode cX11_init 143 = .ok (.getfield 44, 3) := by decide +kernel
theorem dX11_init_146 : decode cX11_init 146 = .ok (.aload_n 0, 1) := by decide +kernel
theorem dX11_init_147 : decode cX11_init 147 = .ok (.getfield 51, 3) := by decide +kernel
theorem dX11_init_150 : decode cX11_init 150 = .ok (.invokespecial 73, 3) := by decide +kernel
theorem dX11_init_153 : decode cX11_init 153 = .ok (.putfield 76, 3) := by decide +kernel
theorem dX11_init_156 : decode cX11_init 156 = .ok (.aload_n 0, 1) := by decide +kernel
theorem dX11_init_157 : decode cX11_init 157 = .ok (.new 80, 3) := by decide +kernel
theorem dX11_init_160 : decode cX11_init 160 = .ok (.dup, 1) := by decide +kernel
theorem dX11_init_161 : decode cX11_init 161 = .ok (.invokespecial 82, 3) := by decide +kernel
theorem dX11_init_164 : decode cX11_init 164 = .ok (.putfield 83, 3) := by decide +kernel
theorem dX11_init_167 : decode cX11_init 167 = .ok (.aload_n 0, 1) := by decide +kernel
theorem dX11_init_168 : decode cX11_init 168 = .ok (.iconst 0, 1) := by decide +kernel
theorem dX11_init_169 : decode cX11_init 169 = .ok (.putfield 87, 3) := by decide +kernel
theorem dX11_init_172 : decode cX11_init 172 = .ok (.aload_n 0, 1) := by decide +kernel
theorem dX11_init_173 : decode cX11_init 173 = .ok (.iconst 0, 1) := by decide +kernel
theorem dX11_init_174 : decode cX11_init 174 = .ok (.putfield 91, 3) := by decide +kernel
theorem dX11_init_177 : decode cX11_init 177 = .ok (.aload_n 0, 1) := by decide +kernel
theorem dX11_init_178 : decode cX11_init 178 = .ok (.iconst 0, 1) := by decide +kernel
theorem dX11_init_179 : decode cX11_init 179 = .ok (.putfield 94, 3) := by decide +kernel
theorem dX11_init_182 : decode cX11_init 182 = .ok (.aload_n 0, 1) := by decide +kernel
theorem dX11_init_183 : decode cX11_init 183 = .ok (.iconst 1, 1) := by decide +kernel
theorem dX11_init_184 : decode cX11_init 184 = .ok (.putfield 97, 3) := by decide +kernel
theorem dX11_init_187 : decode cX11_init 187 = .ok (.aload_n 0, 1) := by decide +kernel
theorem dX11_init_188 : decode cX11_init 188 = .ok (.iconst 0, 1) := by decide +kernel
theorem dX11_init_189 : decode cX11_init 189 = .ok (.putfield 100, 3) := by decide +kernel
theorem dX11_init_192 : decode cX11_init 192 = .ok (.aload_n 0, 1) := by decide +kernel
theorem dX11_init_193 : decode cX11_init 193 = .ok (.iconst (-1), 1) := by decide +kernel
theorem dX11_init_194 : decode cX11_init 194 = .ok (.putfield 103, 3) := by decide +kernel
theorem dX11_init_197 : decode cX11_init 197 = .ok (.return_, 1) := by decide +kernel
theorem dX11_feed_0 : decode cX11_feed 0 = .ok (.aload_n 0, 1) := by decide +kernel
theorem dX11_feed_1 : decode cX11_feed 1 = .ok (.getfield 87, 3) := by decide +kernel
theorem dX11_feed_4 : decode cX11_feed 4 = .ok (.bipush 20, 2) := by decide +kernel
theorem dX11_feed_6 : decode cX11_feed 6 = .ok (.iadd, 1) := by decide +kernel
theorem dX11_feed_7 : decode cX11_feed 7 = .ok (.sipush 600, 3) := by decide +kernel
theorem dX11_feed_10 : decode cX11_feed 10 = .ok (.if_icmp .le 5, 3) := by decide +kernel
theorem dX11_feed_13 : decode cX11_feed 13 = .ok (.iconst (-1), 1) := by decide +kernel
theorem dX11_feed_14 : decode cX11_feed 14 = .ok (.ireturn, 1) := by decide +kernel
theorem dX11_feed_15 : decode cX11_feed 15 = .ok (.aload_n 0, 1) := by decide +kernel
theorem dX11_feed_16 : decode cX11_feed 16 = .ok (.iload_n 1, 1) := by decide +kernel
theorem dX11_feed_17 : decode cX11_feed 17 = .ok (.invokevirtual 106, 3) := by decide +kernel
theorem dX11_feed_20 : decode cX11_feed 20 = .ok (.aload_n 0, 1) := by decide +kernel
theorem dX11_feed_21 : decode cX11_feed 21 = .ok (.iload_n 2, 1) := by decide +kernel
theorem dX11_feed_22 : decode cX11_feed 22 = .ok (.invokevirtual 106, 3) := by decide +kernel
theorem dX11_feed_25 : decode cX11_feed 25 = .ok (.aload_n 0, 1) := by decide +kernel
theorem dX11_feed_26 : decode cX11_feed 26 = .ok (.iload_n 3, 1) := by decide +kernel
theorem dX11_feed_27 : decode cX11_feed 27 = .ok (.invokevirtual 106, 3) := by decide +kernel
theorem dX11_feed_30 : decode cX11_feed 30 = .ok (.aload_n 0, 1) := by decide +kernel
theorem dX11_feed_31 : decode cX11_feed 31 = .ok (.iload 4, 2) := by decide +kernel
theorem dX11_feed_33 : decode cX11_feed 33 = .ok (.invokevirtual 106, 3) := by decide +kernel
theorem dX11_feed_36 : decode cX11_feed 36 = .ok (.aload_n 0, 1) := by decide +kernel
theorem dX11_feed_37 : decode cX11_feed 37 = .ok (.iload 5, 2) := by decide +kernel
theorem dX11_feed_39 : decode cX11_feed 39 = .ok (.invokevirtual 106, 3) := by decide +kernel
theorem dX11_feed_42 : decode cX11_feed 42 = .ok (.aload_n 0, 1) := by decide +kernel
theorem dX11_feed_43 : decode cX11_feed 43 = .ok (.getfield 87, 3) := by decide +kernel
theorem dX11_feed_46 : decode cX11_feed 46 = .ok (.ireturn, 1) := by decide +kernel
theorem dX11_text_0 : decode cX11_text 0 = .ok (.iload_n 1, 1) := by decide +kernel
theorem dX11_text_1 : decode cX11_text 1 = .ok (.ifCond .lt 11, 3) := by decide +kernel
theorem dX11_text_4 : decode cX11_text 4 = .ok (.iload_n 1, 1) := by decide +kernel
theorem dX11_text_5 : decode cX11_text 5 = .ok (.aload_n 0, 1) := by decide +kernel
theorem dX11_text_6 : decode cX11_text 6 = .ok (.getfield 87, 3) := by decide +kernel
theorem dX11_text_9 : decode cX11_text 9 = .ok (.if_icmp .le 6, 3) := by decide +kernel
theorem dX11_text_12 : decode cX11_text 12 = .ok (.bipush (-2), 2) := by decide +kernel
theorem dX11_text_14 : decode cX11_text 14 = .ok (.ireturn, 1) := by decide +kernel
theorem dX11_text_15 : decode cX11_text 15 = .ok (.aload_n 0, 1) := by decide +kernel
theorem dX11_text_16 : decode cX11_text 16 = .ok (.iconst 0, 1) := by decide +kernel
theorem dX11_text_17 : decode cX11_text 17 = .ok (.putfield 87, 3) := by decide +kernel
theorem dX11_text_20 : decode cX11_text 20 = .ok (.aload_n 0, 1) := by decide +kernel
theorem dX11_text_21 : decode cX11_text 21 = .ok (.getfield 28, 3) := by decide +kernel
theorem dX11_text_24 : decode cX11_text 24 = .ok (.iload_n 1, 1) := by decide +kernel
theorem dX11_text_25 : decode cX11_text 25 = .ok (.invokevirtual 110, 3) := by decide +kernel
theorem dX11_text_28 : decode cX11_text 28 = .ok (.istore_n 2, 1) := by decide +kernel
theorem dX11_text_29 : decode cX11_text 29 = .ok (.aload_n 0, 1) := by decide +kernel
theorem dX11_text_30 : decode cX11_text 30 = .ok (.aload_n 0, 1) := by decide +kernel
theorem dX11_text_31 : decode cX11_text 31 = .ok (.getfield 28, 3) := by decide +kernel
theorem dX11_text_34 : decode cX11_text 34 = .ok (.getfield 114, 3) := by decide +kernel
theorem dX11_text_37 : decode cX11_text 37 = .ok (.putfield 100, 3) := by decide +kernel
theorem dX11_text_40 : decode cX11_text 40 = .ok (.aload_n 0, 1) := by decide +kernel
theorem dX11_text_41 : decode cX11_text 41 = .ok (.aload_n 0, 1) := by decide +kernel
theorem dX11_text_42 : decode cX11_text 42 = .ok (.getfield 28, 3) := by decide +kernel
theorem dX11_text_45 : decode cX11_text 45 = .ok (.getfield 115, 3) := by decide +kernel
theorem dX11_text_48 : decode cX11_text 48 = .ok (.putfield 103, 3) := by decide +kernel
theorem dX11_text_51 : decode cX11_text 51 = .ok (.iload_n 2, 1) := by decide +kernel
theorem dX11_text_52 : decode cX11_text 52 = .ok (.ifCond .ne 5, 3) := by decide +kernel
theorem dX11_text_55 : decode cX11_text 55 = .ok (.iconst (-1), 1) := by decide +kernel
theorem dX11_text_56 : decode cX11_text 56 = .ok (.ireturn, 1) := by decide +kernel
theorem dX11_text_57 : decode cX11_text 57 = .ok (.aload_n 0, 1) := by decide +kernel
theorem dX11_text_58 : decode cX11_text 58 = .ok (.invokevirtual 116, 3) := by decide +kernel
theorem dX11_text_61 : decode cX11_text 61 = .ok (.aload_n 0, 1) := by decide +kernel
theorem dX11_text_62 : decode cX11_text 62 = .ok (.getfield 16, 3) := by decide +kernel
theorem dX11_text_65 : decode cX11_text 65 = .ok (.getfield 119, 3) := by decide +kernel
theorem dX11_text_68 : decode cX11_text 68 = .ok (.ireturn, 1) := by decide +kernel
theorem dX11_fault_0 : decode cX11_fault 0 = .ok (.iload_n 1, 1) := by decide +kernel
theorem dX11_fault_1 : decode cX11_fault 1 = .ok (.lookupswitch 37 #[(0, 27), (1, 32)], 27) := by decide +kernel
theorem dX11_fault_28 : decode cX11_fault 28 = .ok (.aload_n 0, 1) := by decide +kernel
theorem dX11_fault_29 : decode cX11_fault 29 = .ok (.getfield 100, 3) := by decide +kernel
theorem dX11_fault_32 : decode cX11_fault 32 = .ok (.ireturn, 1) := by decide +kernel
theorem dX11_fault_33 : decode cX11_fault 33 = .ok (.aload_n 0, 1) := by decide +kernel
theorem dX11_fault_34 : decode cX11_fault 34 = .ok (.getfield 103, 3) := by decide +kernel
theorem dX11_fault_37 : decode cX11_fault 37 = .ok (.ireturn, 1) := by decide +kernel
theorem dX11_fault_38 : decode cX11_fault 38 = .ok (.iconst (-1), 1) := by decide +kernel
theorem dX11_fault_39 : decode cX11_fault 39 = .ok (.ireturn, 1) := by decide +kernel
theorem dX11_line_0 : decode cX11_line 0 = .ok (.aload_n 0, 1) := by decide +kernel
theorem dX11_line_1 : decode cX11_line 1 = .ok (.getfield 16, 3) := by decide +kernel
theorem dX11_line_4 : decode cX11_line 4 = .ok (.iload_n 1, 1) := by decide +kernel
theorem dX11_line_5 : decode cX11_line 5 = .ok (.invokevirtual 122, 3) := by decide +kernel
theorem dX11_line_8 : decode cX11_line 8 = .ok (.ifCond .ne 13, 3) := by decide +kernel
theorem dX11_line_11 : decode cX11_line 11 = .ok (.new 125, 3) := by decide +kernel
theorem dX11_line_14 : decode cX11_line 14 = .ok (.dup, 1) := by decide +kernel
theorem dX11_line_15 : decode cX11_line 15 = .ok (.ldc 127, 2) := by decide +kernel
theorem dX11_line_17 : decode cX11_line 17 = .ok (.invokespecial 129, 3) := by decide +kernel
theorem dX11_line_20 : decode cX11_line 20 = .ok (.athrow, 1) := by decide +kernel
theorem dX11_line_21 : decode cX11_line 21 = .ok (.iload_n 2, 1) := by decide +kernel
theorem dX11_line_22 : decode cX11_line 22 = .ok (.tableswitch 52 0 2 #[26, 36, 46], 26) := by decide +kernel
theorem dX11_line_48 : decode cX11_line 48 = .ok (.aload_n 0, 1) := by decide +kernel
theorem dX11_line_49 : decode cX11_line 49 = .ok (.getfield 16, 3) := by decide +kernel
theorem dX11_line_52 : decode cX11_line 52 = .ok (.getfield 132, 3) := by decide +kernel
theorem dX11_line_55 : decode cX11_line 55 = .ok (.iload_n 1, 1) := by decide +kernel
theorem dX11_line_56 : decode cX11_line 56 = .ok (.iaload, 1) := by decide +kernel
theorem dX11_line_57 : decode cX11_line 57 = .ok (.ireturn, 1) := by decide +kernel
theorem dX11_line_58 : decode cX11_line 58 = .ok (.aload_n 0, 1) := by decide +kernel
theorem dX11_line_59 : decode cX11_line 59 = .ok (.getfield 16, 3) := by decide +kernel
theorem dX11_line_62 : decode cX11_line 62 = .ok (.getfield 136, 3) := by decide +kernel
theorem dX11_line_65 : decode cX11_line 65 = .ok (.iload_n 1, 1) := by decide +kernel
theorem dX11_line_66 : decode cX11_line 66 = .ok (.iaload, 1) := by decide +kernel
theorem dX11_line_67 : decode cX11_line 67 = .ok (.ireturn, 1) := by decide +kernel
theorem dX11_line_68 : decode cX11_line 68 = .ok (.aload_n 0, 1) := by decide +kernel
theorem dX11_line_69 : decode cX11_line 69 = .ok (.iload_n 1, 1) := by decide +kernel
theorem dX11_line_70 : decode cX11_line 70 = .ok (.invokevirtual 139, 3) := by decide +kernel
theorem dX11_line_73 : decode cX11_line 73 = .ok (.ireturn, 1) := by decide +kernel
theorem dX11_line_74 : decode cX11_line 74 = .ok (.new 143, 3) := by decide +kernel
theorem dX11_line_77 : decode cX11_line 77 = .ok (.dup, 1) := by decide +kernel
theorem dX11_line_78 : decode cX11_line 78 = .ok (.ldc 145, 2) := by decide +kernel
theorem dX11_line_80 : decode cX11_line 80 = .ok (.invokespecial 147, 3) := by decide +kernel
theorem dX11_line_83 : decode cX11_line 83 = .ok (.athrow, 1) := by decide +kernel
theorem dX11_place_0 : decode cX11_place 0 = .ok (.aload_n 0, 1) := by decide +kernel
theorem dX11_place_1 : decode cX11_place 1 = .ok (.getfield 16, 3) := by decide +kernel
theorem dX11_place_4 : decode cX11_place 4 = .ok (.iload_n 1, 1) := by decide +kernel
theorem dX11_place_5 : decode cX11_place 5 = .ok (.invokevirtual 148, 3) := by decide +kernel
theorem dX11_place_8 : decode cX11_place 8 = .ok (.ifCond .eq 21, 3) := by decide +kernel
theorem dX11_place_11 : decode cX11_place 11 = .ok (.aload_n 0, 1) := by decide +kernel
theorem dX11_place_12 : decode cX11_place 12 = .ok (.getfield 16, 3) := by decide +kernel
theorem dX11_place_15 : decode cX11_place 15 = .ok (.aload_n 0, 1) := by decide +kernel
theorem dX11_place_16 : decode cX11_place 16 = .ok (.getfield 91, 3) := by decide +kernel
theorem dX11_place_19 : decode cX11_place 19 = .ok (.invokevirtual 151, 3) := by decide +kernel
theorem dX11_place_22 : decode cX11_place 22 = .ok (.iload_n 1, 1) := by decide +kernel
theorem dX11_place_23 : decode cX11_place 23 = .ok (.invokestatic 154, 3) := by decide +kernel
theorem dX11_place_26 : decode cX11_place 26 = .ok (.goto 4, 3) := by decide +kernel
theorem dX11_place_29 : decode cX11_place 29 = .ok (.iconst (-1), 1) := by decide +kernel
theorem dX11_place_30 : decode cX11_place 30 = .ok (.ireturn, 1) := by decide +kernel
theorem dX11_reaches_0 : decode cX11_reaches 0 = .ok (.aload_n 0, 1) := by decide +kernel
theorem dX11_reaches_1 : decode cX11_reaches 1 = .ok (.getfield 16, 3) := by decide +kernel
theorem dX11_reaches_4 : decode cX11_reaches 4 = .ok (.iload_n 1, 1) := by decide +kernel
theorem dX11_reaches_5 : decode cX11_reaches 5 = .ok (.invokevirtual 148, 3) := by decide +kernel
theorem dX11_reaches_8 : decode cX11_reaches 8 = .ok (.ifCond .eq 12, 3) := by decide +kernel
theorem dX11_reaches_11 : decode cX11_reaches 11 = .ok (.iload_n 2, 1) := by decide +kernel
theorem dX11_reaches_12 : decode cX11_reaches 12 = .ok (.ifCond .lt 8, 3) := by decide +kernel
theorem dX11_reaches_15 : decode cX11_reaches 15 = .ok (.iload_n 2, 1) := by decide +kernel
theorem dX11_reaches_16 : decode cX11_reaches 16 = .ok (.iconst 1, 1) := by decide +kernel
theorem dX11_reaches_17 : decode cX11_reaches 17 = .ok (.if_icmp .le 5, 3) := by decide +kernel
theorem dX11_reaches_20 : decode cX11_reaches 20 = .ok (.iconst (-1), 1) := by decide +kernel
theorem dX11_reaches_21 : decode cX11_reaches 21 = .ok (.ireturn, 1) := by decide +kernel
theorem dX11_reaches_22 : decode cX11_reaches 22 = .ok (.aload_n 0, 1) := by decide +kernel
theorem dX11_reaches_23 : decode cX11_reaches 23 = .ok (.getfield 16, 3) := by decide +kernel
theorem dX11_reaches_26 : decode cX11_reaches 26 = .ok (.iload_n 2, 1) := by decide +kernel
theorem dX11_reaches_27 : decode cX11_reaches 27 = .ok (.ifCond .ne 10, 3) := by decide +kernel
theorem dX11_reaches_30 : decode cX11_reaches 30 = .ok (.aload_n 0, 1) := by decide +kernel
theorem dX11_reaches_31 : decode cX11_reaches 31 = .ok (.getfield 91, 3) := by decide +kernel
theorem dX11_reaches_34 : decode cX11_reaches 34 = .ok (.goto 17, 3) := by decide +kernel
theorem dX11_reaches_37 : decode cX11_reaches 37 = .ok (.aload_n 0, 1) := by decide +kernel
theorem dX11_reaches_38 : decode cX11_reaches 38 = .ok (.getfield 16, 3) := by decide +kernel
theorem dX11_reaches_41 : decode cX11_reaches 41 = .ok (.invokevirtual 160, 3) := by decide +kernel
theorem dX11_reaches_44 : decode cX11_reaches 44 = .ok (.aload_n 0, 1) := by decide +kernel
theorem dX11_reaches_45 : decode cX11_reaches 45 = .ok (.getfield 94, 3) := by decide +kernel
theorem dX11_reaches_48 : decode cX11_reaches 48 = .ok (.iconst (-1), 1) := by decide +kernel
theorem dX11_reaches_49 : decode cX11_reaches 49 = .ok (.ixor, 1) := by decide +kernel
theorem dX11_reaches_50 : decode cX11_reaches 50 = .ok (.iand, 1) := by decide +kernel
theorem dX11_reaches_51 : decode cX11_reaches 51 = .ok (.invokevirtual 151, 3) := by decide +kernel
theorem dX11_reaches_54 : decode cX11_reaches 54 = .ok (.istore_n 3, 1) := by decide +kernel
theorem dX11_reaches_55 : decode cX11_reaches 55 = .ok (.iload_n 3, 1) := by decide +kernel
theorem dX11_reaches_56 : decode cX11_reaches 56 = .ok (.iload_n 3, 1) := by decide +kernel
theorem dX11_reaches_57 : decode cX11_reaches 57 = .ok (.iload_n 1, 1) := by decide +kernel
theorem dX11_reaches_58 : decode cX11_reaches 58 = .ok (.invokestatic 154, 3) := by decide +kernel
theorem dX11_reaches_61 : decode cX11_reaches 61 = .ok (.aload_n 0, 1) := by decide +kernel
theorem dX11_reaches_62 : decode cX11_reaches 62 = .ok (.getfield 16, 3) := by decide +kernel
theorem dX11_reaches_65 : decode cX11_reaches 65 = .ok (.getfield 164, 3) := by decide +kernel
theorem dX11_reaches_68 : decode cX11_reaches 68 = .ok (.invokestatic 167, 3) := by decide +kernel
theorem dX11_reaches_71 : decode cX11_reaches 71 = .ok (.ireturn, 1) := by decide +kernel
theorem dX11_move_0 : decode cX11_move 0 = .ok (.aload_n 0, 1) := by decide +kernel
theorem dX11_move_1 : decode cX11_move 1 = .ok (.getfield 16, 3) := by decide +kernel
theorem dX11_move_4 : decode cX11_move 4 = .ok (.iload_n 1, 1) := by decide +kernel
theorem dX11_move_5 : decode cX11_move 5 = .ok (.invokevirtual 122, 3) := by decide +kernel
theorem dX11_move_8 : decode cX11_move 8 = .ok (.ifCond .ne 5, 3) := by decide +kernel
theorem dX11_move_11 : decode cX11_move 11 = .ok (.iconst (-1), 1) := by decide +kernel
theorem dX11_move_12 : decode cX11_move 12 = .ok (.ireturn, 1) := by decide +kernel
theorem dX11_move_13 : decode cX11_move 13 = .ok (.aload_n 0, 1) := by decide +kernel
theorem dX11_move_14 : decode cX11_move 14 = .ok (.iload_n 1, 1) := by decide +kernel
theorem dX11_move_15 : decode cX11_move 15 = .ok (.invokevirtual 171, 3) := by decide +kernel
theorem dX11_move_18 : decode cX11_move 18 = .ok (.ifCond .ne 6, 3) := by decide +kernel
theorem dX11_move_21 : decode cX11_move 21 = .ok (.bipush (-2), 2) := by decide +kernel
theorem dX11_move_23 : decode cX11_move 23 = .ok (.ireturn, 1) := by decide +kernel
theorem dX11_move_24 : decode cX11_move 24 = .ok (.aload_n 0, 1) := by decide +kernel
theorem dX11_move_25 : decode cX11_move 25 = .ok (.invokevirtual 174, 3) := by decide +kernel
theorem dX11_move_28 : decode cX11_move 28 = .ok (.ifCond .eq 6, 3) := by decide +kernel
theorem dX11_move_31 : decode cX11_move 31 = .ok (.bipush (-3), 2) := by decide +kernel
theorem dX11_move_33 : decode cX11_move 33 = .ok (.ireturn, 1) := by decide +kernel
theorem dX11_move_34 : decode cX11_move 34 = .ok (.aload_n 0, 1) := by decide +kernel
theorem dX11_move_35 : decode cX11_move 35 = .ok (.getfield 97, 3) := by decide +kernel
theorem dX11_move_38 : decode cX11_move 38 = .ok (.ifCond .ne 18, 3) := by decide +kernel
theorem dX11_move_41 : decode cX11_move 41 = .ok (.aload_n 0, 1) := by decide +kernel
theorem dX11_move_42 : decode cX11_move 42 = .ok (.dup, 1) := by decide +kernel
theorem dX11_move_43 : decode cX11_move 43 = .ok (.getfield 91, 3) := by decide +kernel
theorem dX11_move_46 : decode cX11_move 46 = .ok (.iconst 1, 1) := by decide +kernel
theorem dX11_move_47 : decode cX11_move 47 = .ok (.iload_n 1, 1) := by decide +kernel
theorem dX11_move_48 : decode cX11_move 48 = .ok (.ishl, 1) := by decide +kernel
theorem dX11_move_49 : decode cX11_move 49 = .ok (.ior, 1) := by decide +kernel
theorem dX11_move_50 : decode cX11_move 50 = .ok (.putfield 91, 3) := by decide +kernel
theorem dX11_move_53 : decode cX11_move 53 = .ok (.goto 15, 3) := by decide +kernel
theorem dX11_move_56 : decode cX11_move 56 = .ok (.aload_n 0, 1) := by decide +kernel
theorem dX11_move_57 : decode cX11_move 57 = .ok (.dup, 1) := by decide +kernel
theorem dX11_move_58 : decode cX11_move 58 = .ok (.getfield 94, 3) := by decide +kernel
theorem dX11_move_61 : decode cX11_move 61 = .ok (.iconst 1, 1) := by decide +kernel
theorem dX11_move_62 : decode cX11_move 62 = .ok (.iload_n 1, 1) := by decide +kernel
theorem dX11_move_63 : decode cX11_move 63 = .ok (.ishl, 1) := by decide +kernel
theorem dX11_move_64 : decode cX11_move 64 = .ok (.ior, 1) := by decide +kernel
theorem dX11_move_65 : decode cX11_move 65 = .ok (.putfield 94, 3) := by decide +kernel
theorem dX11_move_68 : decode cX11_move 68 = .ok (.aload_n 0, 1) := by decide +kernel
theorem dX11_move_69 : decode cX11_move 69 = .ok (.iload_n 1, 1) := by decide +kernel
theorem dX11_move_70 : decode cX11_move 70 = .ok (.invokevirtual 178, 3) := by decide +kernel
theorem dX11_move_73 : decode cX11_move 73 = .ok (.aload_n 0, 1) := by decide +kernel
theorem dX11_move_74 : decode cX11_move 74 = .ok (.getfield 16, 3) := by decide +kernel
theorem dX11_move_77 : decode cX11_move 77 = .ok (.aload_n 0, 1) := by decide +kernel
theorem dX11_move_78 : decode cX11_move 78 = .ok (.getfield 91, 3) := by decide +kernel
theorem dX11_move_81 : decode cX11_move 81 = .ok (.aload_n 0, 1) := by decide +kernel
theorem dX11_move_82 : decode cX11_move 82 = .ok (.getfield 94, 3) := by decide +kernel
theorem dX11_move_85 : decode cX11_move 85 = .ok (.invokevirtual 181, 3) := by decide +kernel
theorem dX11_move_88 : decode cX11_move 88 = .ok (.ireturn, 1) := by decide +kernel
theorem dX11_pass_0 : decode cX11_pass 0 = .ok (.aload_n 0, 1) := by decide +kernel
theorem dX11_pass_1 : decode cX11_pass 1 = .ok (.invokevirtual 174, 3) := by decide +kernel
theorem dX11_pass_4 : decode cX11_pass 4 = .ok (.ifCond .eq 5, 3) := by decide +kernel
theorem dX11_pass_7 : decode cX11_pass 7 = .ok (.iconst 0, 1) := by decide +kernel
theorem dX11_pass_8 : decode cX11_pass 8 = .ok (.ireturn, 1) := by decide +kernel
theorem dX11_pass_9 : decode cX11_pass 9 = .ok (.aload_n 0, 1) := by decide +kernel
theorem dX11_pass_10 : decode cX11_pass 10 = .ok (.iconst (-1), 1) := by decide +kernel
theorem dX11_pass_11 : decode cX11_pass 11 = .ok (.invokevirtual 178, 3) := by decide +kernel
theorem dX11_pass_14 : decode cX11_pass 14 = .ok (.iconst 1, 1) := by decide +kernel
theorem dX11_pass_15 : decode cX11_pass 15 = .ok (.ireturn, 1) := by decide +kernel
theorem dX11_undo_0 : decode cX11_undo 0 = .ok (.aload_n 0, 1) := by decide +kernel
theorem dX11_undo_1 : decode cX11_undo 1 = .ok (.getfield 83, 3) := by decide +kernel
theorem dX11_undo_4 : decode cX11_undo 4 = .ok (.getfield 184, 3) := by decide +kernel
theorem dX11_undo_7 : decode cX11_undo 7 = .ok (.ifCond .ne 5, 3) := by decide +kernel
theorem dX11_undo_10 : decode cX11_undo 10 = .ok (.iconst (-1), 1) := by decide +kernel
theorem dX11_undo_11 : decode cX11_undo 11 = .ok (.ireturn, 1) := by decide +kernel
theorem dX11_undo_12 : decode cX11_undo 12 = .ok (.aload_n 0, 1) := by decide +kernel
theorem dX11_undo_13 : decode cX11_undo 13 = .ok (.getfield 83, 3) := by decide +kernel
theorem dX11_undo_16 : decode cX11_undo 16 = .ok (.invokevirtual 187, 3) := by decide +kernel
theorem dX11_undo_19 : decode cX11_undo 19 = .ok (.istore_n 1, 1) := by decide +kernel
theorem dX11_undo_20 : decode cX11_undo 20 = .ok (.aload_n 0, 1) := by decide +kernel
theorem dX11_undo_21 : decode cX11_undo 21 = .ok (.iconst 1, 1) := by decide +kernel
theorem dX11_undo_22 : decode cX11_undo 22 = .ok (.aload_n 0, 1) := by decide +kernel
theorem dX11_undo_23 : decode cX11_undo 23 = .ok (.getfield 97, 3) := by decide +kernel
theorem dX11_undo_26 : decode cX11_undo 26 = .ok (.isub, 1) := by decide +kernel
theorem dX11_undo_27 : decode cX11_undo 27 = .ok (.putfield 97, 3) := by decide +kernel
theorem dX11_undo_30 : decode cX11_undo 30 = .ok (.aload_n 0, 1) := by decide +kernel
theorem dX11_undo_31 : decode cX11_undo 31 = .ok (.getfield 16, 3) := by decide +kernel
theorem dX11_undo_34 : decode cX11_undo 34 = .ok (.iload_n 1, 1) := by decide +kernel
theorem dX11_undo_35 : decode cX11_undo 35 = .ok (.invokevirtual 122, 3) := by decide +kernel
theorem dX11_undo_38 : decode cX11_undo 38 = .ok (.ifCond .ne 6, 3) := by decide +kernel
theorem dX11_undo_41 : decode cX11_undo 41 = .ok (.bipush (-2), 2) := by decide +kernel
theorem dX11_undo_43 : decode cX11_undo 43 = .ok (.ireturn, 1) := by decide +kernel
theorem dX11_undo_44 : decode cX11_undo 44 = .ok (.aload_n 0, 1) := by decide +kernel
theorem dX11_undo_45 : decode cX11_undo 45 = .ok (.dup, 1) := by decide +kernel
theorem dX11_undo_46 : decode cX11_undo 46 = .ok (.getfield 91, 3) := by decide +kernel
theorem dX11_undo_49 : decode cX11_undo 49 = .ok (.iconst 1, 1) := by decide +kernel
theorem dX11_undo_50 : decode cX11_undo 50 = .ok (.iload_n 1, 1) := by decide +kernel
theorem dX11_undo_51 : decode cX11_undo 51 = .ok (.ishl, 1) := by decide +kernel
theorem dX11_undo_52 : decode cX11_undo 52 = .ok (.iconst (-1), 1) := by decide +kernel
theorem dX11_undo_53 : decode cX11_undo 53 = .ok (.ixor, 1) := by decide +kernel
theorem dX11_undo_54 : decode cX11_undo 54 = .ok (.iand, 1) := by decide +kernel
theorem dX11_undo_55 : decode cX11_undo 55 = .ok (.putfield 91, 3) := by decide +kernel
theorem dX11_undo_58 : decode cX11_undo 58 = .ok (.aload_n 0, 1) := by decide +kernel
theorem dX11_undo_59 : decode cX11_undo 59 = .ok (.dup, 1) := by decide +kernel
theorem dX11_undo_60 : decode cX11_undo 60 = .ok (.getfield 94, 3) := by decide +kernel
theorem dX11_undo_63 : decode cX11_undo 63 = .ok (.iconst 1, 1) := by decide +kernel
theorem dX11_undo_64 : decode cX11_undo 64 = .ok (.iload_n 1, 1) := by decide +kernel
theorem dX11_undo_65 : decode cX11_undo 65 = .ok (.ishl, 1) := by decide +kernel
theorem dX11_undo_66 : decode cX11_undo 66 = .ok (.iconst (-1), 1) := by decide +kernel
theorem dX11_undo_67 : decode cX11_undo 67 = .ok (.ixor, 1) := by decide +kernel
theorem dX11_undo_68 : decode cX11_undo 68 = .ok (.iand, 1) := by decide +kernel
theorem dX11_undo_69 : decode cX11_undo 69 = .ok (.putfield 94, 3) := by decide +kernel
theorem dX11_undo_72 : decode cX11_undo 72 = .ok (.iload_n 1, 1) := by decide +kernel
theorem dX11_undo_73 : decode cX11_undo 73 = .ok (.ireturn, 1) := by decide +kernel
theorem dX11_written_0 : decode cX11_written 0 = .ok (.iload_n 1, 1) := by decide +kernel
theorem dX11_written_1 : decode cX11_written 1 = .ok (.ifCond .ge 5, 3) := by decide +kernel
theorem dX11_written_4 : decode cX11_written 4 = .ok (.iconst (-1), 1) := by decide +kernel
theorem dX11_written_5 : decode cX11_written 5 = .ok (.ireturn, 1) := by decide +kernel
theorem dX11_written_6 : decode cX11_written 6 = .ok (.iload_n 1, 1) := by decide +kernel
theorem dX11_written_7 : decode cX11_written 7 = .ok (.aload_n 0, 1) := by decide +kernel
theorem dX11_written_8 : decode cX11_written 8 = .ok (.getfield 83, 3) := by decide +kernel
theorem dX11_written_11 : decode cX11_written 11 = .ok (.getfield 184, 3) := by decide +kernel
theorem dX11_written_14 : decode cX11_written 14 = .ok (.if_icmp .lt 6, 3) := by decide +kernel
theorem dX11_written_17 : decode cX11_written 17 = .ok (.bipush (-2), 2) := by decide +kernel
theorem dX11_written_19 : decode cX11_written 19 = .ok (.ireturn, 1) := by decide +kernel
theorem dX11_written_20 : decode cX11_written 20 = .ok (.aload_n 0, 1) := by decide +kernel
theorem dX11_written_21 : decode cX11_written 21 = .ok (.getfield 83, 3) := by decide +kernel
theorem dX11_written_24 : decode cX11_written 24 = .ok (.iload_n 1, 1) := by decide +kernel
theorem dX11_written_25 : decode cX11_written 25 = .ok (.invokevirtual 190, 3) := by decide +kernel
theorem dX11_written_28 : decode cX11_written 28 = .ok (.istore_n 2, 1) := by decide +kernel
theorem dX11_written_29 : decode cX11_written 29 = .ok (.iload_n 2, 1) := by decide +kernel
theorem dX11_written_30 : decode cX11_written 30 = .ok (.iconst (-1), 1) := by decide +kernel
theorem dX11_written_31 : decode cX11_written 31 = .ok (.if_icmp .ne 8, 3) := by decide +kernel
theorem dX11_written_34 : decode cX11_written 34 = .ok (.bipush (-3), 2) := by decide +kernel
theorem dX11_written_36 : decode cX11_written 36 = .ok (.goto 4, 3) := by decide +kernel
theorem dX11_written_39 : decode cX11_written 39 = .ok (.iload_n 2, 1) := by decide +kernel
theorem dX11_written_40 : decode cX11_written 40 = .ok (.ireturn, 1) := by decide +kernel
theorem dX11_now_0 : decode cX11_now 0 = .ok (.iload_n 1, 1) := by decide +kernel
theorem dX11_now_1 : decode cX11_now 1 = .ok (.tableswitch 121 0 6 #[43, 48, 64, 72, 80, 88, 113], 43) := by decide +kernel
theorem dX11_now_44 : decode cX11_now 44 = .ok (.aload_n 0, 1) := by decide +kernel
theorem dX11_now_45 : decode cX11_now 45 = .ok (.getfield 97, 3) := by decide +kernel
theorem dX11_now_48 : decode cX11_now 48 = .ok (.ireturn, 1) := by decide +kernel
theorem dX11_now_49 : decode cX11_now 49 = .ok (.aload_n 0, 1) := by decide +kernel
theorem dX11_now_50 : decode cX11_now 50 = .ok (.getfield 16, 3) := by decide +kernel
theorem dX11_now_53 : decode cX11_now 53 = .ok (.aload_n 0, 1) := by decide +kernel
theorem dX11_now_54 : decode cX11_now 54 = .ok (.getfield 91, 3) := by decide +kernel
theorem dX11_now_57 : decode cX11_now 57 = .ok (.aload_n 0, 1) := by decide +kernel
theorem dX11_now_58 : decode cX11_now 58 = .ok (.getfield 94, 3) := by decide +kernel
theorem dX11_now_61 : decode cX11_now 61 = .ok (.invokevirtual 181, 3) := by decide +kernel
theorem dX11_now_64 : decode cX11_now 64 = .ok (.ireturn, 1) := by decide +kernel
theorem dX11_now_65 : decode cX11_now 65 = .ok (.aload_n 0, 1) := by decide +kernel
theorem dX11_now_66 : decode cX11_now 66 = .ok (.invokevirtual 193, 3) := by decide +kernel
theorem dX11_now_69 : decode cX11_now 69 = .ok (.invokestatic 196, 3) := by decide +kernel
theorem dX11_now_72 : decode cX11_now 72 = .ok (.ireturn, 1) := by decide +kernel
theorem dX11_now_73 : decode cX11_now 73 = .ok (.aload_n 0, 1) := by decide +kernel
theorem dX11_now_74 : decode cX11_now 74 = .ok (.getfield 91, 3) := by decide +kernel
theorem dX11_now_77 : decode cX11_now 77 = .ok (.invokestatic 196, 3) := by decide +kernel
theorem dX11_now_80 : decode cX11_now 80 = .ok (.ireturn, 1) := by decide +kernel
theorem dX11_now_81 : decode cX11_now 81 = .ok (.aload_n 0, 1) := by decide +kernel
theorem dX11_now_82 : decode cX11_now 82 = .ok (.getfield 94, 3) := by decide +kernel
theorem dX11_now_85 : decode cX11_now 85 = .ok (.invokestatic 196, 3) := by decide +kernel
theorem dX11_now_88 : decode cX11_now 88 = .ok (.ireturn, 1) := by decide +kernel
theorem dX11_now_89 : decode cX11_now 89 = .ok (.aload_n 0, 1) := by decide +kernel
theorem dX11_now_90 : decode cX11_now 90 = .ok (.getfield 16, 3) := by decide +kernel
theorem dX11_now_93 : decode cX11_now 93 = .ok (.aload_n 0, 1) := by decide +kernel
theorem dX11_now_94 : decode cX11_now 94 = .ok (.getfield 91, 3) := by decide +kernel
theorem dX11_now_97 : decode cX11_now 97 = .ok (.invokevirtual 151, 3) := by decide +kernel
theorem dX11_now_100 : decode cX11_now 100 = .ok (.aload_n 0, 1) := by decide +kernel
theorem dX11_now_101 : decode cX11_now 101 = .ok (.getfield 16, 3) := by decide +kernel
theorem dX11_now_104 : decode cX11_now 104 = .ok (.getfield 164, 3) := by decide +kernel
theorem dX11_now_107 : decode cX11_now 107 = .ok (.invokestatic 201, 3) := by decide +kernel
theorem dX11_now_110 : decode cX11_now 110 = .ok (.invokestatic 196, 3) := by decide +kernel
theorem dX11_now_113 : decode cX11_now 113 = .ok (.ireturn, 1) := by decide +kernel
theorem dX11_now_114 : decode cX11_now 114 = .ok (.aload_n 0, 1) := by decide +kernel
theorem dX11_now_115 : decode cX11_now 115 = .ok (.getfield 83, 3) := by decide +kernel
theorem dX11_now_118 : decode cX11_now 118 = .ok (.getfield 184, 3) := by decide +kernel
theorem dX11_now_121 : decode cX11_now 121 = .ok (.ireturn, 1) := by decide +kernel
theorem dX11_now_122 : decode cX11_now 122 = .ok (.iconst (-1), 1) := by decide +kernel
theorem dX11_now_123 : decode cX11_now 123 = .ok (.ireturn, 1) := by decide +kernel
theorem dX11_pair_0 : decode cX11_pair 0 = .ok (.iload_n 1, 1) := by decide +kernel
theorem dX11_pair_1 : decode cX11_pair 1 = .ok (.ifCond .lt 8, 3) := by decide +kernel
theorem dX11_pair_4 : decode cX11_pair 4 = .ok (.iload_n 1, 1) := by decide +kernel
theorem dX11_pair_5 : decode cX11_pair 5 = .ok (.iconst 3, 1) := by decide +kernel
theorem dX11_pair_6 : decode cX11_pair 6 = .ok (.if_icmp .le 5, 3) := by decide +kernel
theorem dX11_pair_9 : decode cX11_pair 9 = .ok (.iconst (-1), 1) := by decide +kernel
theorem dX11_pair_10 : decode cX11_pair 10 = .ok (.ireturn, 1) := by decide +kernel
theorem dX11_pair_11 : decode cX11_pair 11 = .ok (.aload_n 0, 1) := by decide +kernel
theorem dX11_pair_12 : decode cX11_pair 12 = .ok (.getfield 51, 3) := by decide +kernel
theorem dX11_pair_15 : decode cX11_pair 15 = .ok (.aload_n 0, 1) := by decide +kernel
theorem dX11_pair_16 : decode cX11_pair 16 = .ok (.getfield 91, 3) := by decide +kernel
theorem dX11_pair_19 : decode cX11_pair 19 = .ok (.aload_n 0, 1) := by decide +kernel
theorem dX11_pair_20 : decode cX11_pair 20 = .ok (.getfield 94, 3) := by decide +kernel
theorem dX11_pair_23 : decode cX11_pair 23 = .ok (.invokevirtual 204, 3) := by decide +kernel
theorem dX11_pair_26 : decode cX11_pair 26 = .ok (.ifCond .ne 6, 3) := by decide +kernel
theorem dX11_pair_29 : decode cX11_pair 29 = .ok (.bipush (-2), 2) := by decide +kernel
theorem dX11_pair_31 : decode cX11_pair 31 = .ok (.ireturn, 1) := by decide +kernel
theorem dX11_pair_32 : decode cX11_pair 32 = .ok (.iload_n 1, 1) := by decide +kernel
theorem dX11_pair_33 : decode cX11_pair 33 = .ok (.tableswitch 51 0 2 #[27, 35, 43], 27) := by decide +kernel
theorem dX11_pair_60 : decode cX11_pair 60 = .ok (.aload_n 0, 1) := by decide +kernel
theorem dX11_pair_61 : decode cX11_pair 61 = .ok (.getfield 51, 3) := by decide +kernel
theorem dX11_pair_64 : decode cX11_pair 64 = .ok (.getfield 208, 3) := by decide +kernel
theorem dX11_pair_67 : decode cX11_pair 67 = .ok (.ireturn, 1) := by decide +kernel
theorem dX11_pair_68 : decode cX11_pair 68 = .ok (.aload_n 0, 1) := by decide +kernel
theorem dX11_pair_69 : decode cX11_pair 69 = .ok (.getfield 51, 3) := by decide +kernel
theorem dX11_pair_72 : decode cX11_pair 72 = .ok (.getfield 211, 3) := by decide +kernel
theorem dX11_pair_75 : decode cX11_pair 75 = .ok (.ireturn, 1) := by decide +kernel
theorem dX11_pair_76 : decode cX11_pair 76 = .ok (.aload_n 0, 1) := by decide +kernel
theorem dX11_pair_77 : decode cX11_pair 77 = .ok (.getfield 51, 3) := by decide +kernel
theorem dX11_pair_80 : decode cX11_pair 80 = .ok (.getfield 214, 3) := by decide +kernel
theorem dX11_pair_83 : decode cX11_pair 83 = .ok (.ireturn, 1) := by decide +kernel
theorem dX11_pair_84 : decode cX11_pair 84 = .ok (.aload_n 0, 1) := by decide +kernel
theorem dX11_pair_85 : decode cX11_pair 85 = .ok (.getfield 51, 3) := by decide +kernel
theorem dX11_pair_88 : decode cX11_pair 88 = .ok (.getfield 208, 3) := by decide +kernel
theorem dX11_pair_91 : decode cX11_pair 91 = .ok (.invokestatic 196, 3) := by decide +kernel
theorem dX11_pair_94 : decode cX11_pair 94 = .ok (.ireturn, 1) := by decide +kernel
theorem dX11_outcome_0 : decode cX11_outcome 0 = .ok (.aload_n 0, 1) := by decide +kernel
theorem dX11_outcome_1 : decode cX11_outcome 1 = .ok (.getfield 44, 3) := by decide +kernel
theorem dX11_outcome_4 : decode cX11_outcome 4 = .ok (.aload_n 0, 1) := by decide +kernel
theorem dX11_outcome_5 : decode cX11_outcome 5 = .ok (.getfield 91, 3) := by decide +kernel
theorem dX11_outcome_8 : decode cX11_outcome 8 = .ok (.aload_n 0, 1) := by decide +kernel
theorem dX11_outcome_9 : decode cX11_outcome 9 = .ok (.getfield 94, 3) := by decide +kernel
theorem dX11_outcome_12 : decode cX11_outcome 12 = .ok (.invokevirtual 217, 3) := by decide +kernel
theorem dX11_outcome_15 : decode cX11_outcome 15 = .ok (.invokestatic 220, 3) := by decide +kernel
theorem dX11_outcome_18 : decode cX11_outcome 18 = .ok (.ireturn, 1) := by decide +kernel
theorem dX11_wins_0 : decode cX11_wins 0 = .ok (.iload_n 1, 1) := by decide +kernel
theorem dX11_wins_1 : decode cX11_wins 1 = .ok (.ifCond .lt 12, 3) := by decide +kernel
theorem dX11_wins_4 : decode cX11_wins 4 = .ok (.iload_n 1, 1) := by decide +kernel
theorem dX11_wins_5 : decode cX11_wins 5 = .ok (.iconst 1, 1) := by decide +kernel
theorem dX11_wins_6 : decode cX11_wins 6 = .ok (.if_icmp .gt 7, 3) := by decide +kernel
theorem dX11_wins_9 : decode cX11_wins 9 = .ok (.iload_n 2, 1) := by decide +kernel
theorem dX11_wins_10 : decode cX11_wins 10 = .ok (.ifCond .ge 5, 3) := by decide +kernel
theorem dX11_wins_13 : decode cX11_wins 13 = .ok (.iconst (-1), 1) := by decide +kernel
theorem dX11_wins_14 : decode cX11_wins 14 = .ok (.ireturn, 1) := by decide +kernel
theorem dX11_wins_15 : decode cX11_wins 15 = .ok (.aload_n 0, 1) := by decide +kernel
theorem dX11_wins_16 : decode cX11_wins 16 = .ok (.invokevirtual 174, 3) := by decide +kernel
theorem dX11_wins_19 : decode cX11_wins 19 = .ok (.ifCond .eq 8, 3) := by decide +kernel
theorem dX11_wins_22 : decode cX11_wins 22 = .ok (.bipush (-2), 2) := by decide +kernel
theorem dX11_wins_24 : decode cX11_wins 24 = .ok (.goto 9, 3) := by decide +kernel
theorem dX11_wins_27 : decode cX11_wins 27 = .ok (.aload_n 0, 1) := by decide +kernel
theorem dX11_wins_28 : decode cX11_wins 28 = .ok (.iload_n 1, 1) := by decide +kernel
theorem dX11_wins_29 : decode cX11_wins 29 = .ok (.iload_n 2, 1) := by decide +kernel
theorem dX11_wins_30 : decode cX11_wins 30 = .ok (.invokevirtual 223, 3) := by decide +kernel
theorem dX11_wins_33 : decode cX11_wins 33 = .ok (.ireturn, 1) := by decide +kernel
theorem dX11_answer_0 : decode cX11_answer 0 = .ok (.aload_n 0, 1) := by decide +kernel
theorem dX11_answer_1 : decode cX11_answer 1 = .ok (.getfield 16, 3) := by decide +kernel
theorem dX11_answer_4 : decode cX11_answer 4 = .ok (.iload_n 1, 1) := by decide +kernel
theorem dX11_answer_5 : decode cX11_answer 5 = .ok (.invokevirtual 122, 3) := by decide +kernel
theorem dX11_answer_8 : decode cX11_answer 8 = .ok (.ifCond .ne 5, 3) := by decide +kernel
theorem dX11_answer_11 : decode cX11_answer 11 = .ok (.iconst (-1), 1) := by decide +kernel
theorem dX11_answer_12 : decode cX11_answer 12 = .ok (.ireturn, 1) := by decide +kernel
theorem dX11_answer_13 : decode cX11_answer 13 = .ok (.aload_n 0, 1) := by decide +kernel
theorem dX11_answer_14 : decode cX11_answer 14 = .ok (.iload_n 1, 1) := by decide +kernel
theorem dX11_answer_15 : decode cX11_answer 15 = .ok (.invokevirtual 171, 3) := by decide +kernel
theorem dX11_answer_18 : decode cX11_answer 18 = .ok (.ifCond .ne 6, 3) := by decide +kernel
theorem dX11_answer_21 : decode cX11_answer 21 = .ok (.bipush (-2), 2) := by decide +kernel
theorem dX11_answer_23 : decode cX11_answer 23 = .ok (.ireturn, 1) := by decide +kernel
theorem dX11_answer_24 : decode cX11_answer 24 = .ok (.aload_n 0, 1) := by decide +kernel
theorem dX11_answer_25 : decode cX11_answer 25 = .ok (.getfield 51, 3) := by decide +kernel
theorem dX11_answer_28 : decode cX11_answer 28 = .ok (.aload_n 0, 1) := by decide +kernel
theorem dX11_answer_29 : decode cX11_answer 29 = .ok (.getfield 91, 3) := by decide +kernel
theorem dX11_answer_32 : decode cX11_answer 32 = .ok (.aload_n 0, 1) := by decide +kernel
theorem dX11_answer_33 : decode cX11_answer 33 = .ok (.getfield 94, 3) := by decide +kernel
theorem dX11_answer_36 : decode cX11_answer 36 = .ok (.invokevirtual 204, 3) := by decide +kernel
theorem dX11_answer_39 : decode cX11_answer 39 = .ok (.ifCond .eq 14, 3) := by decide +kernel
theorem dX11_answer_42 : decode cX11_answer 42 = .ok (.aload_n 0, 1) := by decide +kernel
theorem dX11_answer_43 : decode cX11_answer 43 = .ok (.getfield 51, 3) := by decide +kernel
theorem dX11_answer_46 : decode cX11_answer 46 = .ok (.iload_n 1, 1) := by decide +kernel
theorem dX11_answer_47 : decode cX11_answer 47 = .ok (.invokevirtual 226, 3) := by decide +kernel
theorem dX11_answer_50 : decode cX11_answer 50 = .ok (.goto 5, 3) := by decide +kernel
theorem dX11_answer_53 : decode cX11_answer 53 = .ok (.bipush (-3), 2) := by decide +kernel
theorem dX11_answer_55 : decode cX11_answer 55 = .ok (.ireturn, 1) := by decide +kernel
theorem dX11_exchange_0 : decode cX11_exchange 0 = .ok (.aload_n 0, 1) := by decide +kernel
theorem dX11_exchange_1 : decode cX11_exchange 1 = .ok (.getfield 16, 3) := by decide +kernel
theorem dX11_exchange_4 : decode cX11_exchange 4 = .ok (.iload_n 1, 1) := by decide +kernel
theorem dX11_exchange_5 : decode cX11_exchange 5 = .ok (.invokevirtual 122, 3) := by decide +kernel
theorem dX11_exchange_8 : decode cX11_exchange 8 = .ok (.ifCond .ne 5, 3) := by decide +kernel
theorem dX11_exchange_11 : decode cX11_exchange 11 = .ok (.iconst (-1), 1) := by decide +kernel
theorem dX11_exchange_12 : decode cX11_exchange 12 = .ok (.ireturn, 1) := by decide +kernel
theorem dX11_exchange_13 : decode cX11_exchange 13 = .ok (.aload_n 0, 1) := by decide +kernel
theorem dX11_exchange_14 : decode cX11_exchange 14 = .ok (.getfield 51, 3) := by decide +kernel
theorem dX11_exchange_17 : decode cX11_exchange 17 = .ok (.aload_n 0, 1) := by decide +kernel
theorem dX11_exchange_18 : decode cX11_exchange 18 = .ok (.getfield 91, 3) := by decide +kernel
theorem dX11_exchange_21 : decode cX11_exchange 21 = .ok (.aload_n 0, 1) := by decide +kernel
theorem dX11_exchange_22 : decode cX11_exchange 22 = .ok (.getfield 94, 3) := by decide +kernel
theorem dX11_exchange_25 : decode cX11_exchange 25 = .ok (.invokevirtual 204, 3) := by decide +kernel
theorem dX11_exchange_28 : decode cX11_exchange 28 = .ok (.ifCond .eq 14, 3) := by decide +kernel
theorem dX11_exchange_31 : decode cX11_exchange 31 = .ok (.aload_n 0, 1) := by decide +kernel
theorem dX11_exchange_32 : decode cX11_exchange 32 = .ok (.getfield 51, 3) := by decide +kernel
theorem dX11_exchange_35 : decode cX11_exchange 35 = .ok (.iload_n 1, 1) := by decide +kernel
theorem dX11_exchange_36 : decode cX11_exchange 36 = .ok (.invokevirtual 229, 3) := by decide +kernel
theorem dX11_exchange_39 : decode cX11_exchange 39 = .ok (.goto 5, 3) := by decide +kernel
theorem dX11_exchange_42 : decode cX11_exchange 42 = .ok (.bipush (-3), 2) := by decide +kernel
theorem dX11_exchange_44 : decode cX11_exchange 44 = .ok (.ireturn, 1) := by decide +kernel
theorem dX11_played_0 : decode cX11_played 0 = .ok (.iload_n 1, 1) := by decide +kernel
theorem dX11_played_1 : decode cX11_played 1 = .ok (.iconst (-1), 1) := by decide +kernel
theorem dX11_played_2 : decode cX11_played 2 = .ok (.if_icmp .ge 8, 3) := by decide +kernel
theorem dX11_played_5 : decode cX11_played 5 = .ok (.bipush (-3), 2) := by decide +kernel
theorem dX11_played_7 : decode cX11_played 7 = .ok (.goto 23, 3) := by decide +kernel
theorem dX11_played_10 : decode cX11_played 10 = .ok (.aload_n 0, 1) := by decide +kernel
theorem dX11_played_11 : decode cX11_played 11 = .ok (.getfield 76, 3) := by decide +kernel
theorem dX11_played_14 : decode cX11_played 14 = .ok (.aload_n 0, 1) := by decide +kernel
theorem dX11_played_15 : decode cX11_played 15 = .ok (.getfield 91, 3) := by decide +kernel
theorem dX11_played_18 : decode cX11_played 18 = .ok (.aload_n 0, 1) := by decide +kernel
theorem dX11_played_19 : decode cX11_played 19 = .ok (.getfield 94, 3) := by decide +kernel
theorem dX11_played_22 : decode cX11_played 22 = .ok (.aload_n 0, 1) := by decide +kernel
theorem dX11_played_23 : decode cX11_played 23 = .ok (.getfield 97, 3) := by decide +kernel
theorem dX11_played_26 : decode cX11_played 26 = .ok (.iload_n 1, 1) := by decide +kernel
theorem dX11_played_27 : decode cX11_played 27 = .ok (.invokevirtual 232, 3) := by decide +kernel
theorem dX11_played_30 : decode cX11_played 30 = .ok (.ireturn, 1) := by decide +kernel
theorem dX11_verified_0 : decode cX11_verified 0 = .ok (.iload_n 1, 1) := by decide +kernel
theorem dX11_verified_1 : decode cX11_verified 1 = .ok (.ifCond .lt 8, 3) := by decide +kernel
theorem dX11_verified_4 : decode cX11_verified 4 = .ok (.iload_n 1, 1) := by decide +kernel
theorem dX11_verified_5 : decode cX11_verified 5 = .ok (.iconst 1, 1) := by decide +kernel
theorem dX11_verified_6 : decode cX11_verified 6 = .ok (.if_icmp .le 5, 3) := by decide +kernel
theorem dX11_verified_9 : decode cX11_verified 9 = .ok (.iconst (-1), 1) := by decide +kernel
theorem dX11_verified_10 : decode cX11_verified 10 = .ok (.ireturn, 1) := by decide +kernel
theorem dX11_verified_11 : decode cX11_verified 11 = .ok (.aload_n 0, 1) := by decide +kernel
theorem dX11_verified_12 : decode cX11_verified 12 = .ok (.invokevirtual 236, 3) := by decide +kernel
theorem dX11_verified_15 : decode cX11_verified 15 = .ok (.ifCond .eq 21, 3) := by decide +kernel
theorem dX11_verified_18 : decode cX11_verified 18 = .ok (.aload_n 0, 1) := by decide +kernel
theorem dX11_verified_19 : decode cX11_verified 19 = .ok (.getfield 51, 3) := by decide +kernel
theorem dX11_verified_22 : decode cX11_verified 22 = .ok (.aload_n 0, 1) := by decide +kernel
theorem dX11_verified_23 : decode cX11_verified 23 = .ok (.getfield 91, 3) := by decide +kernel
theorem dX11_verified_26 : decode cX11_verified 26 = .ok (.aload_n 0, 1) := by decide +kernel
theorem dX11_verified_27 : decode cX11_verified 27 = .ok (.getfield 94, 3) := by decide +kernel
theorem dX11_verified_30 : decode cX11_verified 30 = .ok (.invokevirtual 204, 3) := by decide +kernel
theorem dX11_verified_33 : decode cX11_verified 33 = .ok (.ifCond .ne 6, 3) := by decide +kernel
theorem dX11_verified_36 : decode cX11_verified 36 = .ok (.bipush (-2), 2) := by decide +kernel
theorem dX11_verified_38 : decode cX11_verified 38 = .ok (.ireturn, 1) := by decide +kernel
theorem dX11_verified_39 : decode cX11_verified 39 = .ok (.aload_n 0, 1) := by decide +kernel
theorem dX11_verified_40 : decode cX11_verified 40 = .ok (.getfield 76, 3) := by decide +kernel
theorem dX11_verified_43 : decode cX11_verified 43 = .ok (.iconst 1, 1) := by decide +kernel
theorem dX11_verified_44 : decode cX11_verified 44 = .ok (.aload_n 0, 1) := by decide +kernel
theorem dX11_verified_45 : decode cX11_verified 45 = .ok (.getfield 91, 3) := by decide +kernel
theorem dX11_verified_48 : decode cX11_verified 48 = .ok (.aload_n 0, 1) := by decide +kernel
theorem dX11_verified_49 : decode cX11_verified 49 = .ok (.getfield 94, 3) := by decide +kernel
theorem dX11_verified_52 : decode cX11_verified 52 = .ok (.iload_n 1, 1) := by decide +kernel
theorem dX11_verified_53 : decode cX11_verified 53 = .ok (.invokevirtual 239, 3) := by decide +kernel
theorem dX11_verified_56 : decode cX11_verified 56 = .ok (.ireturn, 1) := by decide +kernel
theorem dX11_full_0 : decode cX11_full 0 = .ok (.iload_n 1, 1) := by decide +kernel
theorem dX11_full_1 : decode cX11_full 1 = .ok (.ifCond .lt 8, 3) := by decide +kernel
theorem dX11_full_4 : decode cX11_full 4 = .ok (.iload_n 1, 1) := by decide +kernel
theorem dX11_full_5 : decode cX11_full 5 = .ok (.iconst 1, 1) := by decide +kernel
theorem dX11_full_6 : decode cX11_full 6 = .ok (.if_icmp .le 5, 3) := by decide +kernel
theorem dX11_full_9 : decode cX11_full 9 = .ok (.iconst (-1), 1) := by decide +kernel
theorem dX11_full_10 : decode cX11_full 10 = .ok (.ireturn, 1) := by decide +kernel
theorem dX11_full_11 : decode cX11_full 11 = .ok (.aload_n 0, 1) := by decide +kernel
theorem dX11_full_12 : decode cX11_full 12 = .ok (.invokevirtual 236, 3) := by decide +kernel
theorem dX11_full_15 : decode cX11_full 15 = .ok (.ifCond .ne 6, 3) := by decide +kernel
theorem dX11_full_18 : decode cX11_full 18 = .ok (.bipush (-2), 2) := by decide +kernel
theorem dX11_full_20 : decode cX11_full 20 = .ok (.ireturn, 1) := by decide +kernel
theorem dX11_full_21 : decode cX11_full 21 = .ok (.aload_n 0, 1) := by decide +kernel
theorem dX11_full_22 : decode cX11_full 22 = .ok (.getfield 44, 3) := by decide +kernel
theorem dX11_full_25 : decode cX11_full 25 = .ok (.aload_n 0, 1) := by decide +kernel
theorem dX11_full_26 : decode cX11_full 26 = .ok (.getfield 91, 3) := by decide +kernel
theorem dX11_full_29 : decode cX11_full 29 = .ok (.aload_n 0, 1) := by decide +kernel
theorem dX11_full_30 : decode cX11_full 30 = .ok (.getfield 94, 3) := by decide +kernel
theorem dX11_full_33 : decode cX11_full 33 = .ok (.invokevirtual 217, 3) := by decide +kernel
theorem dX11_full_36 : decode cX11_full 36 = .ok (.lookupswitch 32 #[(0, 28), (1, 30)], 28) := by decide +kernel
theorem dX11_full_64 : decode cX11_full 64 = .ok (.iconst 0, 1) := by decide +kernel
theorem dX11_full_65 : decode cX11_full 65 = .ok (.ireturn, 1) := by decide +kernel
theorem dX11_full_66 : decode cX11_full 66 = .ok (.iload_n 1, 1) := by decide +kernel
theorem dX11_full_67 : decode cX11_full 67 = .ok (.ireturn, 1) := by decide +kernel
theorem dX11_full_68 : decode cX11_full 68 = .ok (.iconst 1, 1) := by decide +kernel
theorem dX11_full_69 : decode cX11_full 69 = .ok (.ireturn, 1) := by decide +kernel
theorem dX11_positions_0 : decode cX11_positions 0 = .ok (.iload_n 1, 1) := by decide +kernel
theorem dX11_positions_1 : decode cX11_positions 1 = .ok (.ifCond .lt 8, 3) := by decide +kernel
theorem dX11_positions_4 : decode cX11_positions 4 = .ok (.iload_n 1, 1) := by decide +kernel
theorem dX11_positions_5 : decode cX11_positions 5 = .ok (.iconst 3, 1) := by decide +kernel
theorem dX11_positions_6 : decode cX11_positions 6 = .ok (.if_icmp .le 5, 3) := by decide +kernel
theorem dX11_positions_9 : decode cX11_positions 9 = .ok (.iconst (-1), 1) := by decide +kernel
theorem dX11_positions_10 : decode cX11_positions 10 = .ok (.ireturn, 1) := by decide +kernel
theorem dX11_positions_11 : decode cX11_positions 11 = .ok (.aload_n 0, 1) := by decide +kernel
theorem dX11_positions_12 : decode cX11_positions 12 = .ok (.invokevirtual 236, 3) := by decide +kernel
theorem dX11_positions_15 : decode cX11_positions 15 = .ok (.ifCond .ne 6, 3) := by decide +kernel
theorem dX11_positions_18 : decode cX11_positions 18 = .ok (.bipush (-2), 2) := by decide +kernel
theorem dX11_positions_20 : decode cX11_positions 20 = .ok (.ireturn, 1) := by decide +kernel
theorem dX11_positions_21 : decode cX11_positions 21 = .ok (.aload_n 0, 1) := by decide +kernel
theorem dX11_positions_22 : decode cX11_positions 22 = .ok (.getfield 60, 3) := by decide +kernel
theorem dX11_positions_25 : decode cX11_positions 25 = .ok (.aload_n 0, 1) := by decide +kernel
theorem dX11_positions_26 : decode cX11_positions 26 = .ok (.getfield 91, 3) := by decide +kernel
theorem dX11_positions_29 : decode cX11_positions 29 = .ok (.aload_n 0, 1) := by decide +kernel
theorem dX11_positions_30 : decode cX11_positions 30 = .ok (.getfield 94, 3) := by decide +kernel
theorem dX11_positions_33 : decode cX11_positions 33 = .ok (.invokevirtual 242, 3) := by decide +kernel
theorem dX11_positions_36 : decode cX11_positions 36 = .ok (.iload_n 1, 1) := by decide +kernel
theorem dX11_positions_37 : decode cX11_positions 37 = .ok (.tableswitch 53 0 2 #[27, 36, 45], 27) := by decide +kernel
theorem dX11_positions_64 : decode cX11_positions 64 = .ok (.aload_n 0, 1) := by decide +kernel
theorem dX11_positions_65 : decode cX11_positions 65 = .ok (.getfield 60, 3) := by decide +kernel
theorem dX11_positions_68 : decode cX11_positions 68 = .ok (.iconst 0, 1) := by decide +kernel
theorem dX11_positions_69 : decode cX11_positions 69 = .ok (.invokevirtual 246, 3) := by decide +kernel
theorem dX11_positions_72 : decode cX11_positions 72 = .ok (.ireturn, 1) := by decide +kernel
theorem dX11_positions_73 : decode cX11_positions 73 = .ok (.aload_n 0, 1) := by decide +kernel
theorem dX11_positions_74 : decode cX11_positions 74 = .ok (.getfield 60, 3) := by decide +kernel
theorem dX11_positions_77 : decode cX11_positions 77 = .ok (.iconst 1, 1) := by decide +kernel
theorem dX11_positions_78 : decode cX11_positions 78 = .ok (.invokevirtual 246, 3) := by decide +kernel
theorem dX11_positions_81 : decode cX11_positions 81 = .ok (.ireturn, 1) := by decide +kernel
theorem dX11_positions_82 : decode cX11_positions 82 = .ok (.aload_n 0, 1) := by decide +kernel
theorem dX11_positions_83 : decode cX11_positions 83 = .ok (.getfield 60, 3) := by decide +kernel
theorem dX11_positions_86 : decode cX11_positions 86 = .ok (.invokevirtual 249, 3) := by decide +kernel
theorem dX11_positions_89 : decode cX11_positions 89 = .ok (.ireturn, 1) := by decide +kernel
theorem dX11_positions_90 : decode cX11_positions 90 = .ok (.aload_n 0, 1) := by decide +kernel
theorem dX11_positions_91 : decode cX11_positions 91 = .ok (.getfield 60, 3) := by decide +kernel
theorem dX11_positions_94 : decode cX11_positions 94 = .ok (.invokevirtual 252, 3) := by decide +kernel
theorem dX11_positions_97 : decode cX11_positions 97 = .ok (.ireturn, 1) := by decide +kernel
theorem dX11_wall_0 : decode cX11_wall 0 = .ok (.iload_n 1, 1) := by decide +kernel
theorem dX11_wall_1 : decode cX11_wall 1 = .ok (.ifCond .lt 8, 3) := by decide +kernel
theorem dX11_wall_4 : decode cX11_wall 4 = .ok (.iload_n 1, 1) := by decide +kernel
theorem dX11_wall_5 : decode cX11_wall 5 = .ok (.iconst 1, 1) := by decide +kernel
theorem dX11_wall_6 : decode cX11_wall 6 = .ok (.if_icmp .le 5, 3) := by decide +kernel
theorem dX11_wall_9 : decode cX11_wall 9 = .ok (.iconst (-1), 1) := by decide +kernel
theorem dX11_wall_10 : decode cX11_wall 10 = .ok (.ireturn, 1) := by decide +kernel
theorem dX11_wall_11 : decode cX11_wall 11 = .ok (.aload_n 0, 1) := by decide +kernel
theorem dX11_wall_12 : decode cX11_wall 12 = .ok (.getfield 16, 3) := by decide +kernel
theorem dX11_wall_15 : decode cX11_wall 15 = .ok (.aload_n 0, 1) := by decide +kernel
theorem dX11_wall_16 : decode cX11_wall 16 = .ok (.getfield 91, 3) := by decide +kernel
theorem dX11_wall_19 : decode cX11_wall 19 = .ok (.aload_n 0, 1) := by decide +kernel
theorem dX11_wall_20 : decode cX11_wall 20 = .ok (.getfield 94, 3) := by decide +kernel
theorem dX11_wall_23 : decode cX11_wall 23 = .ok (.invokevirtual 181, 3) := by decide +kernel
theorem dX11_wall_26 : decode cX11_wall 26 = .ok (.ifCond .ne 6, 3) := by decide +kernel
theorem dX11_wall_29 : decode cX11_wall 29 = .ok (.bipush (-2), 2) := by decide +kernel
theorem dX11_wall_31 : decode cX11_wall 31 = .ok (.ireturn, 1) := by decide +kernel
theorem dX11_wall_32 : decode cX11_wall 32 = .ok (.aload_n 0, 1) := by decide +kernel
theorem dX11_wall_33 : decode cX11_wall 33 = .ok (.getfield 60, 3) := by decide +kernel
theorem dX11_wall_36 : decode cX11_wall 36 = .ok (.aload_n 0, 1) := by decide +kernel
theorem dX11_wall_37 : decode cX11_wall 37 = .ok (.getfield 91, 3) := by decide +kernel
theorem dX11_wall_40 : decode cX11_wall 40 = .ok (.aload_n 0, 1) := by decide +kernel
theorem dX11_wall_41 : decode cX11_wall 41 = .ok (.getfield 94, 3) := by decide +kernel
theorem dX11_wall_44 : decode cX11_wall 44 = .ok (.invokevirtual 242, 3) := by decide +kernel
theorem dX11_wall_47 : decode cX11_wall 47 = .ok (.aload_n 0, 1) := by decide +kernel
theorem dX11_wall_48 : decode cX11_wall 48 = .ok (.getfield 60, 3) := by decide +kernel
theorem dX11_wall_51 : decode cX11_wall 51 = .ok (.iconst 1, 1) := by decide +kernel
theorem dX11_wall_52 : decode cX11_wall 52 = .ok (.invokevirtual 255, 3) := by decide +kernel
theorem dX11_wall_55 : decode cX11_wall 55 = .ok (.istore_n 2, 1) := by decide +kernel
theorem dX11_wall_56 : decode cX11_wall 56 = .ok (.iload_n 1, 1) := by decide +kernel
theorem dX11_wall_57 : decode cX11_wall 57 = .ok (.ifCond .ne 10, 3) := by decide +kernel
theorem dX11_wall_60 : decode cX11_wall 60 = .ok (.iload_n 2, 1) := by decide +kernel
theorem dX11_wall_61 : decode cX11_wall 61 = .ok (.invokestatic 196, 3) := by decide +kernel
theorem dX11_wall_64 : decode cX11_wall 64 = .ok (.goto 4, 3) := by decide +kernel
theorem dX11_wall_67 : decode cX11_wall 67 = .ok (.iload_n 2, 1) := by decide +kernel
theorem dX11_wall_68 : decode cX11_wall 68 = .ok (.ireturn, 1) := by decide +kernel
theorem dX11_road_0 : decode cX11_road 0 = .ok (.iload_n 1, 1) := by decide +kernel
theorem dX11_road_1 : decode cX11_road 1 = .ok (.ifCond .lt 8, 3) := by decide +kernel
theorem dX11_road_4 : decode cX11_road 4 = .ok (.iload_n 1, 1) := by decide +kernel
theorem dX11_road_5 : decode cX11_road 5 = .ok (.iconst 1, 1) := by decide +kernel
theorem dX11_road_6 : decode cX11_road 6 = .ok (.if_icmp .le 5, 3) := by decide +kernel
theorem dX11_road_9 : decode cX11_road 9 = .ok (.iconst (-1), 1) := by decide +kernel
theorem dX11_road_10 : decode cX11_road 10 = .ok (.ireturn, 1) := by decide +kernel
theorem dX11_road_11 : decode cX11_road 11 = .ok (.aload_n 0, 1) := by decide +kernel
theorem dX11_road_12 : decode cX11_road 12 = .ok (.getfield 16, 3) := by decide +kernel
theorem dX11_road_15 : decode cX11_road 15 = .ok (.aload_n 0, 1) := by decide +kernel
theorem dX11_road_16 : decode cX11_road 16 = .ok (.getfield 91, 3) := by decide +kernel
theorem dX11_road_19 : decode cX11_road 19 = .ok (.aload_n 0, 1) := by decide +kernel
theorem dX11_road_20 : decode cX11_road 20 = .ok (.getfield 94, 3) := by decide +kernel
theorem dX11_road_23 : decode cX11_road 23 = .ok (.invokevirtual 181, 3) := by decide +kernel
theorem dX11_road_26 : decode cX11_road 26 = .ok (.iconst 1, 1) := by decide +kernel
theorem dX11_road_27 : decode cX11_road 27 = .ok (.if_icmp .ne 6, 3) := by decide +kernel
theorem dX11_road_30 : decode cX11_road 30 = .ok (.bipush (-2), 2) := by decide +kernel
theorem dX11_road_32 : decode cX11_road 32 = .ok (.ireturn, 1) := by decide +kernel
theorem dX11_road_33 : decode cX11_road 33 = .ok (.aload_n 0, 1) := by decide +kernel
theorem dX11_road_34 : decode cX11_road 34 = .ok (.getfield 60, 3) := by decide +kernel
theorem dX11_road_37 : decode cX11_road 37 = .ok (.aload_n 0, 1) := by decide +kernel
theorem dX11_road_38 : decode cX11_road 38 = .ok (.getfield 91, 3) := by decide +kernel
theorem dX11_road_41 : decode cX11_road 41 = .ok (.aload_n 0, 1) := by decide +kernel
theorem dX11_road_42 : decode cX11_road 42 = .ok (.getfield 94, 3) := by decide +kernel
theorem dX11_road_45 : decode cX11_road 45 = .ok (.invokevirtual 242, 3) := by decide +kernel
theorem dX11_road_48 : decode cX11_road 48 = .ok (.aload_n 0, 1) := by decide +kernel
theorem dX11_road_49 : decode cX11_road 49 = .ok (.getfield 60, 3) := by decide +kernel
theorem dX11_road_52 : decode cX11_road 52 = .ok (.iconst 0, 1) := by decide +kernel
theorem dX11_road_53 : decode cX11_road 53 = .ok (.invokevirtual 255, 3) := by decide +kernel
theorem dX11_road_56 : decode cX11_road 56 = .ok (.istore_n 2, 1) := by decide +kernel
theorem dX11_road_57 : decode cX11_road 57 = .ok (.iload_n 1, 1) := by decide +kernel
theorem dX11_road_58 : decode cX11_road 58 = .ok (.ifCond .ne 10, 3) := by decide +kernel
theorem dX11_road_61 : decode cX11_road 61 = .ok (.iload_n 2, 1) := by decide +kernel
theorem dX11_road_62 : decode cX11_road 62 = .ok (.invokestatic 196, 3) := by decide +kernel
theorem dX11_road_65 : decode cX11_road 65 = .ok (.goto 4, 3) := by decide +kernel
theorem dX11_road_68 : decode cX11_road 68 = .ok (.iload_n 2, 1) := by decide +kernel
theorem dX11_road_69 : decode cX11_road 69 = .ok (.ireturn, 1) := by decide +kernel
theorem dX11_lucky_0 : decode cX11_lucky 0 = .ok (.aload_n 0, 1) := by decide +kernel
theorem dX11_lucky_1 : decode cX11_lucky 1 = .ok (.iconst 0, 1) := by decide +kernel
theorem dX11_lucky_2 : decode cX11_lucky 2 = .ok (.iload_n 1, 1) := by decide +kernel
theorem dX11_lucky_3 : decode cX11_lucky 3 = .ok (.invokevirtual 258, 3) := by decide +kernel
theorem dX11_lucky_6 : decode cX11_lucky 6 = .ok (.ireturn, 1) := by decide +kernel
theorem dX11_luckyWith_0 : decode cX11_luckyWith 0 = .ok (.aload_n 0, 1) := by decide +kernel
theorem dX11_luckyWith_1 : decode cX11_luckyWith 1 = .ok (.getfield 16, 3) := by decide +kernel
theorem dX11_luckyWith_4 : decode cX11_luckyWith 4 = .ok (.iload_n 1, 1) := by decide +kernel
theorem dX11_luckyWith_5 : decode cX11_luckyWith 5 = .ok (.invokevirtual 122, 3) := by decide +kernel
theorem dX11_luckyWith_8 : decode cX11_luckyWith 8 = .ok (.ifCond .ne 5, 3) := by decide +kernel
theorem dX11_luckyWith_11 : decode cX11_luckyWith 11 = .ok (.iconst (-1), 1) := by decide +kernel
theorem dX11_luckyWith_12 : decode cX11_luckyWith 12 = .ok (.ireturn, 1) := by decide +kernel
theorem dX11_luckyWith_13 : decode cX11_luckyWith 13 = .ok (.aload_n 0, 1) := by decide +kernel
theorem dX11_luckyWith_14 : decode cX11_luckyWith 14 = .ok (.iload_n 1, 1) := by decide +kernel
theorem dX11_luckyWith_15 : decode cX11_luckyWith 15 = .ok (.invokevirtual 171, 3) := by decide +kernel
theorem dX11_luckyWith_18 : decode cX11_luckyWith 18 = .ok (.ifCond .ne 6, 3) := by decide +kernel
theorem dX11_luckyWith_21 : decode cX11_luckyWith 21 = .ok (.bipush (-2), 2) := by decide +kernel
theorem dX11_luckyWith_23 : decode cX11_luckyWith 23 = .ok (.ireturn, 1) := by decide +kernel
theorem dX11_luckyWith_24 : decode cX11_luckyWith 24 = .ok (.aload_n 0, 1) := by decide +kernel
theorem dX11_luckyWith_25 : decode cX11_luckyWith 25 = .ok (.getfield 60, 3) := by decide +kernel
theorem dX11_luckyWith_28 : decode cX11_luckyWith 28 = .ok (.aload_n 0, 1) := by decide +kernel
theorem dX11_luckyWith_29 : decode cX11_luckyWith 29 = .ok (.getfield 91, 3) := by decide +kernel
theorem dX11_luckyWith_32 : decode cX11_luckyWith 32 = .ok (.aload_n 0, 1) := by decide +kernel
theorem dX11_luckyWith_33 : decode cX11_luckyWith 33 = .ok (.getfield 94, 3) := by decide +kernel
theorem dX11_luckyWith_36 : decode cX11_luckyWith 36 = .ok (.invokevirtual 242, 3) := by decide +kernel
theorem dX11_luckyWith_39 : decode cX11_luckyWith 39 = .ok (.aload_n 0, 1) := by decide +kernel
theorem dX11_luckyWith_40 : decode cX11_luckyWith 40 = .ok (.getfield 60, 3) := by decide +kernel
theorem dX11_luckyWith_43 : decode cX11_luckyWith 43 = .ok (.iload_n 1, 1) := by decide +kernel
theorem dX11_luckyWith_44 : decode cX11_luckyWith 44 = .ok (.invokevirtual 261, 3) := by decide +kernel
theorem dX11_luckyWith_47 : decode cX11_luckyWith 47 = .ok (.ireturn, 1) := by decide +kernel
theorem dX11_trees_0 : decode cX11_trees 0 = .ok (.aload_n 0, 1) := by decide +kernel
theorem dX11_trees_1 : decode cX11_trees 1 = .ok (.getfield 67, 3) := by decide +kernel
theorem dX11_trees_4 : decode cX11_trees 4 = .ok (.aload_n 0, 1) := by decide +kernel
theorem dX11_trees_5 : decode cX11_trees 5 = .ok (.getfield 91, 3) := by decide +kernel
theorem dX11_trees_8 : decode cX11_trees 8 = .ok (.aload_n 0, 1) := by decide +kernel
theorem dX11_trees_9 : decode cX11_trees 9 = .ok (.getfield 94, 3) := by decide +kernel
theorem dX11_trees_12 : decode cX11_trees 12 = .ok (.invokevirtual 264, 3) := by decide +kernel
theorem dX11_trees_15 : decode cX11_trees 15 = .ok (.ireturn, 1) := by decide +kernel
theorem dX11_treesWith_0 : decode cX11_treesWith 0 = .ok (.aload_n 0, 1) := by decide +kernel
theorem dX11_treesWith_1 : decode cX11_treesWith 1 = .ok (.getfield 16, 3) := by decide +kernel
theorem dX11_treesWith_4 : decode cX11_treesWith 4 = .ok (.iload_n 1, 1) := by decide +kernel
theorem dX11_treesWith_5 : decode cX11_treesWith 5 = .ok (.invokevirtual 122, 3) := by decide +kernel
theorem dX11_treesWith_8 : decode cX11_treesWith 8 = .ok (.ifCond .ne 5, 3) := by decide +kernel
theorem dX11_treesWith_11 : decode cX11_treesWith 11 = .ok (.iconst (-1), 1) := by decide +kernel
theorem dX11_treesWith_12 : decode cX11_treesWith 12 = .ok (.ireturn, 1) := by decide +kernel
theorem dX11_treesWith_13 : decode cX11_treesWith 13 = .ok (.aload_n 0, 1) := by decide +kernel
theorem dX11_treesWith_14 : decode cX11_treesWith 14 = .ok (.iload_n 1, 1) := by decide +kernel
theorem dX11_treesWith_15 : decode cX11_treesWith 15 = .ok (.invokevirtual 171, 3) := by decide +kernel
theorem dX11_treesWith_18 : decode cX11_treesWith 18 = .ok (.ifCond .ne 6, 3) := by decide +kernel
theorem dX11_treesWith_21 : decode cX11_treesWith 21 = .ok (.bipush (-2), 2) := by decide +kernel
theorem dX11_treesWith_23 : decode cX11_treesWith 23 = .ok (.ireturn, 1) := by decide +kernel
theorem dX11_treesWith_24 : decode cX11_treesWith 24 = .ok (.aload_n 0, 1) := by decide +kernel
theorem dX11_treesWith_25 : decode cX11_treesWith 25 = .ok (.getfield 67, 3) := by decide +kernel
theorem dX11_treesWith_28 : decode cX11_treesWith 28 = .ok (.aload_n 0, 1) := by decide +kernel
theorem dX11_treesWith_29 : decode cX11_treesWith 29 = .ok (.getfield 91, 3) := by decide +kernel
theorem dX11_treesWith_32 : decode cX11_treesWith 32 = .ok (.aload_n 0, 1) := by decide +kernel
theorem dX11_treesWith_33 : decode cX11_treesWith 33 = .ok (.getfield 94, 3) := by decide +kernel
theorem dX11_treesWith_36 : decode cX11_treesWith 36 = .ok (.invokevirtual 264, 3) := by decide +kernel
theorem dX11_treesWith_39 : decode cX11_treesWith 39 = .ok (.aload_n 0, 1) := by decide +kernel
theorem dX11_treesWith_40 : decode cX11_treesWith 40 = .ok (.getfield 67, 3) := by decide +kernel
theorem dX11_treesWith_43 : decode cX11_treesWith 43 = .ok (.aload_n 0, 1) := by decide +kernel
theorem dX11_treesWith_44 : decode cX11_treesWith 44 = .ok (.getfield 91, 3) := by decide +kernel
theorem dX11_treesWith_47 : decode cX11_treesWith 47 = .ok (.aload_n 0, 1) := by decide +kernel
theorem dX11_treesWith_48 : decode cX11_treesWith 48 = .ok (.getfield 94, 3) := by decide +kernel
theorem dX11_treesWith_51 : decode cX11_treesWith 51 = .ok (.iconst 1, 1) := by decide +kernel
theorem dX11_treesWith_52 : decode cX11_treesWith 52 = .ok (.iload_n 1, 1) := by decide +kernel
theorem dX11_treesWith_53 : decode cX11_treesWith 53 = .ok (.ishl, 1) := by decide +kernel
theorem dX11_treesWith_54 : decode cX11_treesWith 54 = .ok (.ior, 1) := by decide +kernel
theorem dX11_treesWith_55 : decode cX11_treesWith 55 = .ok (.invokevirtual 264, 3) := by decide +kernel
theorem dX11_treesWith_58 : decode cX11_treesWith 58 = .ok (.isub, 1) := by decide +kernel
theorem dX11_treesWith_59 : decode cX11_treesWith 59 = .ok (.ireturn, 1) := by decide +kernel
theorem dX11_idle_0 : decode cX11_idle 0 = .ok (.aload_n 0, 1) := by decide +kernel
theorem dX11_idle_1 : decode cX11_idle 1 = .ok (.getfield 16, 3) := by decide +kernel
theorem dX11_idle_4 : decode cX11_idle 4 = .ok (.iload_n 1, 1) := by decide +kernel
theorem dX11_idle_5 : decode cX11_idle 5 = .ok (.invokevirtual 122, 3) := by decide +kernel
theorem dX11_idle_8 : decode cX11_idle 8 = .ok (.ifCond .ne 5, 3) := by decide +kernel
theorem dX11_idle_11 : decode cX11_idle 11 = .ok (.iconst (-1), 1) := by decide +kernel
theorem dX11_idle_12 : decode cX11_idle 12 = .ok (.ireturn, 1) := by decide +kernel
theorem dX11_idle_13 : decode cX11_idle 13 = .ok (.aload_n 0, 1) := by decide +kernel
theorem dX11_idle_14 : decode cX11_idle 14 = .ok (.iload_n 1, 1) := by decide +kernel
theorem dX11_idle_15 : decode cX11_idle 15 = .ok (.invokevirtual 171, 3) := by decide +kernel
theorem dX11_idle_18 : decode cX11_idle 18 = .ok (.ifCond .ne 6, 3) := by decide +kernel
theorem dX11_idle_21 : decode cX11_idle 21 = .ok (.bipush (-2), 2) := by decide +kernel
theorem dX11_idle_23 : decode cX11_idle 23 = .ok (.ireturn, 1) := by decide +kernel
theorem dX11_idle_24 : decode cX11_idle 24 = .ok (.aload_n 0, 1) := by decide +kernel
theorem dX11_idle_25 : decode cX11_idle 25 = .ok (.getfield 44, 3) := by decide +kernel
theorem dX11_idle_28 : decode cX11_idle 28 = .ok (.aload_n 0, 1) := by decide +kernel
theorem dX11_idle_29 : decode cX11_idle 29 = .ok (.getfield 91, 3) := by decide +kernel
theorem dX11_idle_32 : decode cX11_idle 32 = .ok (.aload_n 0, 1) := by decide +kernel
theorem dX11_idle_33 : decode cX11_idle 33 = .ok (.getfield 94, 3) := by decide +kernel
theorem dX11_idle_36 : decode cX11_idle 36 = .ok (.invokevirtual 217, 3) := by decide +kernel
theorem dX11_idle_39 : decode cX11_idle 39 = .ok (.istore_n 2, 1) := by decide +kernel
theorem dX11_idle_40 : decode cX11_idle 40 = .ok (.aload_n 0, 1) := by decide +kernel
theorem dX11_idle_41 : decode cX11_idle 41 = .ok (.getfield 44, 3) := by decide +kernel
theorem dX11_idle_44 : decode cX11_idle 44 = .ok (.aload_n 0, 1) := by decide +kernel
theorem dX11_idle_45 : decode cX11_idle 45 = .ok (.getfield 91, 3) := by decide +kernel
theorem dX11_idle_48 : decode cX11_idle 48 = .ok (.iconst 1, 1) := by decide +kernel
theorem dX11_idle_49 : decode cX11_idle 49 = .ok (.iload_n 1, 1) := by decide +kernel
theorem dX11_idle_50 : decode cX11_idle 50 = .ok (.ishl, 1) := by decide +kernel
theorem dX11_idle_51 : decode cX11_idle 51 = .ok (.ior, 1) := by decide +kernel
theorem dX11_idle_52 : decode cX11_idle 52 = .ok (.aload_n 0, 1) := by decide +kernel
theorem dX11_idle_53 : decode cX11_idle 53 = .ok (.getfield 94, 3) := by decide +kernel
theorem dX11_idle_56 : decode cX11_idle 56 = .ok (.invokevirtual 217, 3) := by decide +kernel
theorem dX11_idle_59 : decode cX11_idle 59 = .ok (.iload_n 2, 1) := by decide +kernel
theorem dX11_idle_60 : decode cX11_idle 60 = .ok (.if_icmp .ne 30, 3) := by decide +kernel
theorem dX11_idle_63 : decode cX11_idle 63 = .ok (.aload_n 0, 1) := by decide +kernel
theorem dX11_idle_64 : decode cX11_idle 64 = .ok (.getfield 44, 3) := by decide +kernel
theorem dX11_idle_67 : decode cX11_idle 67 = .ok (.aload_n 0, 1) := by decide +kernel
theorem dX11_idle_68 : decode cX11_idle 68 = .ok (.getfield 91, 3) := by decide +kernel
theorem dX11_idle_71 : decode cX11_idle 71 = .ok (.aload_n 0, 1) := by decide +kernel
theorem dX11_idle_72 : decode cX11_idle 72 = .ok (.getfield 94, 3) := by decide +kernel
theorem dX11_idle_75 : decode cX11_idle 75 = .ok (.iconst 1, 1) := by decide +kernel
theorem dX11_idle_76 : decode cX11_idle 76 = .ok (.iload_n 1, 1) := by decide +kernel
theorem dX11_idle_77 : decode cX11_idle 77 = .ok (.ishl, 1) := by decide +kernel
theorem dX11_idle_78 : decode cX11_idle 78 = .ok (.ior, 1) := by decide +kernel
theorem dX11_idle_79 : decode cX11_idle 79 = .ok (.invokevirtual 217, 3) := by decide +kernel
theorem dX11_idle_82 : decode cX11_idle 82 = .ok (.iload_n 2, 1) := by decide +kernel
theorem dX11_idle_83 : decode cX11_idle 83 = .ok (.if_icmp .ne 7, 3) := by decide +kernel
theorem dX11_idle_86 : decode cX11_idle 86 = .ok (.iconst 1, 1) := by decide +kernel
theorem dX11_idle_87 : decode cX11_idle 87 = .ok (.goto 4, 3) := by decide +kernel
theorem dX11_idle_90 : decode cX11_idle 90 = .ok (.iconst 0, 1) := by decide +kernel
theorem dX11_idle_91 : decode cX11_idle 91 = .ok (.istore_n 3, 1) := by decide +kernel
theorem dX11_idle_92 : decode cX11_idle 92 = .ok (.iload_n 3, 1) := by decide +kernel
theorem dX11_idle_93 : decode cX11_idle 93 = .ok (.ifCond .eq 7, 3) := by decide +kernel
theorem dX11_idle_96 : decode cX11_idle 96 = .ok (.iconst 1, 1) := by decide +kernel
theorem dX11_idle_97 : decode cX11_idle 97 = .ok (.goto 4, 3) := by decide +kernel
theorem dX11_idle_100 : decode cX11_idle 100 = .ok (.iconst 0, 1) := by decide +kernel
theorem dX11_idle_101 : decode cX11_idle 101 = .ok (.ireturn, 1) := by decide +kernel
theorem dX11_ifLine_0 : decode cX11_ifLine 0 = .ok (.aload_n 0, 1) := by decide +kernel
theorem dX11_ifLine_1 : decode cX11_ifLine 1 = .ok (.getfield 16, 3) := by decide +kernel
theorem dX11_ifLine_4 : decode cX11_ifLine 4 = .ok (.iload_n 1, 1) := by decide +kernel
theorem dX11_ifLine_5 : decode cX11_ifLine 5 = .ok (.invokevirtual 122, 3) := by decide +kernel
theorem dX11_ifLine_8 : decode cX11_ifLine 8 = .ok (.ifCond .eq 12, 3) := by decide +kernel
theorem dX11_ifLine_11 : decode cX11_ifLine 11 = .ok (.iload_n 2, 1) := by decide +kernel
theorem dX11_ifLine_12 : decode cX11_ifLine 12 = .ok (.ifCond .lt 8, 3) := by decide +kernel
theorem dX11_ifLine_15 : decode cX11_ifLine 15 = .ok (.iload_n 2, 1) := by decide +kernel
theorem dX11_ifLine_16 : decode cX11_ifLine 16 = .ok (.iconst 1, 1) := by decide +kernel
theorem dX11_ifLine_17 : decode cX11_ifLine 17 = .ok (.if_icmp .le 5, 3) := by decide +kernel
theorem dX11_ifLine_20 : decode cX11_ifLine 20 = .ok (.iconst (-1), 1) := by decide +kernel
theorem dX11_ifLine_21 : decode cX11_ifLine 21 = .ok (.ireturn, 1) := by decide +kernel
theorem dX11_ifLine_22 : decode cX11_ifLine 22 = .ok (.aload_n 0, 1) := by decide +kernel
theorem dX11_ifLine_23 : decode cX11_ifLine 23 = .ok (.iload_n 1, 1) := by decide +kernel
theorem dX11_ifLine_24 : decode cX11_ifLine 24 = .ok (.invokevirtual 171, 3) := by decide +kernel
theorem dX11_ifLine_27 : decode cX11_ifLine 27 = .ok (.ifCond .ne 6, 3) := by decide +kernel
theorem dX11_ifLine_30 : decode cX11_ifLine 30 = .ok (.bipush (-2), 2) := by decide +kernel
theorem dX11_ifLine_32 : decode cX11_ifLine 32 = .ok (.ireturn, 1) := by decide +kernel
theorem dX11_ifLine_33 : decode cX11_ifLine 33 = .ok (.iconst 1, 1) := by decide +kernel
theorem dX11_ifLine_34 : decode cX11_ifLine 34 = .ok (.iload_n 1, 1) := by decide +kernel
theorem dX11_ifLine_35 : decode cX11_ifLine 35 = .ok (.ishl, 1) := by decide +kernel
theorem dX11_ifLine_36 : decode cX11_ifLine 36 = .ok (.istore_n 3, 1) := by decide +kernel
theorem dX11_ifLine_37 : decode cX11_ifLine 37 = .ok (.iload_n 2, 1) := by decide +kernel
theorem dX11_ifLine_38 : decode cX11_ifLine 38 = .ok (.ifCond .ne 23, 3) := by decide +kernel
theorem dX11_ifLine_41 : decode cX11_ifLine 41 = .ok (.aload_n 0, 1) := by decide +kernel
theorem dX11_ifLine_42 : decode cX11_ifLine 42 = .ok (.getfield 44, 3) := by decide +kernel
theorem dX11_ifLine_45 : decode cX11_ifLine 45 = .ok (.aload_n 0, 1) := by decide +kernel
theorem dX11_ifLine_46 : decode cX11_ifLine 46 = .ok (.getfield 91, 3) := by decide +kernel
theorem dX11_ifLine_49 : decode cX11_ifLine 49 = .ok (.iload_n 3, 1) := by decide +kernel
theorem dX11_ifLine_50 : decode cX11_ifLine 50 = .ok (.ior, 1) := by decide +kernel
theorem dX11_ifLine_51 : decode cX11_ifLine 51 = .ok (.aload_n 0, 1) := by decide +kernel
theorem dX11_ifLine_52 : decode cX11_ifLine 52 = .ok (.getfield 94, 3) := by decide +kernel
theorem dX11_ifLine_55 : decode cX11_ifLine 55 = .ok (.invokevirtual 217, 3) := by decide +kernel
theorem dX11_ifLine_58 : decode cX11_ifLine 58 = .ok (.goto 20, 3) := by decide +kernel
theorem dX11_ifLine_61 : decode cX11_ifLine 61 = .ok (.aload_n 0, 1) := by decide +kernel
theorem dX11_ifLine_62 : decode cX11_ifLine 62 = .ok (.getfield 44, 3) := by decide +kernel
theorem dX11_ifLine_65 : decode cX11_ifLine 65 = .ok (.aload_n 0, 1) := by decide +kernel
theorem dX11_ifLine_66 : decode cX11_ifLine 66 = .ok (.getfield 91, 3) := by decide +kernel
theorem dX11_ifLine_69 : decode cX11_ifLine 69 = .ok (.aload_n 0, 1) := by decide +kernel
theorem dX11_ifLine_70 : decode cX11_ifLine 70 = .ok (.getfield 94, 3) := by decide +kernel
theorem dX11_ifLine_73 : decode cX11_ifLine 73 = .ok (.iload_n 3, 1) := by decide +kernel
theorem dX11_ifLine_74 : decode cX11_ifLine 74 = .ok (.ior, 1) := by decide +kernel
theorem dX11_ifLine_75 : decode cX11_ifLine 75 = .ok (.invokevirtual 217, 3) := by decide +kernel
theorem dX11_ifLine_78 : decode cX11_ifLine 78 = .ok (.istore 4, 2) := by decide +kernel
theorem dX11_ifLine_80 : decode cX11_ifLine 80 = .ok (.iload 4, 2) := by decide +kernel
theorem dX11_ifLine_82 : decode cX11_ifLine 82 = .ok (.invokestatic 220, 3) := by decide +kernel
theorem dX11_ifLine_85 : decode cX11_ifLine 85 = .ok (.ireturn, 1) := by decide +kernel
theorem dX11_ifMore_0 : decode cX11_ifMore 0 = .ok (.aload_n 0, 1) := by decide +kernel
theorem dX11_ifMore_1 : decode cX11_ifMore 1 = .ok (.iload_n 1, 1) := by decide +kernel
theorem dX11_ifMore_2 : decode cX11_ifMore 2 = .ok (.iload_n 2, 1) := by decide +kernel
theorem dX11_ifMore_3 : decode cX11_ifMore 3 = .ok (.invokevirtual 267, 3) := by decide +kernel
theorem dX11_ifMore_6 : decode cX11_ifMore 6 = .ok (.ifCond .ne 5, 3) := by decide +kernel
theorem dX11_ifMore_9 : decode cX11_ifMore 9 = .ok (.iconst (-1), 1) := by decide +kernel
theorem dX11_ifMore_10 : decode cX11_ifMore 10 = .ok (.ireturn, 1) := by decide +kernel
theorem dX11_ifMore_11 : decode cX11_ifMore 11 = .ok (.aload_n 0, 1) := by decide +kernel
theorem dX11_ifMore_12 : decode cX11_ifMore 12 = .ok (.getfield 44, 3) := by decide +kernel
theorem dX11_ifMore_15 : decode cX11_ifMore 15 = .ok (.aload_n 0, 1) := by decide +kernel
theorem dX11_ifMore_16 : decode cX11_ifMore 16 = .ok (.getfield 91, 3) := by decide +kernel
theorem dX11_ifMore_19 : decode cX11_ifMore 19 = .ok (.aload_n 0, 1) := by decide +kernel
theorem dX11_ifMore_20 : decode cX11_ifMore 20 = .ok (.getfield 94, 3) := by decide +kernel
theorem dX11_ifMore_23 : decode cX11_ifMore 23 = .ok (.iload_n 1, 1) := by decide +kernel
theorem dX11_ifMore_24 : decode cX11_ifMore 24 = .ok (.iload_n 2, 1) := by decide +kernel
theorem dX11_ifMore_25 : decode cX11_ifMore 25 = .ok (.invokevirtual 270, 3) := by decide +kernel
theorem dX11_ifMore_28 : decode cX11_ifMore 28 = .ok (.invokestatic 220, 3) := by decide +kernel
theorem dX11_ifMore_31 : decode cX11_ifMore 31 = .ok (.ireturn, 1) := by decide +kernel
theorem dX11_ifEnds_0 : decode cX11_ifEnds 0 = .ok (.aload_n 0, 1) := by decide +kernel
theorem dX11_ifEnds_1 : decode cX11_ifEnds 1 = .ok (.iload_n 1, 1) := by decide +kernel
theorem dX11_ifEnds_2 : decode cX11_ifEnds 2 = .ok (.iload_n 2, 1) := by decide +kernel
theorem dX11_ifEnds_3 : decode cX11_ifEnds 3 = .ok (.invokevirtual 267, 3) := by decide +kernel
theorem dX11_ifEnds_6 : decode cX11_ifEnds 6 = .ok (.ifCond .ne 5, 3) := by decide +kernel
theorem dX11_ifEnds_9 : decode cX11_ifEnds 9 = .ok (.iconst (-1), 1) := by decide +kernel
theorem dX11_ifEnds_10 : decode cX11_ifEnds 10 = .ok (.ireturn, 1) := by decide +kernel
theorem dX11_ifEnds_11 : decode cX11_ifEnds 11 = .ok (.aload_n 0, 1) := by decide +kernel
theorem dX11_ifEnds_12 : decode cX11_ifEnds 12 = .ok (.getfield 44, 3) := by decide +kernel
theorem dX11_ifEnds_15 : decode cX11_ifEnds 15 = .ok (.aload_n 0, 1) := by decide +kernel
theorem dX11_ifEnds_16 : decode cX11_ifEnds 16 = .ok (.getfield 91, 3) := by decide +kernel
theorem dX11_ifEnds_19 : decode cX11_ifEnds 19 = .ok (.aload_n 0, 1) := by decide +kernel
theorem dX11_ifEnds_20 : decode cX11_ifEnds 20 = .ok (.getfield 94, 3) := by decide +kernel
theorem dX11_ifEnds_23 : decode cX11_ifEnds 23 = .ok (.iload_n 1, 1) := by decide +kernel
theorem dX11_ifEnds_24 : decode cX11_ifEnds 24 = .ok (.iload_n 2, 1) := by decide +kernel
theorem dX11_ifEnds_25 : decode cX11_ifEnds 25 = .ok (.invokevirtual 273, 3) := by decide +kernel
theorem dX11_ifEnds_28 : decode cX11_ifEnds 28 = .ok (.invokestatic 220, 3) := by decide +kernel
theorem dX11_ifEnds_31 : decode cX11_ifEnds 31 = .ok (.ireturn, 1) := by decide +kernel
theorem dX11_lacks_0 : decode cX11_lacks 0 = .ok (.aload_n 0, 1) := by decide +kernel
theorem dX11_lacks_1 : decode cX11_lacks 1 = .ok (.getfield 44, 3) := by decide +kernel
theorem dX11_lacks_4 : decode cX11_lacks 4 = .ok (.aload_n 0, 1) := by decide +kernel
theorem dX11_lacks_5 : decode cX11_lacks 5 = .ok (.getfield 91, 3) := by decide +kernel
theorem dX11_lacks_8 : decode cX11_lacks 8 = .ok (.aload_n 0, 1) := by decide +kernel
theorem dX11_lacks_9 : decode cX11_lacks 9 = .ok (.getfield 94, 3) := by decide +kernel
theorem dX11_lacks_12 : decode cX11_lacks 12 = .ok (.invokevirtual 217, 3) := by decide +kernel
theorem dX11_lacks_15 : decode cX11_lacks 15 = .ok (.ireturn, 1) := by decide +kernel
theorem dX11_cutAnswer_0 : decode cX11_cutAnswer 0 = .ok (.aload_n 0, 1) := by decide +kernel
theorem dX11_cutAnswer_1 : decode cX11_cutAnswer 1 = .ok (.getfield 16, 3) := by decide +kernel
theorem dX11_cutAnswer_4 : decode cX11_cutAnswer 4 = .ok (.iload_n 1, 1) := by decide +kernel
theorem dX11_cutAnswer_5 : decode cX11_cutAnswer 5 = .ok (.invokevirtual 122, 3) := by decide +kernel
theorem dX11_cutAnswer_8 : decode cX11_cutAnswer 8 = .ok (.ifCond .ne 5, 3) := by decide +kernel
theorem dX11_cutAnswer_11 : decode cX11_cutAnswer 11 = .ok (.iconst (-1), 1) := by decide +kernel
theorem dX11_cutAnswer_12 : decode cX11_cutAnswer 12 = .ok (.ireturn, 1) := by decide +kernel
theorem dX11_cutAnswer_13 : decode cX11_cutAnswer 13 = .ok (.aload_n 0, 1) := by decide +kernel
theorem dX11_cutAnswer_14 : decode cX11_cutAnswer 14 = .ok (.iload_n 1, 1) := by decide +kernel
theorem dX11_cutAnswer_15 : decode cX11_cutAnswer 15 = .ok (.invokevirtual 171, 3) := by decide +kernel
theorem dX11_cutAnswer_18 : decode cX11_cutAnswer 18 = .ok (.ifCond .eq 10, 3) := by decide +kernel
theorem dX11_cutAnswer_21 : decode cX11_cutAnswer 21 = .ok (.aload_n 0, 1) := by decide +kernel
theorem dX11_cutAnswer_22 : decode cX11_cutAnswer 22 = .ok (.invokevirtual 174, 3) := by decide +kernel
theorem dX11_cutAnswer_25 : decode cX11_cutAnswer 25 = .ok (.ifCond .eq 6, 3) := by decide +kernel
theorem dX11_cutAnswer_28 : decode cX11_cutAnswer 28 = .ok (.bipush (-2), 2) := by decide +kernel
theorem dX11_cutAnswer_30 : decode cX11_cutAnswer 30 = .ok (.ireturn, 1) := by decide +kernel
theorem dX11_cutAnswer_31 : decode cX11_cutAnswer 31 = .ok (.aload_n 0, 1) := by decide +kernel
theorem dX11_cutAnswer_32 : decode cX11_cutAnswer 32 = .ok (.getfield 44, 3) := by decide +kernel
theorem dX11_cutAnswer_35 : decode cX11_cutAnswer 35 = .ok (.iconst 0, 1) := by decide +kernel
theorem dX11_cutAnswer_36 : decode cX11_cutAnswer 36 = .ok (.iconst 1, 1) := by decide +kernel
theorem dX11_cutAnswer_37 : decode cX11_cutAnswer 37 = .ok (.aload_n 0, 1) := by decide +kernel
theorem dX11_cutAnswer_38 : decode cX11_cutAnswer 38 = .ok (.getfield 91, 3) := by decide +kernel
theorem dX11_cutAnswer_41 : decode cX11_cutAnswer 41 = .ok (.iconst 1, 1) := by decide +kernel
theorem dX11_cutAnswer_42 : decode cX11_cutAnswer 42 = .ok (.iload_n 1, 1) := by decide +kernel
theorem dX11_cutAnswer_43 : decode cX11_cutAnswer 43 = .ok (.ishl, 1) := by decide +kernel
theorem dX11_cutAnswer_44 : decode cX11_cutAnswer 44 = .ok (.ior, 1) := by decide +kernel
theorem dX11_cutAnswer_45 : decode cX11_cutAnswer 45 = .ok (.aload_n 0, 1) := by decide +kernel
theorem dX11_cutAnswer_46 : decode cX11_cutAnswer 46 = .ok (.getfield 94, 3) := by decide +kernel
theorem dX11_cutAnswer_49 : decode cX11_cutAnswer 49 = .ok (.invokevirtual 276, 3) := by decide +kernel
theorem dX11_cutAnswer_52 : decode cX11_cutAnswer 52 = .ok (.ireturn, 1) := by decide +kernel
theorem dX11_verifiedForCut_0 : decode cX11_verifiedForCut 0 = .ok (.iload_n 1, 1) := by decide +kernel
theorem dX11_verifiedForCut_1 : decode cX11_verifiedForCut 1 = .ok (.ifCond .lt 8, 3) := by decide +kernel
theorem dX11_verifiedForCut_4 : decode cX11_verifiedForCut 4 = .ok (.iload_n 1, 1) := by decide +kernel
theorem dX11_verifiedForCut_5 : decode cX11_verifiedForCut 5 = .ok (.iconst 1, 1) := by decide +kernel
theorem dX11_verifiedForCut_6 : decode cX11_verifiedForCut 6 = .ok (.if_icmp .le 5, 3) := by decide +kernel
theorem dX11_verifiedForCut_9 : decode cX11_verifiedForCut 9 = .ok (.iconst (-1), 1) := by decide +kernel
theorem dX11_verifiedForCut_10 : decode cX11_verifiedForCut 10 = .ok (.ireturn, 1) := by decide +kernel
theorem dX11_verifiedForCut_11 : decode cX11_verifiedForCut 11 = .ok (.aload_n 0, 1) := by decide +kernel
theorem dX11_verifiedForCut_12 : decode cX11_verifiedForCut 12 = .ok (.invokevirtual 236, 3) := by decide +kernel
theorem dX11_verifiedForCut_15 : decode cX11_verifiedForCut 15 = .ok (.ifCond .eq 22, 3) := by decide +kernel
theorem dX11_verifiedForCut_18 : decode cX11_verifiedForCut 18 = .ok (.aload_n 0, 1) := by decide +kernel
theorem dX11_verifiedForCut_19 : decode cX11_verifiedForCut 19 = .ok (.getfield 44, 3) := by decide +kernel
theorem dX11_verifiedForCut_22 : decode cX11_verifiedForCut 22 = .ok (.aload_n 0, 1) := by decide +kernel
theorem dX11_verifiedForCut_23 : decode cX11_verifiedForCut 23 = .ok (.getfield 91, 3) := by decide +kernel
theorem dX11_verifiedForCut_26 : decode cX11_verifiedForCut 26 = .ok (.aload_n 0, 1) := by decide +kernel
theorem dX11_verifiedForCut_27 : decode cX11_verifiedForCut 27 = .ok (.getfield 94, 3) := by decide +kernel
theorem dX11_verifiedForCut_30 : decode cX11_verifiedForCut 30 = .ok (.invokevirtual 217, 3) := by decide +kernel
theorem dX11_verifiedForCut_33 : decode cX11_verifiedForCut 33 = .ok (.iconst 2, 1) := by decide +kernel
theorem dX11_verifiedForCut_34 : decode cX11_verifiedForCut 34 = .ok (.if_icmp .ge 6, 3) := by decide +kernel
theorem dX11_verifiedForCut_37 : decode cX11_verifiedForCut 37 = .ok (.bipush (-2), 2) := by decide +kernel
theorem dX11_verifiedForCut_39 : decode cX11_verifiedForCut 39 = .ok (.ireturn, 1) := by decide +kernel
theorem dX11_verifiedForCut_40 : decode cX11_verifiedForCut 40 = .ok (.aload_n 0, 1) := by decide +kernel
theorem dX11_verifiedForCut_41 : decode cX11_verifiedForCut 41 = .ok (.getfield 76, 3) := by decide +kernel
theorem dX11_verifiedForCut_44 : decode cX11_verifiedForCut 44 = .ok (.iconst 0, 1) := by decide +kernel
theorem dX11_verifiedForCut_45 : decode cX11_verifiedForCut 45 = .ok (.aload_n 0, 1) := by decide +kernel
theorem dX11_verifiedForCut_46 : decode cX11_verifiedForCut 46 = .ok (.getfield 91, 3) := by decide +kernel
theorem dX11_verifiedForCut_49 : decode cX11_verifiedForCut 49 = .ok (.aload_n 0, 1) := by decide +kernel
theorem dX11_verifiedForCut_50 : decode cX11_verifiedForCut 50 = .ok (.getfield 94, 3) := by decide +kernel
theorem dX11_verifiedForCut_53 : decode cX11_verifiedForCut 53 = .ok (.iload_n 1, 1) := by decide +kernel
theorem dX11_verifiedForCut_54 : decode cX11_verifiedForCut 54 = .ok (.invokevirtual 239, 3) := by decide +kernel
theorem dX11_verifiedForCut_57 : decode cX11_verifiedForCut 57 = .ok (.ireturn, 1) := by decide +kernel
theorem dX11_pivots_0 : decode cX11_pivots 0 = .ok (.aload_n 0, 1) := by decide +kernel
theorem dX11_pivots_1 : decode cX11_pivots 1 = .ok (.getfield 16, 3) := by decide +kernel
theorem dX11_pivots_4 : decode cX11_pivots 4 = .ok (.iload_n 1, 1) := by decide +kernel
theorem dX11_pivots_5 : decode cX11_pivots 5 = .ok (.invokevirtual 122, 3) := by decide +kernel
theorem dX11_pivots_8 : decode cX11_pivots 8 = .ok (.ifCond .ne 5, 3) := by decide +kernel
theorem dX11_pivots_11 : decode cX11_pivots 11 = .ok (.iconst (-1), 1) := by decide +kernel
theorem dX11_pivots_12 : decode cX11_pivots 12 = .ok (.ireturn, 1) := by decide +kernel
theorem dX11_pivots_13 : decode cX11_pivots 13 = .ok (.aload_n 0, 1) := by decide +kernel
theorem dX11_pivots_14 : decode cX11_pivots 14 = .ok (.iload_n 1, 1) := by decide +kernel
theorem dX11_pivots_15 : decode cX11_pivots 15 = .ok (.invokevirtual 171, 3) := by decide +kernel
theorem dX11_pivots_18 : decode cX11_pivots 18 = .ok (.ifCond .ne 6, 3) := by decide +kernel
theorem dX11_pivots_21 : decode cX11_pivots 21 = .ok (.bipush (-2), 2) := by decide +kernel
theorem dX11_pivots_23 : decode cX11_pivots 23 = .ok (.ireturn, 1) := by decide +kernel
theorem dX11_pivots_24 : decode cX11_pivots 24 = .ok (.aload_n 0, 1) := by decide +kernel
theorem dX11_pivots_25 : decode cX11_pivots 25 = .ok (.getfield 60, 3) := by decide +kernel
theorem dX11_pivots_28 : decode cX11_pivots 28 = .ok (.aload_n 0, 1) := by decide +kernel
theorem dX11_pivots_29 : decode cX11_pivots 29 = .ok (.getfield 91, 3) := by decide +kernel
theorem dX11_pivots_32 : decode cX11_pivots 32 = .ok (.aload_n 0, 1) := by decide +kernel
theorem dX11_pivots_33 : decode cX11_pivots 33 = .ok (.getfield 94, 3) := by decide +kernel
theorem dX11_pivots_36 : decode cX11_pivots 36 = .ok (.invokevirtual 242, 3) := by decide +kernel
theorem dX11_pivots_39 : decode cX11_pivots 39 = .ok (.aload_n 0, 1) := by decide +kernel
theorem dX11_pivots_40 : decode cX11_pivots 40 = .ok (.getfield 60, 3) := by decide +kernel
theorem dX11_pivots_43 : decode cX11_pivots 43 = .ok (.iload_n 1, 1) := by decide +kernel
theorem dX11_pivots_44 : decode cX11_pivots 44 = .ok (.invokevirtual 279, 3) := by decide +kernel
theorem dX11_pivots_47 : decode cX11_pivots 47 = .ok (.ireturn, 1) := by decide +kernel
theorem dX11_needed_0 : decode cX11_needed 0 = .ok (.aload_n 0, 1) := by decide +kernel
theorem dX11_needed_1 : decode cX11_needed 1 = .ok (.getfield 60, 3) := by decide +kernel
theorem dX11_needed_4 : decode cX11_needed 4 = .ok (.aload_n 0, 1) := by decide +kernel
theorem dX11_needed_5 : decode cX11_needed 5 = .ok (.getfield 91, 3) := by decide +kernel
theorem dX11_needed_8 : decode cX11_needed 8 = .ok (.aload_n 0, 1) := by decide +kernel
theorem dX11_needed_9 : decode cX11_needed 9 = .ok (.getfield 94, 3) := by decide +kernel
theorem dX11_needed_12 : decode cX11_needed 12 = .ok (.invokevirtual 242, 3) := by decide +kernel
theorem dX11_needed_15 : decode cX11_needed 15 = .ok (.aload_n 0, 1) := by decide +kernel
theorem dX11_needed_16 : decode cX11_needed 16 = .ok (.getfield 60, 3) := by decide +kernel
theorem dX11_needed_19 : decode cX11_needed 19 = .ok (.invokevirtual 282, 3) := by decide +kernel
theorem dX11_needed_22 : decode cX11_needed 22 = .ok (.ireturn, 1) := by decide +kernel
theorem dX11_walls_0 : decode cX11_walls 0 = .ok (.aload_n 0, 1) := by decide +kernel
theorem dX11_walls_1 : decode cX11_walls 1 = .ok (.iconst 1, 1) := by decide +kernel
theorem dX11_walls_2 : decode cX11_walls 2 = .ok (.iload_n 1, 1) := by decide +kernel
theorem dX11_walls_3 : decode cX11_walls 3 = .ok (.invokevirtual 258, 3) := by decide +kernel
theorem dX11_walls_6 : decode cX11_walls 6 = .ok (.ireturn, 1) := by decide +kernel
theorem dX11_set_0 : decode cX11_set 0 = .ok (.iload_n 1, 1) := by decide +kernel
theorem dX11_set_1 : decode cX11_set 1 = .ok (.ifCond .ge 7, 3) := by decide +kernel
theorem dX11_set_4 : decode cX11_set 4 = .ok (.iconst (-1), 1) := by decide +kernel
theorem dX11_set_5 : decode cX11_set 5 = .ok (.goto 19, 3) := by decide +kernel
theorem dX11_set_8 : decode cX11_set 8 = .ok (.aload_n 0, 1) := by decide +kernel
theorem dX11_set_9 : decode cX11_set 9 = .ok (.getfield 51, 3) := by decide +kernel
theorem dX11_set_12 : decode cX11_set 12 = .ok (.aload_n 0, 1) := by decide +kernel
theorem dX11_set_13 : decode cX11_set 13 = .ok (.getfield 91, 3) := by decide +kernel
theorem dX11_set_16 : decode cX11_set 16 = .ok (.aload_n 0, 1) := by decide +kernel
theorem dX11_set_17 : decode cX11_set 17 = .ok (.getfield 94, 3) := by decide +kernel
theorem dX11_set_20 : decode cX11_set 20 = .ok (.iload_n 1, 1) := by decide +kernel
theorem dX11_set_21 : decode cX11_set 21 = .ok (.invokevirtual 285, 3) := by decide +kernel
theorem dX11_set_24 : decode cX11_set 24 = .ok (.ireturn, 1) := by decide +kernel
theorem dX11_alike_0 : decode cX11_alike 0 = .ok (.aload_n 0, 1) := by decide +kernel
theorem dX11_alike_1 : decode cX11_alike 1 = .ok (.getfield 16, 3) := by decide +kernel
theorem dX11_alike_4 : decode cX11_alike 4 = .ok (.iload_n 1, 1) := by decide +kernel
theorem dX11_alike_5 : decode cX11_alike 5 = .ok (.invokevirtual 122, 3) := by decide +kernel
theorem dX11_alike_8 : decode cX11_alike 8 = .ok (.ifCond .eq 14, 3) := by decide +kernel
theorem dX11_alike_11 : decode cX11_alike 11 = .ok (.aload_n 0, 1) := by decide +kernel
theorem dX11_alike_12 : decode cX11_alike 12 = .ok (.getfield 16, 3) := by decide +kernel
theorem dX11_alike_15 : decode cX11_alike 15 = .ok (.iload_n 2, 1) := by decide +kernel
theorem dX11_alike_16 : decode cX11_alike 16 = .ok (.invokevirtual 122, 3) := by decide +kernel
theorem dX11_alike_19 : decode cX11_alike 19 = .ok (.ifCond .ne 5, 3) := by decide +kernel
theorem dX11_alike_22 : decode cX11_alike 22 = .ok (.iconst (-1), 1) := by decide +kernel
theorem dX11_alike_23 : decode cX11_alike 23 = .ok (.ireturn, 1) := by decide +kernel
theorem dX11_alike_24 : decode cX11_alike 24 = .ok (.aload_n 0, 1) := by decide +kernel
theorem dX11_alike_25 : decode cX11_alike 25 = .ok (.iload_n 1, 1) := by decide +kernel
theorem dX11_alike_26 : decode cX11_alike 26 = .ok (.invokevirtual 171, 3) := by decide +kernel
theorem dX11_alike_29 : decode cX11_alike 29 = .ok (.ifCond .eq 11, 3) := by decide +kernel
theorem dX11_alike_32 : decode cX11_alike 32 = .ok (.aload_n 0, 1) := by decide +kernel
theorem dX11_alike_33 : decode cX11_alike 33 = .ok (.iload_n 2, 1) := by decide +kernel
theorem dX11_alike_34 : decode cX11_alike 34 = .ok (.invokevirtual 171, 3) := by decide +kernel
theorem dX11_alike_37 : decode cX11_alike 37 = .ok (.ifCond .ne 6, 3) := by decide +kernel
theorem dX11_alike_40 : decode cX11_alike 40 = .ok (.bipush (-2), 2) := by decide +kernel
theorem dX11_alike_42 : decode cX11_alike 42 = .ok (.ireturn, 1) := by decide +kernel
theorem dX11_alike_43 : decode cX11_alike 43 = .ok (.aload_n 0, 1) := by decide +kernel
theorem dX11_alike_44 : decode cX11_alike 44 = .ok (.getfield 60, 3) := by decide +kernel
theorem dX11_alike_47 : decode cX11_alike 47 = .ok (.aload_n 0, 1) := by decide +kernel
theorem dX11_alike_48 : decode cX11_alike 48 = .ok (.getfield 91, 3) := by decide +kernel
theorem dX11_alike_51 : decode cX11_alike 51 = .ok (.aload_n 0, 1) := by decide +kernel
theorem dX11_alike_52 : decode cX11_alike 52 = .ok (.getfield 94, 3) := by decide +kernel
theorem dX11_alike_55 : decode cX11_alike 55 = .ok (.invokevirtual 242, 3) := by decide +kernel
theorem dX11_alike_58 : decode cX11_alike 58 = .ok (.iload_n 1, 1) := by decide +kernel
theorem dX11_alike_59 : decode cX11_alike 59 = .ok (.iload_n 2, 1) := by decide +kernel
theorem dX11_alike_60 : decode cX11_alike 60 = .ok (.if_icmp .eq 15, 3) := by decide +kernel
theorem dX11_alike_63 : decode cX11_alike 63 = .ok (.aload_n 0, 1) := by decide +kernel
theorem dX11_alike_64 : decode cX11_alike 64 = .ok (.getfield 60, 3) := by decide +kernel
theorem dX11_alike_67 : decode cX11_alike 67 = .ok (.iload_n 1, 1) := by decide +kernel
theorem dX11_alike_68 : decode cX11_alike 68 = .ok (.iload_n 2, 1) := by decide +kernel
theorem dX11_alike_69 : decode cX11_alike 69 = .ok (.invokevirtual 288, 3) := by decide +kernel
theorem dX11_alike_72 : decode cX11_alike 72 = .ok (.ifCond .eq 7, 3) := by decide +kernel
theorem dX11_alike_75 : decode cX11_alike 75 = .ok (.iconst 1, 1) := by decide +kernel
theorem dX11_alike_76 : decode cX11_alike 76 = .ok (.goto 4, 3) := by decide +kernel
theorem dX11_alike_79 : decode cX11_alike 79 = .ok (.iconst 0, 1) := by decide +kernel
theorem dX11_alike_80 : decode cX11_alike 80 = .ok (.ireturn, 1) := by decide +kernel
theorem dX11_strong_0 : decode cX11_strong 0 = .ok (.iload_n 1, 1) := by decide +kernel
theorem dX11_strong_1 : decode cX11_strong 1 = .ok (.ifCond .ge 5, 3) := by decide +kernel
theorem dX11_strong_4 : decode cX11_strong 4 = .ok (.iconst (-1), 1) := by decide +kernel
theorem dX11_strong_5 : decode cX11_strong 5 = .ok (.ireturn, 1) := by decide +kernel
theorem dX11_strong_6 : decode cX11_strong 6 = .ok (.aload_n 0, 1) := by decide +kernel
theorem dX11_strong_7 : decode cX11_strong 7 = .ok (.getfield 60, 3) := by decide +kernel
theorem dX11_strong_10 : decode cX11_strong 10 = .ok (.aload_n 0, 1) := by decide +kernel
theorem dX11_strong_11 : decode cX11_strong 11 = .ok (.getfield 91, 3) := by decide +kernel
theorem dX11_strong_14 : decode cX11_strong 14 = .ok (.aload_n 0, 1) := by decide +kernel
theorem dX11_strong_15 : decode cX11_strong 15 = .ok (.getfield 94, 3) := by decide +kernel
theorem dX11_strong_18 : decode cX11_strong 18 = .ok (.invokevirtual 242, 3) := by decide +kernel
theorem dX11_strong_21 : decode cX11_strong 21 = .ok (.aload_n 0, 1) := by decide +kernel
theorem dX11_strong_22 : decode cX11_strong 22 = .ok (.getfield 60, 3) := by decide +kernel
theorem dX11_strong_25 : decode cX11_strong 25 = .ok (.iload_n 1, 1) := by decide +kernel
theorem dX11_strong_26 : decode cX11_strong 26 = .ok (.invokevirtual 291, 3) := by decide +kernel
theorem dX11_strong_29 : decode cX11_strong 29 = .ok (.ireturn, 1) := by decide +kernel
theorem dX11_forests_0 : decode cX11_forests 0 = .ok (.iload_n 1, 1) := by decide +kernel
theorem dX11_forests_1 : decode cX11_forests 1 = .ok (.ifCond .lt 8, 3) := by decide +kernel
theorem dX11_forests_4 : decode cX11_forests 4 = .ok (.iload_n 1, 1) := by decide +kernel
theorem dX11_forests_5 : decode cX11_forests 5 = .ok (.iconst 2, 1) := by decide +kernel
theorem dX11_forests_6 : decode cX11_forests 6 = .ok (.if_icmp .le 5, 3) := by decide +kernel
theorem dX11_forests_9 : decode cX11_forests 9 = .ok (.iconst (-1), 1) := by decide +kernel
theorem dX11_forests_10 : decode cX11_forests 10 = .ok (.ireturn, 1) := by decide +kernel
theorem dX11_forests_11 : decode cX11_forests 11 = .ok (.aload_n 0, 1) := by decide +kernel
theorem dX11_forests_12 : decode cX11_forests 12 = .ok (.getfield 44, 3) := by decide +kernel
theorem dX11_forests_15 : decode cX11_forests 15 = .ok (.aload_n 0, 1) := by decide +kernel
theorem dX11_forests_16 : decode cX11_forests 16 = .ok (.getfield 16, 3) := by decide +kernel
theorem dX11_forests_19 : decode cX11_forests 19 = .ok (.aload_n 0, 1) := by decide +kernel
theorem dX11_forests_20 : decode cX11_forests 20 = .ok (.getfield 91, 3) := by decide +kernel
theorem dX11_forests_23 : decode cX11_forests 23 = .ok (.invokevirtual 151, 3) := by decide +kernel
theorem dX11_forests_26 : decode cX11_forests 26 = .ok (.aload_n 0, 1) := by decide +kernel
theorem dX11_forests_27 : decode cX11_forests 27 = .ok (.invokevirtual 193, 3) := by decide +kernel
theorem dX11_forests_30 : decode cX11_forests 30 = .ok (.invokevirtual 294, 3) := by decide +kernel
theorem dX11_forests_33 : decode cX11_forests 33 = .ok (.iload_n 1, 1) := by decide +kernel
theorem dX11_forests_34 : decode cX11_forests 34 = .ok (.ifCond .ne 11, 3) := by decide +kernel
theorem dX11_forests_37 : decode cX11_forests 37 = .ok (.aload_n 0, 1) := by decide +kernel
theorem dX11_forests_38 : decode cX11_forests 38 = .ok (.getfield 35, 3) := by decide +kernel
theorem dX11_forests_41 : decode cX11_forests 41 = .ok (.invokevirtual 297, 3) := by decide +kernel
theorem dX11_forests_44 : decode cX11_forests 44 = .ok (.ireturn, 1) := by decide +kernel
theorem dX11_forests_45 : decode cX11_forests 45 = .ok (.aload_n 0, 1) := by decide +kernel
theorem dX11_forests_46 : decode cX11_forests 46 = .ok (.getfield 35, 3) := by decide +kernel
theorem dX11_forests_49 : decode cX11_forests 49 = .ok (.invokevirtual 300, 3) := by decide +kernel
theorem dX11_forests_52 : decode cX11_forests 52 = .ok (.iload_n 1, 1) := by decide +kernel
theorem dX11_forests_53 : decode cX11_forests 53 = .ok (.iconst 1, 1) := by decide +kernel
theorem dX11_forests_54 : decode cX11_forests 54 = .ok (.if_icmp .ne 13, 3) := by decide +kernel
theorem dX11_forests_57 : decode cX11_forests 57 = .ok (.aload_n 0, 1) := by decide +kernel
theorem dX11_forests_58 : decode cX11_forests 58 = .ok (.getfield 35, 3) := by decide +kernel
theorem dX11_forests_61 : decode cX11_forests 61 = .ok (.getfield 303, 3) := by decide +kernel
theorem dX11_forests_64 : decode cX11_forests 64 = .ok (.goto 10, 3) := by decide +kernel
theorem dX11_forests_67 : decode cX11_forests 67 = .ok (.aload_n 0, 1) := by decide +kernel
theorem dX11_forests_68 : decode cX11_forests 68 = .ok (.getfield 35, 3) := by decide +kernel
theorem dX11_forests_71 : decode cX11_forests 71 = .ok (.getfield 306, 3) := by decide +kernel
theorem dX11_forests_74 : decode cX11_forests 74 = .ok (.ireturn, 1) := by decide +kernel
theorem dX11_duel_0 : decode cX11_duel 0 = .ok (.iload_n 1, 1) := by decide +kernel
theorem dX11_duel_1 : decode cX11_duel 1 = .ok (.ifCond .ge 5, 3) := by decide +kernel
theorem dX11_duel_4 : decode cX11_duel 4 = .ok (.iconst (-1), 1) := by decide +kernel
theorem dX11_duel_5 : decode cX11_duel 5 = .ok (.ireturn, 1) := by decide +kernel
theorem dX11_duel_6 : decode cX11_duel 6 = .ok (.aload_n 0, 1) := by decide +kernel
theorem dX11_duel_7 : decode cX11_duel 7 = .ok (.getfield 51, 3) := by decide +kernel
theorem dX11_duel_10 : decode cX11_duel 10 = .ok (.aload_n 0, 1) := by decide +kernel
theorem dX11_duel_11 : decode cX11_duel 11 = .ok (.getfield 91, 3) := by decide +kernel
theorem dX11_duel_14 : decode cX11_duel 14 = .ok (.aload_n 0, 1) := by decide +kernel
theorem dX11_duel_15 : decode cX11_duel 15 = .ok (.getfield 94, 3) := by decide +kernel
theorem dX11_duel_18 : decode cX11_duel 18 = .ok (.invokevirtual 204, 3) := by decide +kernel
theorem dX11_duel_21 : decode cX11_duel 21 = .ok (.ifCond .eq 22, 3) := by decide +kernel
theorem dX11_duel_24 : decode cX11_duel 24 = .ok (.aload_n 0, 1) := by decide +kernel
theorem dX11_duel_25 : decode cX11_duel 25 = .ok (.getfield 76, 3) := by decide +kernel
theorem dX11_duel_28 : decode cX11_duel 28 = .ok (.aload_n 0, 1) := by decide +kernel
theorem dX11_duel_29 : decode cX11_duel 29 = .ok (.getfield 91, 3) := by decide +kernel
theorem dX11_duel_32 : decode cX11_duel 32 = .ok (.aload_n 0, 1) := by decide +kernel
theorem dX11_duel_33 : decode cX11_duel 33 = .ok (.getfield 94, 3) := by decide +kernel
theorem dX11_duel_36 : decode cX11_duel 36 = .ok (.iload_n 1, 1) := by decide +kernel
theorem dX11_duel_37 : decode cX11_duel 37 = .ok (.invokevirtual 309, 3) := by decide +kernel
theorem dX11_duel_40 : decode cX11_duel 40 = .ok (.goto 5, 3) := by decide +kernel
theorem dX11_duel_43 : decode cX11_duel 43 = .ok (.bipush (-2), 2) := by decide +kernel
theorem dX11_duel_45 : decode cX11_duel 45 = .ok (.ireturn, 1) := by decide +kernel
theorem dX11_chance_0 : decode cX11_chance 0 = .ok (.iload_n 1, 1) := by decide +kernel
theorem dX11_chance_1 : decode cX11_chance 1 = .ok (.ifCond .lt 14, 3) := by decide +kernel
theorem dX11_chance_4 : decode cX11_chance 4 = .ok (.iload_n 2, 1) := by decide +kernel
theorem dX11_chance_5 : decode cX11_chance 5 = .ok (.iconst 1, 1) := by decide +kernel
theorem dX11_chance_6 : decode cX11_chance 6 = .ok (.if_icmp .lt 9, 3) := by decide +kernel
theorem dX11_chance_9 : decode cX11_chance 9 = .ok (.iload_n 2, 1) := by decide +kernel
theorem dX11_chance_10 : decode cX11_chance 10 = .ok (.bipush 50, 2) := by decide +kernel
theorem dX11_chance_12 : decode cX11_chance 12 = .ok (.if_icmp .le 5, 3) := by decide +kernel
theorem dX11_chance_15 : decode cX11_chance 15 = .ok (.iconst (-1), 1) := by decide +kernel
theorem dX11_chance_16 : decode cX11_chance 16 = .ok (.ireturn, 1) := by decide +kernel
theorem dX11_chance_17 : decode cX11_chance 17 = .ok (.aload_n 0, 1) := by decide +kernel
theorem dX11_chance_18 : decode cX11_chance 18 = .ok (.getfield 76, 3) := by decide +kernel
theorem dX11_chance_21 : decode cX11_chance 21 = .ok (.aload_n 0, 1) := by decide +kernel
theorem dX11_chance_22 : decode cX11_chance 22 = .ok (.getfield 91, 3) := by decide +kernel
theorem dX11_chance_25 : decode cX11_chance 25 = .ok (.aload_n 0, 1) := by decide +kernel
theorem dX11_chance_26 : decode cX11_chance 26 = .ok (.getfield 94, 3) := by decide +kernel
theorem dX11_chance_29 : decode cX11_chance 29 = .ok (.aload_n 0, 1) := by decide +kernel
theorem dX11_chance_30 : decode cX11_chance 30 = .ok (.getfield 97, 3) := by decide +kernel
theorem dX11_chance_33 : decode cX11_chance 33 = .ok (.iload_n 1, 1) := by decide +kernel
theorem dX11_chance_34 : decode cX11_chance 34 = .ok (.iload_n 2, 1) := by decide +kernel
theorem dX11_chance_35 : decode cX11_chance 35 = .ok (.invokevirtual 312, 3) := by decide +kernel
theorem dX11_chance_38 : decode cX11_chance 38 = .ok (.ireturn, 1) := by decide +kernel
theorem dX11_count_0 : decode cX11_count 0 = .ok (.iload_n 1, 1) := by decide +kernel
theorem dX11_count_1 : decode cX11_count 1 = .ok (.tableswitch 84 0 5 #[39, 47, 55, 63, 71, 79], 39) := by decide +kernel
theorem dX11_count_40 : decode cX11_count 40 = .ok (.aload_n 0, 1) := by decide +kernel
theorem dX11_count_41 : decode cX11_count 41 = .ok (.getfield 16, 3) := by decide +kernel
theorem dX11_count_44 : decode cX11_count 44 = .ok (.getfield 164, 3) := by decide +kernel
theorem dX11_count_47 : decode cX11_count 47 = .ok (.ireturn, 1) := by decide +kernel
theorem dX11_count_48 : decode cX11_count 48 = .ok (.aload_n 0, 1) := by decide +kernel
theorem dX11_count_49 : decode cX11_count 49 = .ok (.getfield 16, 3) := by decide +kernel
theorem dX11_count_52 : decode cX11_count 52 = .ok (.getfield 316, 3) := by decide +kernel
theorem dX11_count_55 : decode cX11_count 55 = .ok (.ireturn, 1) := by decide +kernel
theorem dX11_count_56 : decode cX11_count 56 = .ok (.aload_n 0, 1) := by decide +kernel
theorem dX11_count_57 : decode cX11_count 57 = .ok (.getfield 16, 3) := by decide +kernel
theorem dX11_count_60 : decode cX11_count 60 = .ok (.getfield 319, 3) := by decide +kernel
theorem dX11_count_63 : decode cX11_count 63 = .ok (.ireturn, 1) := by decide +kernel
theorem dX11_count_64 : decode cX11_count 64 = .ok (.aload_n 0, 1) := by decide +kernel
theorem dX11_count_65 : decode cX11_count 65 = .ok (.getfield 16, 3) := by decide +kernel
theorem dX11_count_68 : decode cX11_count 68 = .ok (.getfield 322, 3) := by decide +kernel
theorem dX11_count_71 : decode cX11_count 71 = .ok (.ireturn, 1) := by decide +kernel
theorem dX11_count_72 : decode cX11_count 72 = .ok (.aload_n 0, 1) := by decide +kernel
theorem dX11_count_73 : decode cX11_count 73 = .ok (.getfield 16, 3) := by decide +kernel
theorem dX11_count_76 : decode cX11_count 76 = .ok (.getfield 119, 3) := by decide +kernel
theorem dX11_count_79 : decode cX11_count 79 = .ok (.ireturn, 1) := by decide +kernel
theorem dX11_count_80 : decode cX11_count 80 = .ok (.aload_n 0, 1) := by decide +kernel
theorem dX11_count_81 : decode cX11_count 81 = .ok (.getfield 87, 3) := by decide +kernel
theorem dX11_count_84 : decode cX11_count 84 = .ok (.ireturn, 1) := by decide +kernel
theorem dX11_count_85 : decode cX11_count 85 = .ok (.iconst (-1), 1) := by decide +kernel
theorem dX11_count_86 : decode cX11_count 86 = .ok (.ireturn, 1) := by decide +kernel
theorem dX11_feedNumber_0 : decode cX11_feedNumber 0 = .ok (.bipush 24, 2) := by decide +kernel
theorem dX11_feedNumber_2 : decode cX11_feedNumber 2 = .ok (.istore_n 2, 1) := by decide +kernel
theorem dX11_feedNumber_3 : decode cX11_feedNumber 3 = .ok (.iload_n 2, 1) := by decide +kernel
theorem dX11_feedNumber_4 : decode cX11_feedNumber 4 = .ok (.ifCond .lt 51, 3) := by decide +kernel
theorem dX11_feedNumber_7 : decode cX11_feedNumber 7 = .ok (.aload_n 0, 1) := by decide +kernel
theorem dX11_feedNumber_8 : decode cX11_feedNumber 8 = .ok (.getfield 87, 3) := by decide +kernel
theorem dX11_feedNumber_11 : decode cX11_feedNumber 11 = .ok (.ifCond .lt 38, 3) := by decide +kernel
theorem dX11_feedNumber_14 : decode cX11_feedNumber 14 = .ok (.aload_n 0, 1) := by decide +kernel
theorem dX11_feedNumber_15 : decode cX11_feedNumber 15 = .ok (.getfield 87, 3) := by decide +kernel
theorem dX11_feedNumber_18 : decode cX11_feedNumber 18 = .ok (.aload_n 0, 1) := by decide +kernel
theorem dX11_feedNumber_19 : decode cX11_feedNumber 19 = .ok (.getfield 9, 3) := by decide +kernel
theorem dX11_feedNumber_22 : decode cX11_feedNumber 22 = .ok (.arraylength, 1) := by decide +kernel
theorem dX11_feedNumber_23 : decode cX11_feedNumber 23 = .ok (.if_icmp .ge 26, 3) := by decide +kernel
theorem dX11_feedNumber_26 : decode cX11_feedNumber 26 = .ok (.aload_n 0, 1) := by decide +kernel
theorem dX11_feedNumber_27 : decode cX11_feedNumber 27 = .ok (.getfield 9, 3) := by decide +kernel
theorem dX11_feedNumber_30 : decode cX11_feedNumber 30 = .ok (.aload_n 0, 1) := by decide +kernel
theorem dX11_feedNumber_31 : decode cX11_feedNumber 31 = .ok (.getfield 87, 3) := by decide +kernel
theorem dX11_feedNumber_34 : decode cX11_feedNumber 34 = .ok (.iload_n 1, 1) := by decide +kernel
theorem dX11_feedNumber_35 : decode cX11_feedNumber 35 = .ok (.iload_n 2, 1) := by decide +kernel
theorem dX11_feedNumber_36 : decode cX11_feedNumber 36 = .ok (.iushr, 1) := by decide +kernel
theorem dX11_feedNumber_37 : decode cX11_feedNumber 37 = .ok (.i2b, 1) := by decide +kernel
theorem dX11_feedNumber_38 : decode cX11_feedNumber 38 = .ok (.bastore, 1) := by decide +kernel
theorem dX11_feedNumber_39 : decode cX11_feedNumber 39 = .ok (.aload_n 0, 1) := by decide +kernel
theorem dX11_feedNumber_40 : decode cX11_feedNumber 40 = .ok (.dup, 1) := by decide +kernel
theorem dX11_feedNumber_41 : decode cX11_feedNumber 41 = .ok (.getfield 87, 3) := by decide +kernel
theorem dX11_feedNumber_44 : decode cX11_feedNumber 44 = .ok (.iconst 1, 1) := by decide +kernel
theorem dX11_feedNumber_45 : decode cX11_feedNumber 45 = .ok (.iadd, 1) := by decide +kernel
theorem dX11_feedNumber_46 : decode cX11_feedNumber 46 = .ok (.putfield 87, 3) := by decide +kernel
theorem dX11_feedNumber_49 : decode cX11_feedNumber 49 = .ok (.iinc 2 (-8), 3) := by decide +kernel
theorem dX11_feedNumber_52 : decode cX11_feedNumber 52 = .ok (.goto (-49), 3) := by decide +kernel
theorem dX11_feedNumber_55 : decode cX11_feedNumber 55 = .ok (.return_, 1) := by decide +kernel
theorem dX11_beginDraft_0 : decode cX11_beginDraft 0 = .ok (.aload_n 0, 1) := by decide +kernel
theorem dX11_beginDraft_1 : decode cX11_beginDraft 1 = .ok (.getfield 16, 3) := by decide +kernel
theorem dX11_beginDraft_4 : decode cX11_beginDraft 4 = .ok (.aload_n 0, 1) := by decide +kernel
theorem dX11_beginDraft_5 : decode cX11_beginDraft 5 = .ok (.getfield 20, 3) := by decide +kernel
theorem dX11_beginDraft_8 : decode cX11_beginDraft 8 = .ok (.invokevirtual 325, 3) := by decide +kernel
theorem dX11_beginDraft_11 : decode cX11_beginDraft 11 = .ok (.aload_n 0, 1) := by decide +kernel
theorem dX11_beginDraft_12 : decode cX11_beginDraft 12 = .ok (.aload_n 0, 1) := by decide +kernel
theorem dX11_beginDraft_13 : decode cX11_beginDraft 13 = .ok (.getfield 16, 3) := by decide +kernel
theorem dX11_beginDraft_16 : decode cX11_beginDraft 16 = .ok (.getfield 328, 3) := by decide +kernel
theorem dX11_beginDraft_19 : decode cX11_beginDraft 19 = .ok (.putfield 91, 3) := by decide +kernel
theorem dX11_beginDraft_22 : decode cX11_beginDraft 22 = .ok (.aload_n 0, 1) := by decide +kernel
theorem dX11_beginDraft_23 : decode cX11_beginDraft 23 = .ok (.aload_n 0, 1) := by decide +kernel
theorem dX11_beginDraft_24 : decode cX11_beginDraft 24 = .ok (.getfield 16, 3) := by decide +kernel
theorem dX11_beginDraft_27 : decode cX11_beginDraft 27 = .ok (.getfield 331, 3) := by decide +kernel
theorem dX11_beginDraft_30 : decode cX11_beginDraft 30 = .ok (.putfield 94, 3) := by decide +kernel
theorem dX11_beginDraft_33 : decode cX11_beginDraft 33 = .ok (.aload_n 0, 1) := by decide +kernel
theorem dX11_beginDraft_34 : decode cX11_beginDraft 34 = .ok (.aload_n 0, 1) := by decide +kernel
theorem dX11_beginDraft_35 : decode cX11_beginDraft 35 = .ok (.getfield 16, 3) := by decide +kernel
theorem dX11_beginDraft_38 : decode cX11_beginDraft 38 = .ok (.getfield 334, 3) := by decide +kernel
theorem dX11_beginDraft_41 : decode cX11_beginDraft 41 = .ok (.putfield 97, 3) := by decide +kernel
theorem dX11_beginDraft_44 : decode cX11_beginDraft 44 = .ok (.aload_n 0, 1) := by decide +kernel
theorem dX11_beginDraft_45 : decode cX11_beginDraft 45 = .ok (.getfield 83, 3) := by decide +kernel
theorem dX11_beginDraft_48 : decode cX11_beginDraft 48 = .ok (.invokevirtual 337, 3) := by decide +kernel
theorem dX11_beginDraft_51 : decode cX11_beginDraft 51 = .ok (.aload_n 0, 1) := by decide +kernel
theorem dX11_beginDraft_52 : decode cX11_beginDraft 52 = .ok (.getfield 60, 3) := by decide +kernel
theorem dX11_beginDraft_55 : decode cX11_beginDraft 55 = .ok (.invokevirtual 340, 3) := by decide +kernel
theorem dX11_beginDraft_58 : decode cX11_beginDraft 58 = .ok (.return_, 1) := by decide +kernel
theorem dX11_turn_0 : decode cX11_turn 0 = .ok (.aload_n 0, 1) := by decide +kernel
theorem dX11_turn_1 : decode cX11_turn 1 = .ok (.getfield 83, 3) := by decide +kernel
theorem dX11_turn_4 : decode cX11_turn 4 = .ok (.iload_n 1, 1) := by decide +kernel
theorem dX11_turn_5 : decode cX11_turn 5 = .ok (.invokevirtual 341, 3) := by decide +kernel
theorem dX11_turn_8 : decode cX11_turn 8 = .ok (.aload_n 0, 1) := by decide +kernel
theorem dX11_turn_9 : decode cX11_turn 9 = .ok (.iconst 1, 1) := by decide +kernel
theorem dX11_turn_10 : decode cX11_turn 10 = .ok (.aload_n 0, 1) := by decide +kernel
theorem dX11_turn_11 : decode cX11_turn 11 = .ok (.getfield 97, 3) := by decide +kernel
theorem dX11_turn_14 : decode cX11_turn 14 = .ok (.isub, 1) := by decide +kernel
theorem dX11_turn_15 : decode cX11_turn 15 = .ok (.putfield 97, 3) := by decide +kernel
theorem dX11_turn_18 : decode cX11_turn 18 = .ok (.return_, 1) := by decide +kernel
theorem dX11_open_0 : decode cX11_open 0 = .ok (.aload_n 0, 1) := by decide +kernel
theorem dX11_open_1 : decode cX11_open 1 = .ok (.getfield 16, 3) := by decide +kernel
theorem dX11_open_4 : decode cX11_open 4 = .ok (.aload_n 0, 1) := by decide +kernel
theorem dX11_open_5 : decode cX11_open 5 = .ok (.getfield 91, 3) := by decide +kernel
theorem dX11_open_8 : decode cX11_open 8 = .ok (.aload_n 0, 1) := by decide +kernel
theorem dX11_open_9 : decode cX11_open 9 = .ok (.getfield 94, 3) := by decide +kernel
theorem dX11_open_12 : decode cX11_open 12 = .ok (.invokevirtual 344, 3) := by decide +kernel
theorem dX11_open_15 : decode cX11_open 15 = .ok (.ireturn, 1) := by decide +kernel
theorem dX11_isOpen_0 : decode cX11_isOpen 0 = .ok (.aload_n 0, 1) := by decide +kernel
theorem dX11_isOpen_1 : decode cX11_isOpen 1 = .ok (.invokevirtual 193, 3) := by decide +kernel
theorem dX11_isOpen_4 : decode cX11_isOpen 4 = .ok (.iload_n 1, 1) := by decide +kernel
theorem dX11_isOpen_5 : decode cX11_isOpen 5 = .ok (.invokestatic 347, 3) := by decide +kernel
theorem dX11_isOpen_8 : decode cX11_isOpen 8 = .ok (.ireturn, 1) := by decide +kernel
theorem dX11_isOver_0 : decode cX11_isOver 0 = .ok (.aload_n 0, 1) := by decide +kernel
theorem dX11_isOver_1 : decode cX11_isOver 1 = .ok (.getfield 16, 3) := by decide +kernel
theorem dX11_isOver_4 : decode cX11_isOver 4 = .ok (.aload_n 0, 1) := by decide +kernel
theorem dX11_isOver_5 : decode cX11_isOver 5 = .ok (.getfield 91, 3) := by decide +kernel
theorem dX11_isOver_8 : decode cX11_isOver 8 = .ok (.aload_n 0, 1) := by decide +kernel
theorem dX11_isOver_9 : decode cX11_isOver 9 = .ok (.getfield 94, 3) := by decide +kernel
theorem dX11_isOver_12 : decode cX11_isOver 12 = .ok (.invokevirtual 181, 3) := by decide +kernel
theorem dX11_isOver_15 : decode cX11_isOver 15 = .ok (.iconst 2, 1) := by decide +kernel
theorem dX11_isOver_16 : decode cX11_isOver 16 = .ok (.if_icmp .eq 7, 3) := by decide +kernel
theorem dX11_isOver_19 : decode cX11_isOver 19 = .ok (.iconst 1, 1) := by decide +kernel
theorem dX11_isOver_20 : decode cX11_isOver 20 = .ok (.goto 4, 3) := by decide +kernel
theorem dX11_isOver_23 : decode cX11_isOver 23 = .ok (.iconst 0, 1) := by decide +kernel
theorem dX11_isOver_24 : decode cX11_isOver 24 = .ok (.ireturn, 1) := by decide +kernel
theorem dX11_isSmall_0 : decode cX11_isSmall 0 = .ok (.aload_n 0, 1) := by decide +kernel
theorem dX11_isSmall_1 : decode cX11_isSmall 1 = .ok (.invokevirtual 193, 3) := by decide +kernel
theorem dX11_isSmall_4 : decode cX11_isSmall 4 = .ok (.invokestatic 196, 3) := by decide +kernel
theorem dX11_isSmall_7 : decode cX11_isSmall 7 = .ok (.bipush 10, 2) := by decide +kernel
theorem dX11_isSmall_9 : decode cX11_isSmall 9 = .ok (.if_icmp .gt 7, 3) := by decide +kernel
theorem dX11_isSmall_12 : decode cX11_isSmall 12 = .ok (.iconst 1, 1) := by decide +kernel
theorem dX11_isSmall_13 : decode cX11_isSmall 13 = .ok (.goto 4, 3) := by decide +kernel
theorem dX11_isSmall_16 : decode cX11_isSmall 16 = .ok (.iconst 0, 1) := by decide +kernel
theorem dX11_isSmall_17 : decode cX11_isSmall 17 = .ok (.ireturn, 1) := by decide +kernel
theorem dX11_areTwoKnots_0 : decode cX11_areTwoKnots 0 = .ok (.aload_n 0, 1) := by decide +kernel
theorem dX11_areTwoKnots_1 : decode cX11_areTwoKnots 1 = .ok (.getfield 16, 3) := by decide +kernel
theorem dX11_areTwoKnots_4 : decode cX11_areTwoKnots 4 = .ok (.iload_n 1, 1) := by decide +kernel
theorem dX11_areTwoKnots_5 : decode cX11_areTwoKnots 5 = .ok (.invokevirtual 148, 3) := by decide +kernel
theorem dX11_areTwoKnots_8 : decode cX11_areTwoKnots 8 = .ok (.ifCond .eq 23, 3) := by decide +kernel
theorem dX11_areTwoKnots_11 : decode cX11_areTwoKnots 11 = .ok (.aload_n 0, 1) := by decide +kernel
theorem dX11_areTwoKnots_12 : decode cX11_areTwoKnots 12 = .ok (.getfield 16, 3) := by decide +kernel
theorem dX11_areTwoKnots_15 : decode cX11_areTwoKnots 15 = .ok (.iload_n 2, 1) := by decide +kernel
theorem dX11_areTwoKnots_16 : decode cX11_areTwoKnots 16 = .ok (.invokevirtual 148, 3) := by decide +kernel
theorem dX11_areTwoKnots_19 : decode cX11_areTwoKnots 19 = .ok (.ifCond .eq 12, 3) := by decide +kernel
theorem dX11_areTwoKnots_22 : decode cX11_areTwoKnots 22 = .ok (.iload_n 1, 1) := by decide +kernel
theorem dX11_areTwoKnots_23 : decode cX11_areTwoKnots 23 = .ok (.iload_n 2, 1) := by decide +kernel
theorem dX11_areTwoKnots_24 : decode cX11_areTwoKnots 24 = .ok (.if_icmp .eq 7, 3) := by decide +kernel
theorem dX11_areTwoKnots_27 : decode cX11_areTwoKnots 27 = .ok (.iconst 1, 1) := by decide +kernel
theorem dX11_areTwoKnots_28 : decode cX11_areTwoKnots 28 = .ok (.goto 4, 3) := by decide +kernel
theorem dX11_areTwoKnots_31 : decode cX11_areTwoKnots 31 = .ok (.iconst 0, 1) := by decide +kernel
theorem dX11_areTwoKnots_32 : decode cX11_areTwoKnots 32 = .ok (.ireturn, 1) := by decide +kernel
theorem dX11_stateOf_0 : decode cX11_stateOf 0 = .ok (.aload_n 0, 1) := by decide +kernel
theorem dX11_stateOf_1 : decode cX11_stateOf 1 = .ok (.iload_n 1, 1) := by decide +kernel
theorem dX11_stateOf_2 : decode cX11_stateOf 2 = .ok (.invokevirtual 171, 3) := by decide +kernel
theorem dX11_stateOf_5 : decode cX11_stateOf 5 = .ok (.ifCond .eq 5, 3) := by decide +kernel
theorem dX11_stateOf_8 : decode cX11_stateOf 8 = .ok (.iconst 0, 1) := by decide +kernel
theorem dX11_stateOf_9 : decode cX11_stateOf 9 = .ok (.ireturn, 1) := by decide +kernel
theorem dX11_stateOf_10 : decode cX11_stateOf 10 = .ok (.aload_n 0, 1) := by decide +kernel
theorem dX11_stateOf_11 : decode cX11_stateOf 11 = .ok (.getfield 91, 3) := by decide +kernel
theorem dX11_stateOf_14 : decode cX11_stateOf 14 = .ok (.iload_n 1, 1) := by decide +kernel
theorem dX11_stateOf_15 : decode cX11_stateOf 15 = .ok (.invokestatic 347, 3) := by decide +kernel
theorem dX11_stateOf_18 : decode cX11_stateOf 18 = .ok (.ifCond .eq 7, 3) := by decide +kernel
theorem dX11_stateOf_21 : decode cX11_stateOf 21 = .ok (.iconst 1, 1) := by decide +kernel
theorem dX11_stateOf_22 : decode cX11_stateOf 22 = .ok (.goto 4, 3) := by decide +kernel
theorem dX11_stateOf_25 : decode cX11_stateOf 25 = .ok (.iconst 2, 1) := by decide +kernel
theorem dX11_stateOf_26 : decode cX11_stateOf 26 = .ok (.ireturn, 1) := by decide +kernel
theorem dX11_nthWinning_0 : decode cX11_nthWinning 0 = .ok (.aload_n 0, 1) := by decide +kernel
theorem dX11_nthWinning_1 : decode cX11_nthWinning 1 = .ok (.getfield 44, 3) := by decide +kernel
theorem dX11_nthWinning_4 : decode cX11_nthWinning 4 = .ok (.iconst 0, 1) := by decide +kernel
theorem dX11_nthWinning_5 : decode cX11_nthWinning 5 = .ok (.iload_n 1, 1) := by decide +kernel
theorem dX11_nthWinning_6 : decode cX11_nthWinning 6 = .ok (.aload_n 0, 1) := by decide +kernel
theorem dX11_nthWinning_7 : decode cX11_nthWinning 7 = .ok (.getfield 91, 3) := by decide +kernel
theorem dX11_nthWinning_10 : decode cX11_nthWinning 10 = .ok (.aload_n 0, 1) := by decide +kernel
theorem dX11_nthWinning_11 : decode cX11_nthWinning 11 = .ok (.getfield 94, 3) := by decide +kernel
theorem dX11_nthWinning_14 : decode cX11_nthWinning 14 = .ok (.invokevirtual 276, 3) := by decide +kernel
theorem dX11_nthWinning_17 : decode cX11_nthWinning 17 = .ok (.istore_n 3, 1) := by decide +kernel
theorem dX11_nthWinning_18 : decode cX11_nthWinning 18 = .ok (.iload_n 2, 1) := by decide +kernel
theorem dX11_nthWinning_19 : decode cX11_nthWinning 19 = .ok (.bipush 14, 2) := by decide +kernel
theorem dX11_nthWinning_21 : decode cX11_nthWinning 21 = .ok (.invokestatic 350, 3) := by decide +kernel
theorem dX11_nthWinning_24 : decode cX11_nthWinning 24 = .ok (.istore 4, 2) := by decide +kernel
theorem dX11_nthWinning_26 : decode cX11_nthWinning 26 = .ok (.iload 4, 2) := by decide +kernel
theorem dX11_nthWinning_28 : decode cX11_nthWinning 28 = .ok (.ifCond .le 33, 3) := by decide +kernel
theorem dX11_nthWinning_31 : decode cX11_nthWinning 31 = .ok (.iload_n 3, 1) := by decide +kernel
theorem dX11_nthWinning_32 : decode cX11_nthWinning 32 = .ok (.ifCond .lt 29, 3) := by decide +kernel
theorem dX11_nthWinning_35 : decode cX11_nthWinning 35 = .ok (.aload_n 0, 1) := by decide +kernel
theorem dX11_nthWinning_36 : decode cX11_nthWinning 36 = .ok (.getfield 44, 3) := by decide +kernel
theorem dX11_nthWinning_39 : decode cX11_nthWinning 39 = .ok (.iload_n 3, 1) := by decide +kernel
theorem dX11_nthWinning_40 : decode cX11_nthWinning 40 = .ok (.iconst 1, 1) := by decide +kernel
theorem dX11_nthWinning_41 : decode cX11_nthWinning 41 = .ok (.iadd, 1) := by decide +kernel
theorem dX11_nthWinning_42 : decode cX11_nthWinning 42 = .ok (.iload_n 1, 1) := by decide +kernel
theorem dX11_nthWinning_43 : decode cX11_nthWinning 43 = .ok (.aload_n 0, 1) := by decide +kernel
theorem dX11_nthWinning_44 : decode cX11_nthWinning 44 = .ok (.getfield 91, 3) := by decide +kernel
theorem dX11_nthWinning_47 : decode cX11_nthWinning 47 = .ok (.aload_n 0, 1) := by decide +kernel
theorem dX11_nthWinning_48 : decode cX11_nthWinning 48 = .ok (.getfield 94, 3) := by decide +kernel
theorem dX11_nthWinning_51 : decode cX11_nthWinning 51 = .ok (.invokevirtual 276, 3) := by decide +kernel
theorem dX11_nthWinning_54 : decode cX11_nthWinning 54 = .ok (.istore_n 3, 1) := by decide +kernel
theorem dX11_nthWinning_55 : decode cX11_nthWinning 55 = .ok (.iinc 4 (-1), 3) := by decide +kernel
theorem dX11_nthWinning_58 : decode cX11_nthWinning 58 = .ok (.goto (-32), 3) := by decide +kernel
theorem dX11_nthWinning_61 : decode cX11_nthWinning 61 = .ok (.iload_n 3, 1) := by decide +kernel
theorem dX11_nthWinning_62 : decode cX11_nthWinning 62 = .ok (.ireturn, 1) := by decide +kernel
theorem dX11_setsOf_0 : decode cX11_setsOf 0 = .ok (.aload_n 0, 1) := by decide +kernel
theorem dX11_setsOf_1 : decode cX11_setsOf 1 = .ok (.getfield 60, 3) := by decide +kernel
theorem dX11_setsOf_4 : decode cX11_setsOf 4 = .ok (.aload_n 0, 1) := by decide +kernel
theorem dX11_setsOf_5 : decode cX11_setsOf 5 = .ok (.getfield 91, 3) := by decide +kernel
theorem dX11_setsOf_8 : decode cX11_setsOf 8 = .ok (.aload_n 0, 1) := by decide +kernel
theorem dX11_setsOf_9 : decode cX11_setsOf 9 = .ok (.getfield 94, 3) := by decide +kernel
theorem dX11_setsOf_12 : decode cX11_setsOf 12 = .ok (.invokevirtual 242, 3) := by decide +kernel
theorem dX11_setsOf_15 : decode cX11_setsOf 15 = .ok (.iload_n 2, 1) := by decide +kernel
theorem dX11_setsOf_16 : decode cX11_setsOf 16 = .ok (.iconst (-1), 1) := by decide +kernel
theorem dX11_setsOf_17 : decode cX11_setsOf 17 = .ok (.if_icmp .lt 14, 3) := by decide +kernel
theorem dX11_setsOf_20 : decode cX11_setsOf 20 = .ok (.iload_n 2, 1) := by decide +kernel
theorem dX11_setsOf_21 : decode cX11_setsOf 21 = .ok (.aload_n 0, 1) := by decide +kernel
theorem dX11_setsOf_22 : decode cX11_setsOf 22 = .ok (.getfield 60, 3) := by decide +kernel
theorem dX11_setsOf_25 : decode cX11_setsOf 25 = .ok (.getfield 355, 3) := by decide +kernel
theorem dX11_setsOf_28 : decode cX11_setsOf 28 = .ok (.if_icmp .le 6, 3) := by decide +kernel
theorem dX11_setsOf_31 : decode cX11_setsOf 31 = .ok (.bipush (-2), 2) := by decide +kernel
theorem dX11_setsOf_33 : decode cX11_setsOf 33 = .ok (.ireturn, 1) := by decide +kernel
theorem dX11_setsOf_34 : decode cX11_setsOf 34 = .ok (.iload_n 2, 1) := by decide +kernel
theorem dX11_setsOf_35 : decode cX11_setsOf 35 = .ok (.iconst (-1), 1) := by decide +kernel
theorem dX11_setsOf_36 : decode cX11_setsOf 36 = .ok (.if_icmp .ne 14, 3) := by decide +kernel
theorem dX11_setsOf_39 : decode cX11_setsOf 39 = .ok (.aload_n 0, 1) := by decide +kernel
theorem dX11_setsOf_40 : decode cX11_setsOf 40 = .ok (.getfield 60, 3) := by decide +kernel
theorem dX11_setsOf_43 : decode cX11_setsOf 43 = .ok (.iload_n 1, 1) := by decide +kernel
theorem dX11_setsOf_44 : decode cX11_setsOf 44 = .ok (.invokevirtual 356, 3) := by decide +kernel
theorem dX11_setsOf_47 : decode cX11_setsOf 47 = .ok (.goto 12, 3) := by decide +kernel
theorem dX11_setsOf_50 : decode cX11_setsOf 50 = .ok (.aload_n 0, 1) := by decide +kernel
theorem dX11_setsOf_51 : decode cX11_setsOf 51 = .ok (.getfield 60, 3) := by decide +kernel
theorem dX11_setsOf_54 : decode cX11_setsOf 54 = .ok (.iload_n 1, 1) := by decide +kernel
theorem dX11_setsOf_55 : decode cX11_setsOf 55 = .ok (.iload_n 2, 1) := by decide +kernel
theorem dX11_setsOf_56 : decode cX11_setsOf 56 = .ok (.invokevirtual 358, 3) := by decide +kernel
theorem dX11_setsOf_59 : decode cX11_setsOf 59 = .ok (.ireturn, 1) := by decide +kernel
theorem dX11_has_0 : decode cX11_has 0 = .ok (.iload_n 0, 1) := by decide +kernel
theorem dX11_has_1 : decode cX11_has 1 = .ok (.iload_n 1, 1) := by decide +kernel
theorem dX11_has_2 : decode cX11_has 2 = .ok (.iushr, 1) := by decide +kernel
theorem dX11_has_3 : decode cX11_has 3 = .ok (.iconst 1, 1) := by decide +kernel
theorem dX11_has_4 : decode cX11_has 4 = .ok (.iand, 1) := by decide +kernel
theorem dX11_has_5 : decode cX11_has 5 = .ok (.ifCond .eq 7, 3) := by decide +kernel
theorem dX11_has_8 : decode cX11_has 8 = .ok (.iconst 1, 1) := by decide +kernel
theorem dX11_has_9 : decode cX11_has 9 = .ok (.goto 4, 3) := by decide +kernel
theorem dX11_has_12 : decode cX11_has 12 = .ok (.iconst 0, 1) := by decide +kernel
theorem dX11_has_13 : decode cX11_has 13 = .ok (.ireturn, 1) := by decide +kernel
theorem dX11_nth_0 : decode cX11_nth 0 = .ok (.iload_n 1, 1) := by decide +kernel
theorem dX11_nth_1 : decode cX11_nth 1 = .ok (.istore_n 2, 1) := by decide +kernel
theorem dX11_nth_2 : decode cX11_nth 2 = .ok (.iconst 0, 1) := by decide +kernel
theorem dX11_nth_3 : decode cX11_nth 3 = .ok (.istore_n 3, 1) := by decide +kernel
theorem dX11_nth_4 : decode cX11_nth 4 = .ok (.iload_n 3, 1) := by decide +kernel
theorem dX11_nth_5 : decode cX11_nth 5 = .ok (.bipush 14, 2) := by decide +kernel
theorem dX11_nth_7 : decode cX11_nth 7 = .ok (.if_icmp .ge 26, 3) := by decide +kernel
theorem dX11_nth_10 : decode cX11_nth 10 = .ok (.iload_n 0, 1) := by decide +kernel
theorem dX11_nth_11 : decode cX11_nth 11 = .ok (.iload_n 3, 1) := by decide +kernel
theorem dX11_nth_12 : decode cX11_nth 12 = .ok (.invokestatic 347, 3) := by decide +kernel
theorem dX11_nth_15 : decode cX11_nth 15 = .ok (.ifCond .eq 12, 3) := by decide +kernel
theorem dX11_nth_18 : decode cX11_nth 18 = .ok (.iload_n 2, 1) := by decide +kernel
theorem dX11_nth_19 : decode cX11_nth 19 = .ok (.ifCond .ne 5, 3) := by decide +kernel
theorem dX11_nth_22 : decode cX11_nth 22 = .ok (.iload_n 3, 1) := by decide +kernel
theorem dX11_nth_23 : decode cX11_nth 23 = .ok (.ireturn, 1) := by decide +kernel
theorem dX11_nth_24 : decode cX11_nth 24 = .ok (.iinc 2 (-1), 3) := by decide +kernel
theorem dX11_nth_27 : decode cX11_nth 27 = .ok (.iinc 3 1, 3) := by decide +kernel
theorem dX11_nth_30 : decode cX11_nth 30 = .ok (.goto (-26), 3) := by decide +kernel
theorem dX11_nth_33 : decode cX11_nth 33 = .ok (.bipush (-2), 2) := by decide +kernel
theorem dX11_nth_35 : decode cX11_nth 35 = .ok (.ireturn, 1) := by decide +kernel
theorem dX12_init_0 : decode cX12_init 0 = .ok (.aload_n 0, 1) := by decide +kernel
theorem dX12_init_1 : decode cX12_init 1 = .ok (.invokespecial 1, 3) := by decide +kernel
theorem dX12_init_4 : decode cX12_init 4 = .ok (.aload_n 0, 1) := by decide +kernel
theorem dX12_init_5 : decode cX12_init 5 = .ok (.sipush 600, 3) := by decide +kernel
theorem dX12_init_8 : decode cX12_init 8 = .ok (.newarray .int, 2) := by decide +kernel
theorem dX12_init_10 : decode cX12_init 10 = .ok (.putfield 7, 3) := by decide +kernel
theorem dX12_init_13 : decode cX12_init 13 = .ok (.aload_n 0, 1) := by decide +kernel
theorem dX12_init_14 : decode cX12_init 14 = .ok (.bipush 17, 2) := by decide +kernel
theorem dX12_init_16 : decode cX12_init 16 = .ok (.newarray .int, 2) := by decide +kernel
theorem dX12_init_18 : decode cX12_init 18 = .ok (.putfield 13, 3) := by decide +kernel
theorem dX12_init_21 : decode cX12_init 21 = .ok (.aload_n 0, 1) := by decide +kernel
theorem dX12_init_22 : decode cX12_init 22 = .ok (.bipush 17, 2) := by decide +kernel
theorem dX12_init_24 : decode cX12_init 24 = .ok (.newarray .int, 2) := by decide +kernel
theorem dX12_init_26 : decode cX12_init 26 = .ok (.putfield 16, 3) := by decide +kernel
theorem dX12_init_29 : decode cX12_init 29 = .ok (.aload_n 0, 1) := by decide +kernel
theorem dX12_init_30 : decode cX12_init 30 = .ok (.bipush 40, 2) := by decide +kernel
theorem dX12_init_32 : decode cX12_init 32 = .ok (.newarray .int, 2) := by decide +kernel
theorem dX12_init_34 : decode cX12_init 34 = .ok (.putfield 19, 3) := by decide +kernel
theorem dX12_init_37 : decode cX12_init 37 = .ok (.aload_n 0, 1) := by decide +kernel
theorem dX12_init_38 : decode cX12_init 38 = .ok (.bipush 14, 2) := by decide +kernel
theorem dX12_init_40 : decode cX12_init 40 = .ok (.newarray .int, 2) := by decide +kernel
theorem dX12_init_42 : decode cX12_init 42 = .ok (.putfield 22, 3) := by decide +kernel
theorem dX12_init_45 : decode cX12_init 45 = .ok (.aload_n 0, 1) := by decide +kernel
theorem dX12_init_46 : decode cX12_init 46 = .ok (.bipush 14, 2) := by decide +kernel
theorem dX12_init_48 : decode cX12_init 48 = .ok (.newarray .int, 2) := by decide +kernel
