theorem dX10_init_0 : decode cX10_init 0 = .ok (.aload_n 0, 1) := by decide +kernel
theorem dX10_init_1 : decode cX10_init 1 = .ok (.invokespecial 1, 3) := by decide +kernel
theorem dX10_init_4 : decode cX10_init 4 = .ok (.aload_n 0, 1) := by decide +kernel
theorem dX10_init_5 : decode cX10_init 5 = .ok (.bipush 21, 2) := by decide +kernel
theorem dX10_init_7 : decode cX10_init 7 = .ok (.newarray .boolean, 2) := by decide +kernel
theorem dX10_init_9 : decode cX10_init 9 = .ok (.putfield 7, 3) := by decide +kernel
theorem dX10_init_12 : decode cX10_init 12 = .ok (.aload_n 0, 1) := by decide +kernel
theorem dX10_init_13 : decode cX10_init 13 = .ok (.bipush 12, 2) := by decide +kernel
theorem dX10_init_15 : decode cX10_init 15 = .ok (.newarray .int, 2) := by decide +kernel
theorem dX10_init_17 : decode cX10_init 17 = .ok (.putfield 13, 3) := by decide +kernel
theorem dX10_init_20 : decode cX10_init 20 = .ok (.aload_n 0, 1) := by decide +kernel
theorem dX10_init_21 : decode cX10_init 21 = .ok (.bipush 36, 2) := by decide +kernel
theorem dX10_init_23 : decode cX10_init 23 = .ok (.newarray .int, 2) := by decide +kernel
theorem dX10_init_25 : decode cX10_init 25 = .ok (.putfield 17, 3) := by decide +kernel
theorem dX10_init_28 : decode cX10_init 28 = .ok (.aload_n 0, 1) := by decide +kernel
theorem dX10_init_29 : decode cX10_init 29 = .ok (.bipush 12, 2) := by decide +kernel
theorem dX10_init_31 : decode cX10_init 31 = .ok (.newarray .int, 2) := by decide +kernel
theorem dX10_init_33 : decode cX10_init 33 = .ok (.putfield 20, 3) := by decide +kernel
theorem dX10_init_36 : decode cX10_init 36 = .ok (.aload_n 0, 1) := by decide +kernel
theorem dX10_init_37 : decode cX10_init 37 = .ok (.bipush 12, 2) := by decide +kernel
theorem dX10_init_39 : decode cX10_init 39 = .ok (.newarray .int, 2) := by decide +kernel
theorem dX10_init_41 : decode cX10_init 41 = .ok (.putfield 23, 3) := by decide +kernel
theorem dX10_init_44 : decode cX10_init 44 = .ok (.aload_n 0, 1) := by decide +kernel
theorem dX10_init_45 : decode cX10_init 45 = .ok (.bipush 12, 2) := by decide +kernel
theorem dX10_init_47 : decode cX10_init 47 = .ok (.newarray .boolean, 2) := by decide +kernel
theorem dX10_init_49 : decode cX10_init 49 = .ok (.putfield 26, 3) := by decide +kernel
theorem dX10_init_52 : decode cX10_init 52 = .ok (.aload_n 0, 1) := by decide +kernel
theorem dX10_init_53 : decode cX10_init 53 = .ok (.bipush 24, 2) := by decide +kernel
theorem dX10_init_55 : decode cX10_init 55 = .ok (.newarray .int, 2) := by decide +kernel
theorem dX10_init_57 : decode cX10_init 57 = .ok (.putfield 29, 3) := by decide +kernel
theorem dX10_init_60 : decode cX10_init 60 = .ok (.aload_n 0, 1) := by decide +kernel
theorem dX10_init_61 : decode cX10_init 61 = .ok (.bipush 24, 2) := by decide +kernel
theorem dX10_init_63 : decode cX10_init 63 = .ok (.newarray .int, 2) := by decide +kernel
theorem dX10_init_65 : decode cX10_init 65 = .ok (.putfield 32, 3) := by decide +kernel
theorem dX10_init_68 : decode cX10_init 68 = .ok (.aload_n 0, 1) := by decide +kernel
theorem dX10_init_69 : decode cX10_init 69 = .ok (.bipush 72, 2) := by decide +kernel
theorem dX10_init_71 : decode cX10_init 71 = .ok (.newarray .int, 2) := by decide +kernel
theorem dX10_init_73 : decode cX10_init 73 = .ok (.putfield 35, 3) := by decide +kernel
theorem dX10_init_76 : decode cX10_init 76 = .ok (.aload_n 0, 1) := by decide +kernel
theorem dX10_init_77 : decode cX10_init 77 = .ok (.bipush 24, 2) := by decide +kernel
theorem dX10_init_79 : decode cX10_init 79 = .ok (.newarray .int, 2) := by decide +kernel
theorem dX10_init_81 : decode cX10_init 81 = .ok (.putfield 38, 3) := by decide +kernel
theorem dX10_init_84 : decode cX10_init 84 = .ok (.aload_n 0, 1) := by decide +kernel
theorem dX10_init_85 : decode cX10_init 85 = .ok (.bipush 24, 2) := by decide +kernel
theorem dX10_init_87 : decode cX10_init 87 = .ok (.newarray .int, 2) := by decide +kernel
theorem dX10_init_89 : decode cX10_init 89 = .ok (.putfield 41, 3) := by decide +kernel
theorem dX10_init_92 : decode cX10_init 92 = .ok (.aload_n 0, 1) := by decide +kernel
theorem dX10_init_93 : decode cX10_init 93 = .ok (.bipush 24, 2) := by decide +kernel
theorem dX10_init_95 : decode cX10_init 95 = .ok (.newarray .int, 2) := by decide +kernel
theorem dX10_init_97 : decode cX10_init 97 = .ok (.putfield 44, 3) := by decide +kernel
theorem dX10_init_100 : decode cX10_init 100 = .ok (.aload_n 0, 1) := by decide +kernel
theorem dX10_init_101 : decode cX10_init 101 = .ok (.bipush 24, 2) := by decide +kernel
theorem dX10_init_103 : decode cX10_init 103 = .ok (.newarray .int, 2) := by decide +kernel
theorem dX10_init_105 : decode cX10_init 105 = .ok (.putfield 47, 3) := by decide +kernel
theorem dX10_init_108 : decode cX10_init 108 = .ok (.aload_n 0, 1) := by decide +kernel
theorem dX10_init_109 : decode cX10_init 109 = .ok (.bipush 24, 2) := by decide +kernel
theorem dX10_init_111 : decode cX10_init 111 = .ok (.newarray .int, 2) := by decide +kernel
theorem dX10_init_113 : decode cX10_init 113 = .ok (.putfield 50, 3) := by decide +kernel
theorem dX10_init_116 : decode cX10_init 116 = .ok (.aload_n 0, 1) := by decide +kernel
theorem dX10_init_117 : decode cX10_init 117 = .ok (.sipush 16384, 3) := by decide +kernel
theorem dX10_init_120 : decode cX10_init 120 = .ok (.newarray .boolean, 2) := by decide +kernel
theorem dX10_init_122 : decode cX10_init 122 = .ok (.putfield 53, 3) := by decide +kernel
theorem dX10_init_125 : decode cX10_init 125 = .ok (.aload_n 0, 1) := by decide +kernel
theorem dX10_init_126 : decode cX10_init 126 = .ok (.sipush 16384, 3) := by decide +kernel
theorem dX10_init_129 : decode cX10_init 129 = .ok (.newarray .boolean, 2) := by decide +kernel
theorem dX10_init_131 : decode cX10_init 131 = .ok (.putfield 56, 3) := by decide +kernel
theorem dX10_init_134 : decode cX10_init 134 = .ok (.return_, 1) := by decide +kernel
theorem dX10_thrown_0 : decode cX10_thrown 0 = .ok (.aload_n 0, 1) := by decide +kernel
theorem dX10_thrown_1 : decode cX10_thrown 1 = .ok (.getfield 59, 3) := by decide +kernel
theorem dX10_thrown_4 : decode cX10_thrown 4 = .ok (.ireturn, 1) := by decide +kernel
theorem dX10_isLiteral_0 : decode cX10_isLiteral 0 = .ok (.iload_n 0, 1) := by decide +kernel
theorem dX10_isLiteral_1 : decode cX10_isLiteral 1 = .ok (.ifCond .eq 19, 3) := by decide +kernel
theorem dX10_isLiteral_4 : decode cX10_isLiteral 4 = .ok (.iload_n 0, 1) := by decide +kernel
theorem dX10_isLiteral_5 : decode cX10_isLiteral 5 = .ok (.bipush (-10), 2) := by decide +kernel
theorem dX10_isLiteral_7 : decode cX10_isLiteral 7 = .ok (.if_icmp .lt 13, 3) := by decide +kernel
theorem dX10_isLiteral_10 : decode cX10_isLiteral 10 = .ok (.iload_n 0, 1) := by decide +kernel
theorem dX10_isLiteral_11 : decode cX10_isLiteral 11 = .ok (.bipush 10, 2) := by decide +kernel
theorem dX10_isLiteral_13 : decode cX10_isLiteral 13 = .ok (.if_icmp .gt 7, 3) := by decide +kernel
theorem dX10_isLiteral_16 : decode cX10_isLiteral 16 = .ok (.iconst 1, 1) := by decide +kernel
theorem dX10_isLiteral_17 : decode cX10_isLiteral 17 = .ok (.goto 4, 3) := by decide +kernel
theorem dX10_isLiteral_20 : decode cX10_isLiteral 20 = .ok (.iconst 0, 1) := by decide +kernel
theorem dX10_isLiteral_21 : decode cX10_isLiteral 21 = .ok (.ireturn, 1) := by decide +kernel
theorem dX10_isLiteralOrNone_0 : decode cX10_isLiteralOrNone 0 = .ok (.iload_n 0, 1) := by decide +kernel
theorem dX10_isLiteralOrNone_1 : decode cX10_isLiteralOrNone 1 = .ok (.bipush (-10), 2) := by decide +kernel
theorem dX10_isLiteralOrNone_3 : decode cX10_isLiteralOrNone 3 = .ok (.if_icmp .lt 13, 3) := by decide +kernel
theorem dX10_isLiteralOrNone_6 : decode cX10_isLiteralOrNone 6 = .ok (.iload_n 0, 1) := by decide +kernel
theorem dX10_isLiteralOrNone_7 : decode cX10_isLiteralOrNone 7 = .ok (.bipush 10, 2) := by decide +kernel
theorem dX10_isLiteralOrNone_9 : decode cX10_isLiteralOrNone 9 = .ok (.if_icmp .gt 7, 3) := by decide +kernel
theorem dX10_isLiteralOrNone_12 : decode cX10_isLiteralOrNone 12 = .ok (.iconst 1, 1) := by decide +kernel
theorem dX10_isLiteralOrNone_13 : decode cX10_isLiteralOrNone 13 = .ok (.goto 4, 3) := by decide +kernel
theorem dX10_isLiteralOrNone_16 : decode cX10_isLiteralOrNone 16 = .ok (.iconst 0, 1) := by decide +kernel
theorem dX10_isLiteralOrNone_17 : decode cX10_isLiteralOrNone 17 = .ok (.ireturn, 1) := by decide +kernel
theorem dX10_passes_0 : decode cX10_passes 0 = .ok (.aload_n 0, 1) := by decide +kernel
theorem dX10_passes_1 : decode cX10_passes 1 = .ok (.iload_n 1, 1) := by decide +kernel
theorem dX10_passes_2 : decode cX10_passes 2 = .ok (.putfield 59, 3) := by decide +kernel
theorem dX10_passes_5 : decode cX10_passes 5 = .ok (.iload_n 1, 1) := by decide +kernel
theorem dX10_passes_6 : decode cX10_passes 6 = .ok (.ifCond .ne 7, 3) := by decide +kernel
theorem dX10_passes_9 : decode cX10_passes 9 = .ok (.iconst 1, 1) := by decide +kernel
theorem dX10_passes_10 : decode cX10_passes 10 = .ok (.goto 4, 3) := by decide +kernel
theorem dX10_passes_13 : decode cX10_passes 13 = .ok (.iconst 0, 1) := by decide +kernel
theorem dX10_passes_14 : decode cX10_passes 14 = .ok (.ireturn, 1) := by decide +kernel
theorem dX10_factsNow_0 : decode cX10_factsNow 0 = .ok (.iconst 0, 1) := by decide +kernel
theorem dX10_factsNow_1 : decode cX10_factsNow 1 = .ok (.istore_n 1, 1) := by decide +kernel
theorem dX10_factsNow_2 : decode cX10_factsNow 2 = .ok (.iconst 0, 1) := by decide +kernel
theorem dX10_factsNow_3 : decode cX10_factsNow 3 = .ok (.istore_n 2, 1) := by decide +kernel
theorem dX10_factsNow_4 : decode cX10_factsNow 4 = .ok (.iload_n 2, 1) := by decide +kernel
theorem dX10_factsNow_5 : decode cX10_factsNow 5 = .ok (.bipush 21, 2) := by decide +kernel
theorem dX10_factsNow_7 : decode cX10_factsNow 7 = .ok (.if_icmp .ge 26, 3) := by decide +kernel
theorem dX10_factsNow_10 : decode cX10_factsNow 10 = .ok (.iload_n 1, 1) := by decide +kernel
theorem dX10_factsNow_11 : decode cX10_factsNow 11 = .ok (.aload_n 0, 1) := by decide +kernel
theorem dX10_factsNow_12 : decode cX10_factsNow 12 = .ok (.getfield 7, 3) := by decide +kernel
theorem dX10_factsNow_15 : decode cX10_factsNow 15 = .ok (.iload_n 2, 1) := by decide +kernel
theorem dX10_factsNow_16 : decode cX10_factsNow 16 = .ok (.baload, 1) := by decide +kernel
theorem dX10_factsNow_17 : decode cX10_factsNow 17 = .ok (.ifCond .eq 7, 3) := by decide +kernel
theorem dX10_factsNow_20 : decode cX10_factsNow 20 = .ok (.iconst 1, 1) := by decide +kernel
theorem dX10_factsNow_21 : decode cX10_factsNow 21 = .ok (.goto 4, 3) := by decide +kernel
theorem dX10_factsNow_24 : decode cX10_factsNow 24 = .ok (.iconst 0, 1) := by decide +kernel
theorem dX10_factsNow_25 : decode cX10_factsNow 25 = .ok (.iadd, 1) := by decide +kernel
theorem dX10_factsNow_26 : decode cX10_factsNow 26 = .ok (.istore_n 1, 1) := by decide +kernel
theorem dX10_factsNow_27 : decode cX10_factsNow 27 = .ok (.iinc 2 1, 3) := by decide +kernel
theorem dX10_factsNow_30 : decode cX10_factsNow 30 = .ok (.goto (-26), 3) := by decide +kernel
theorem dX10_factsNow_33 : decode cX10_factsNow 33 = .ok (.iload_n 1, 1) := by decide +kernel
theorem dX10_factsNow_34 : decode cX10_factsNow 34 = .ok (.ireturn, 1) := by decide +kernel
theorem dX10_addFact_0 : decode cX10_addFact 0 = .ok (.iload_n 1, 1) := by decide +kernel
theorem dX10_addFact_1 : decode cX10_addFact 1 = .ok (.invokestatic 63, 3) := by decide +kernel
theorem dX10_addFact_4 : decode cX10_addFact 4 = .ok (.istore_n 2, 1) := by decide +kernel
theorem dX10_addFact_5 : decode cX10_addFact 5 = .ok (.aload_n 0, 1) := by decide +kernel
theorem dX10_addFact_6 : decode cX10_addFact 6 = .ok (.iload_n 2, 1) := by decide +kernel
theorem dX10_addFact_7 : decode cX10_addFact 7 = .ok (.ifCond .ne 7, 3) := by decide +kernel
theorem dX10_addFact_10 : decode cX10_addFact 10 = .ok (.iconst 1, 1) := by decide +kernel
theorem dX10_addFact_11 : decode cX10_addFact 11 = .ok (.goto 32, 3) := by decide +kernel
theorem dX10_addFact_14 : decode cX10_addFact 14 = .ok (.aload_n 0, 1) := by decide +kernel
theorem dX10_addFact_15 : decode cX10_addFact 15 = .ok (.getfield 7, 3) := by decide +kernel
theorem dX10_addFact_18 : decode cX10_addFact 18 = .ok (.bipush 10, 2) := by decide +kernel
theorem dX10_addFact_20 : decode cX10_addFact 20 = .ok (.iload_n 1, 1) := by decide +kernel
theorem dX10_addFact_21 : decode cX10_addFact 21 = .ok (.iadd, 1) := by decide +kernel
theorem dX10_addFact_22 : decode cX10_addFact 22 = .ok (.baload, 1) := by decide +kernel
theorem dX10_addFact_23 : decode cX10_addFact 23 = .ok (.ifCond .ne 15, 3) := by decide +kernel
theorem dX10_addFact_26 : decode cX10_addFact 26 = .ok (.aload_n 0, 1) := by decide +kernel
theorem dX10_addFact_27 : decode cX10_addFact 27 = .ok (.getfield 7, 3) := by decide +kernel
theorem dX10_addFact_30 : decode cX10_addFact 30 = .ok (.bipush 10, 2) := by decide +kernel
theorem dX10_addFact_32 : decode cX10_addFact 32 = .ok (.iload_n 1, 1) := by decide +kernel
theorem dX10_addFact_33 : decode cX10_addFact 33 = .ok (.isub, 1) := by decide +kernel
theorem dX10_addFact_34 : decode cX10_addFact 34 = .ok (.baload, 1) := by decide +kernel
theorem dX10_addFact_35 : decode cX10_addFact 35 = .ok (.ifCond .eq 7, 3) := by decide +kernel
theorem dX10_addFact_38 : decode cX10_addFact 38 = .ok (.iconst 2, 1) := by decide +kernel
theorem dX10_addFact_39 : decode cX10_addFact 39 = .ok (.goto 4, 3) := by decide +kernel
theorem dX10_addFact_42 : decode cX10_addFact 42 = .ok (.iconst 0, 1) := by decide +kernel
theorem dX10_addFact_43 : decode cX10_addFact 43 = .ok (.invokevirtual 67, 3) := by decide +kernel
theorem dX10_addFact_46 : decode cX10_addFact 46 = .ok (.ifCond .ne 5, 3) := by decide +kernel
theorem dX10_addFact_49 : decode cX10_addFact 49 = .ok (.iconst 0, 1) := by decide +kernel
theorem dX10_addFact_50 : decode cX10_addFact 50 = .ok (.ireturn, 1) := by decide +kernel
theorem dX10_addFact_51 : decode cX10_addFact 51 = .ok (.aload_n 0, 1) := by decide +kernel
theorem dX10_addFact_52 : decode cX10_addFact 52 = .ok (.getfield 7, 3) := by decide +kernel
theorem dX10_addFact_55 : decode cX10_addFact 55 = .ok (.bipush 10, 2) := by decide +kernel
theorem dX10_addFact_57 : decode cX10_addFact 57 = .ok (.iload_n 1, 1) := by decide +kernel
theorem dX10_addFact_58 : decode cX10_addFact 58 = .ok (.iadd, 1) := by decide +kernel
theorem dX10_addFact_59 : decode cX10_addFact 59 = .ok (.iconst 1, 1) := by decide +kernel
theorem dX10_addFact_60 : decode cX10_addFact 60 = .ok (.bastore, 1) := by decide +kernel
theorem dX10_addFact_61 : decode cX10_addFact 61 = .ok (.aload_n 0, 1) := by decide +kernel
theorem dX10_addFact_62 : decode cX10_addFact 62 = .ok (.invokevirtual 70, 3) := by decide +kernel
theorem dX10_addFact_65 : decode cX10_addFact 65 = .ok (.ireturn, 1) := by decide +kernel
theorem dX10_takeBack_0 : decode cX10_takeBack 0 = .ok (.aload_n 0, 1) := by decide +kernel
theorem dX10_takeBack_1 : decode cX10_takeBack 1 = .ok (.iload_n 1, 1) := by decide +kernel
theorem dX10_takeBack_2 : decode cX10_takeBack 2 = .ok (.invokestatic 63, 3) := by decide +kernel
theorem dX10_takeBack_5 : decode cX10_takeBack 5 = .ok (.ifCond .eq 7, 3) := by decide +kernel
theorem dX10_takeBack_8 : decode cX10_takeBack 8 = .ok (.iconst 0, 1) := by decide +kernel
theorem dX10_takeBack_9 : decode cX10_takeBack 9 = .ok (.goto 4, 3) := by decide +kernel
theorem dX10_takeBack_12 : decode cX10_takeBack 12 = .ok (.iconst 1, 1) := by decide +kernel
theorem dX10_takeBack_13 : decode cX10_takeBack 13 = .ok (.invokevirtual 67, 3) := by decide +kernel
theorem dX10_takeBack_16 : decode cX10_takeBack 16 = .ok (.ifCond .ne 5, 3) := by decide +kernel
theorem dX10_takeBack_19 : decode cX10_takeBack 19 = .ok (.iconst 0, 1) := by decide +kernel
theorem dX10_takeBack_20 : decode cX10_takeBack 20 = .ok (.ireturn, 1) := by decide +kernel
theorem dX10_takeBack_21 : decode cX10_takeBack 21 = .ok (.aload_n 0, 1) := by decide +kernel
theorem dX10_takeBack_22 : decode cX10_takeBack 22 = .ok (.getfield 7, 3) := by decide +kernel
theorem dX10_takeBack_25 : decode cX10_takeBack 25 = .ok (.bipush 10, 2) := by decide +kernel
theorem dX10_takeBack_27 : decode cX10_takeBack 27 = .ok (.iload_n 1, 1) := by decide +kernel
theorem dX10_takeBack_28 : decode cX10_takeBack 28 = .ok (.iadd, 1) := by decide +kernel
theorem dX10_takeBack_29 : decode cX10_takeBack 29 = .ok (.baload, 1) := by decide +kernel
theorem dX10_takeBack_30 : decode cX10_takeBack 30 = .ok (.istore_n 2, 1) := by decide +kernel
theorem dX10_takeBack_31 : decode cX10_takeBack 31 = .ok (.aload_n 0, 1) := by decide +kernel
theorem dX10_takeBack_32 : decode cX10_takeBack 32 = .ok (.getfield 7, 3) := by decide +kernel
theorem dX10_takeBack_35 : decode cX10_takeBack 35 = .ok (.bipush 10, 2) := by decide +kernel
theorem dX10_takeBack_37 : decode cX10_takeBack 37 = .ok (.iload_n 1, 1) := by decide +kernel
theorem dX10_takeBack_38 : decode cX10_takeBack 38 = .ok (.iadd, 1) := by decide +kernel
theorem dX10_takeBack_39 : decode cX10_takeBack 39 = .ok (.iconst 0, 1) := by decide +kernel
theorem dX10_takeBack_40 : decode cX10_takeBack 40 = .ok (.bastore, 1) := by decide +kernel
theorem dX10_takeBack_41 : decode cX10_takeBack 41 = .ok (.iload_n 2, 1) := by decide +kernel
theorem dX10_takeBack_42 : decode cX10_takeBack 42 = .ok (.ireturn, 1) := by decide +kernel
theorem dX10_addRule_0 : decode cX10_addRule 0 = .ok (.iload_n 1, 1) := by decide +kernel
theorem dX10_addRule_1 : decode cX10_addRule 1 = .ok (.invokestatic 63, 3) := by decide +kernel
theorem dX10_addRule_4 : decode cX10_addRule 4 = .ok (.ifCond .eq 41, 3) := by decide +kernel
theorem dX10_addRule_7 : decode cX10_addRule 7 = .ok (.iload_n 2, 1) := by decide +kernel
theorem dX10_addRule_8 : decode cX10_addRule 8 = .ok (.invokestatic 74, 3) := by decide +kernel
theorem dX10_addRule_11 : decode cX10_addRule 11 = .ok (.ifCond .eq 34, 3) := by decide +kernel
theorem dX10_addRule_14 : decode cX10_addRule 14 = .ok (.iload_n 3, 1) := by decide +kernel
theorem dX10_addRule_15 : decode cX10_addRule 15 = .ok (.invokestatic 74, 3) := by decide +kernel
theorem dX10_addRule_18 : decode cX10_addRule 18 = .ok (.ifCond .eq 27, 3) := by decide +kernel
theorem dX10_addRule_21 : decode cX10_addRule 21 = .ok (.iload 4, 2) := by decide +kernel
theorem dX10_addRule_23 : decode cX10_addRule 23 = .ok (.invokestatic 74, 3) := by decide +kernel
theorem dX10_addRule_26 : decode cX10_addRule 26 = .ok (.ifCond .eq 19, 3) := by decide +kernel
theorem dX10_addRule_29 : decode cX10_addRule 29 = .ok (.iload 5, 2) := by decide +kernel
theorem dX10_addRule_31 : decode cX10_addRule 31 = .ok (.ifCond .lt 14, 3) := by decide +kernel
theorem dX10_addRule_34 : decode cX10_addRule 34 = .ok (.iload 5, 2) := by decide +kernel
theorem dX10_addRule_36 : decode cX10_addRule 36 = .ok (.bipush 9, 2) := by decide +kernel
theorem dX10_addRule_38 : decode cX10_addRule 38 = .ok (.if_icmp .gt 7, 3) := by decide +kernel
theorem dX10_addRule_41 : decode cX10_addRule 41 = .ok (.iconst 1, 1) := by decide +kernel
theorem dX10_addRule_42 : decode cX10_addRule 42 = .ok (.goto 4, 3) := by decide +kernel
theorem dX10_addRule_45 : decode cX10_addRule 45 = .ok (.iconst 0, 1) := by decide +kernel
theorem dX10_addRule_46 : decode cX10_addRule 46 = .ok (.istore 6, 2) := by decide +kernel
theorem dX10_addRule_48 : decode cX10_addRule 48 = .ok (.iload_n 2, 1) := by decide +kernel
theorem dX10_addRule_49 : decode cX10_addRule 49 = .ok (.ifCond .ne 7, 3) := by decide +kernel
theorem dX10_addRule_52 : decode cX10_addRule 52 = .ok (.iload_n 3, 1) := by decide +kernel
theorem dX10_addRule_53 : decode cX10_addRule 53 = .ok (.ifCond .ne 16, 3) := by decide +kernel
theorem dX10_addRule_56 : decode cX10_addRule 56 = .ok (.iload_n 3, 1) := by decide +kernel
theorem dX10_addRule_57 : decode cX10_addRule 57 = .ok (.ifCond .ne 8, 3) := by decide +kernel
theorem dX10_addRule_60 : decode cX10_addRule 60 = .ok (.iload 4, 2) := by decide +kernel
theorem dX10_addRule_62 : decode cX10_addRule 62 = .ok (.ifCond .ne 7, 3) := by decide +kernel
theorem dX10_addRule_65 : decode cX10_addRule 65 = .ok (.iconst 1, 1) := by decide +kernel
theorem dX10_addRule_66 : decode cX10_addRule 66 = .ok (.goto 4, 3) := by decide +kernel
theorem dX10_addRule_69 : decode cX10_addRule 69 = .ok (.iconst 0, 1) := by decide +kernel
theorem dX10_addRule_70 : decode cX10_addRule 70 = .ok (.istore 7, 2) := by decide +kernel
theorem dX10_addRule_72 : decode cX10_addRule 72 = .ok (.iload_n 2, 1) := by decide +kernel
theorem dX10_addRule_73 : decode cX10_addRule 73 = .ok (.ifCond .eq 14, 3) := by decide +kernel
theorem dX10_addRule_76 : decode cX10_addRule 76 = .ok (.iload_n 2, 1) := by decide +kernel
theorem dX10_addRule_77 : decode cX10_addRule 77 = .ok (.iload_n 3, 1) := by decide +kernel
theorem dX10_addRule_78 : decode cX10_addRule 78 = .ok (.if_icmp .eq 19, 3) := by decide +kernel
theorem dX10_addRule_81 : decode cX10_addRule 81 = .ok (.iload_n 2, 1) := by decide +kernel
theorem dX10_addRule_82 : decode cX10_addRule 82 = .ok (.iload 4, 2) := by decide +kernel
theorem dX10_addRule_84 : decode cX10_addRule 84 = .ok (.if_icmp .eq 13, 3) := by decide +kernel
theorem dX10_addRule_87 : decode cX10_addRule 87 = .ok (.iload_n 3, 1) := by decide +kernel
theorem dX10_addRule_88 : decode cX10_addRule 88 = .ok (.ifCond .eq 13, 3) := by decide +kernel
theorem dX10_addRule_91 : decode cX10_addRule 91 = .ok (.iload_n 3, 1) := by decide +kernel
theorem dX10_addRule_92 : decode cX10_addRule 92 = .ok (.iload 4, 2) := by decide +kernel
theorem dX10_addRule_94 : decode cX10_addRule 94 = .ok (.if_icmp .ne 7, 3) := by decide +kernel
theorem dX10_addRule_97 : decode cX10_addRule 97 = .ok (.iconst 1, 1) := by decide +kernel
theorem dX10_addRule_98 : decode cX10_addRule 98 = .ok (.goto 4, 3) := by decide +kernel
theorem dX10_addRule_101 : decode cX10_addRule 101 = .ok (.iconst 0, 1) := by decide +kernel
theorem dX10_addRule_102 : decode cX10_addRule 102 = .ok (.istore 8, 2) := by decide +kernel
theorem dX10_addRule_104 : decode cX10_addRule 104 = .ok (.aload_n 0, 1) := by decide +kernel
theorem dX10_addRule_105 : decode cX10_addRule 105 = .ok (.iload 6, 2) := by decide +kernel
theorem dX10_addRule_107 : decode cX10_addRule 107 = .ok (.ifCond .eq 13, 3) := by decide +kernel
theorem dX10_addRule_110 : decode cX10_addRule 110 = .ok (.iload 7, 2) := by decide +kernel
theorem dX10_addRule_112 : decode cX10_addRule 112 = .ok (.ifCond .eq 8, 3) := by decide +kernel
theorem dX10_addRule_115 : decode cX10_addRule 115 = .ok (.iload 8, 2) := by decide +kernel
theorem dX10_addRule_117 : decode cX10_addRule 117 = .ok (.ifCond .eq 7, 3) := by decide +kernel
theorem dX10_addRule_120 : decode cX10_addRule 120 = .ok (.iconst 1, 1) := by decide +kernel
theorem dX10_addRule_121 : decode cX10_addRule 121 = .ok (.goto 17, 3) := by decide +kernel
theorem dX10_addRule_124 : decode cX10_addRule 124 = .ok (.aload_n 0, 1) := by decide +kernel
theorem dX10_addRule_125 : decode cX10_addRule 125 = .ok (.getfield 77, 3) := by decide +kernel
theorem dX10_addRule_128 : decode cX10_addRule 128 = .ok (.bipush 12, 2) := by decide +kernel
theorem dX10_addRule_130 : decode cX10_addRule 130 = .ok (.if_icmp .ne 7, 3) := by decide +kernel
theorem dX10_addRule_133 : decode cX10_addRule 133 = .ok (.iconst 2, 1) := by decide +kernel
theorem dX10_addRule_134 : decode cX10_addRule 134 = .ok (.goto 4, 3) := by decide +kernel
theorem dX10_addRule_137 : decode cX10_addRule 137 = .ok (.iconst 0, 1) := by decide +kernel
theorem dX10_addRule_138 : decode cX10_addRule 138 = .ok (.invokevirtual 67, 3) := by decide +kernel
theorem dX10_addRule_141 : decode cX10_addRule 141 = .ok (.ifCond .ne 5, 3) := by decide +kernel
theorem dX10_addRule_144 : decode cX10_addRule 144 = .ok (.iconst 0, 1) := by decide +kernel
theorem dX10_addRule_145 : decode cX10_addRule 145 = .ok (.ireturn, 1) := by decide +kernel
theorem dX10_addRule_146 : decode cX10_addRule 146 = .ok (.aload_n 0, 1) := by decide +kernel
theorem dX10_addRule_147 : decode cX10_addRule 147 = .ok (.getfield 13, 3) := by decide +kernel
theorem dX10_addRule_150 : decode cX10_addRule 150 = .ok (.aload_n 0, 1) := by decide +kernel
theorem dX10_addRule_151 : decode cX10_addRule 151 = .ok (.getfield 77, 3) := by decide +kernel
theorem dX10_addRule_154 : decode cX10_addRule 154 = .ok (.iload_n 1, 1) := by decide +kernel
theorem dX10_addRule_155 : decode cX10_addRule 155 = .ok (.iastore, 1) := by decide +kernel
theorem dX10_addRule_156 : decode cX10_addRule 156 = .ok (.aload_n 0, 1) := by decide +kernel
theorem dX10_addRule_157 : decode cX10_addRule 157 = .ok (.getfield 17, 3) := by decide +kernel
theorem dX10_addRule_160 : decode cX10_addRule 160 = .ok (.iconst 3, 1) := by decide +kernel
theorem dX10_addRule_161 : decode cX10_addRule 161 = .ok (.aload_n 0, 1) := by decide +kernel
theorem dX10_addRule_162 : decode cX10_addRule 162 = .ok (.getfield 77, 3) := by decide +kernel
theorem dX10_addRule_165 : decode cX10_addRule 165 = .ok (.imul, 1) := by decide +kernel
theorem dX10_addRule_166 : decode cX10_addRule 166 = .ok (.iload_n 2, 1) := by decide +kernel
theorem dX10_addRule_167 : decode cX10_addRule 167 = .ok (.iastore, 1) := by decide +kernel
theorem dX10_addRule_168 : decode cX10_addRule 168 = .ok (.aload_n 0, 1) := by decide +kernel
theorem dX10_addRule_169 : decode cX10_addRule 169 = .ok (.getfield 17, 3) := by decide +kernel
theorem dX10_addRule_172 : decode cX10_addRule 172 = .ok (.iconst 3, 1) := by decide +kernel
theorem dX10_addRule_173 : decode cX10_addRule 173 = .ok (.aload_n 0, 1) := by decide +kernel
theorem dX10_addRule_174 : decode cX10_addRule 174 = .ok (.getfield 77, 3) := by decide +kernel
theorem dX10_addRule_177 : decode cX10_addRule 177 = .ok (.imul, 1) := by decide +kernel
theorem dX10_addRule_178 : decode cX10_addRule 178 = .ok (.iconst 1, 1) := by decide +kernel
theorem dX10_addRule_179 : decode cX10_addRule 179 = .ok (.iadd, 1) := by decide +kernel
theorem dX10_addRule_180 : decode cX10_addRule 180 = .ok (.iload_n 3, 1) := by decide +kernel
theorem dX10_addRule_181 : decode cX10_addRule 181 = .ok (.iastore, 1) := by decide +kernel
theorem dX10_addRule_182 : decode cX10_addRule 182 = .ok (.aload_n 0, 1) := by decide +kernel
theorem dX10_addRule_183 : decode cX10_addRule 183 = .ok (.getfield 17, 3) := by decide +kernel
theorem dX10_addRule_186 : decode cX10_addRule 186 = .ok (.iconst 3, 1) := by decide +kernel
theorem dX10_addRule_187 : decode cX10_addRule 187 = .ok (.aload_n 0, 1) := by decide +kernel
theorem dX10_addRule_188 : decode cX10_addRule 188 = .ok (.getfield 77, 3) := by decide +kernel
theorem dX10_addRule_191 : decode cX10_addRule 191 = .ok (.imul, 1) := by decide +kernel
theorem dX10_addRule_192 : decode cX10_addRule 192 = .ok (.iconst 2, 1) := by decide +kernel
theorem dX10_addRule_193 : decode cX10_addRule 193 = .ok (.iadd, 1) := by decide +kernel
theorem dX10_addRule_194 : decode cX10_addRule 194 = .ok (.iload 4, 2) := by decide +kernel
theorem dX10_addRule_196 : decode cX10_addRule 196 = .ok (.iastore, 1) := by decide +kernel
theorem dX10_addRule_197 : decode cX10_addRule 197 = .ok (.aload_n 0, 1) := by decide +kernel
theorem dX10_addRule_198 : decode cX10_addRule 198 = .ok (.getfield 20, 3) := by decide +kernel
theorem dX10_addRule_201 : decode cX10_addRule 201 = .ok (.aload_n 0, 1) := by decide +kernel
theorem dX10_addRule_202 : decode cX10_addRule 202 = .ok (.getfield 77, 3) := by decide +kernel
theorem dX10_addRule_205 : decode cX10_addRule 205 = .ok (.iload 5, 2) := by decide +kernel
theorem dX10_addRule_207 : decode cX10_addRule 207 = .ok (.iastore, 1) := by decide +kernel
theorem dX10_addRule_208 : decode cX10_addRule 208 = .ok (.aload_n 0, 1) := by decide +kernel
theorem dX10_addRule_209 : decode cX10_addRule 209 = .ok (.getfield 23, 3) := by decide +kernel
theorem dX10_addRule_212 : decode cX10_addRule 212 = .ok (.aload_n 0, 1) := by decide +kernel
theorem dX10_addRule_213 : decode cX10_addRule 213 = .ok (.getfield 77, 3) := by decide +kernel
theorem dX10_addRule_216 : decode cX10_addRule 216 = .ok (.iconst 0, 1) := by decide +kernel
theorem dX10_addRule_217 : decode cX10_addRule 217 = .ok (.iastore, 1) := by decide +kernel
theorem dX10_addRule_218 : decode cX10_addRule 218 = .ok (.aload_n 0, 1) := by decide +kernel
theorem dX10_addRule_219 : decode cX10_addRule 219 = .ok (.getfield 26, 3) := by decide +kernel
theorem dX10_addRule_222 : decode cX10_addRule 222 = .ok (.aload_n 0, 1) := by decide +kernel
theorem dX10_addRule_223 : decode cX10_addRule 223 = .ok (.getfield 77, 3) := by decide +kernel
theorem dX10_addRule_226 : decode cX10_addRule 226 = .ok (.iconst 1, 1) := by decide +kernel
theorem dX10_addRule_227 : decode cX10_addRule 227 = .ok (.bastore, 1) := by decide +kernel
theorem dX10_addRule_228 : decode cX10_addRule 228 = .ok (.aload_n 0, 1) := by decide +kernel
theorem dX10_addRule_229 : decode cX10_addRule 229 = .ok (.dup, 1) := by decide +kernel
theorem dX10_addRule_230 : decode cX10_addRule 230 = .ok (.getfield 77, 3) := by decide +kernel
theorem dX10_addRule_233 : decode cX10_addRule 233 = .ok (.iconst 1, 1) := by decide +kernel
theorem dX10_addRule_234 : decode cX10_addRule 234 = .ok (.iadd, 1) := by decide +kernel
theorem dX10_addRule_235 : decode cX10_addRule 235 = .ok (.putfield 77, 3) := by decide +kernel
theorem dX10_addRule_238 : decode cX10_addRule 238 = .ok (.aload_n 0, 1) := by decide +kernel
theorem dX10_addRule_239 : decode cX10_addRule 239 = .ok (.getfield 77, 3) := by decide +kernel
theorem dX10_addRule_242 : decode cX10_addRule 242 = .ok (.iconst 1, 1) := by decide +kernel
theorem dX10_addRule_243 : decode cX10_addRule 243 = .ok (.isub, 1) := by decide +kernel
theorem dX10_addRule_244 : decode cX10_addRule 244 = .ok (.ireturn, 1) := by decide +kernel
theorem dX10_isRule_0 : decode cX10_isRule 0 = .ok (.iload_n 1, 1) := by decide +kernel
theorem dX10_isRule_1 : decode cX10_isRule 1 = .ok (.ifCond .lt 15, 3) := by decide +kernel
theorem dX10_isRule_4 : decode cX10_isRule 4 = .ok (.iload_n 1, 1) := by decide +kernel
theorem dX10_isRule_5 : decode cX10_isRule 5 = .ok (.aload_n 0, 1) := by decide +kernel
theorem dX10_isRule_6 : decode cX10_isRule 6 = .ok (.getfield 77, 3) := by decide +kernel
theorem dX10_isRule_9 : decode cX10_isRule 9 = .ok (.if_icmp .ge 7, 3) := by decide +kernel
theorem dX10_isRule_12 : decode cX10_isRule 12 = .ok (.iconst 1, 1) := by decide +kernel
theorem dX10_isRule_13 : decode cX10_isRule 13 = .ok (.goto 4, 3) := by decide +kernel
theorem dX10_isRule_16 : decode cX10_isRule 16 = .ok (.iconst 0, 1) := by decide +kernel
theorem dX10_isRule_17 : decode cX10_isRule 17 = .ok (.ireturn, 1) := by decide +kernel
theorem dX10_setPriority_0 : decode cX10_setPriority 0 = .ok (.aload_n 0, 1) := by decide +kernel
theorem dX10_setPriority_1 : decode cX10_setPriority 1 = .ok (.aload_n 0, 1) := by decide +kernel
theorem dX10_setPriority_2 : decode cX10_setPriority 2 = .ok (.iload_n 1, 1) := by decide +kernel
theorem dX10_setPriority_3 : decode cX10_setPriority 3 = .ok (.invokevirtual 80, 3) := by decide +kernel
theorem dX10_setPriority_6 : decode cX10_setPriority 6 = .ok (.ifCond .ne 7, 3) := by decide +kernel
theorem dX10_setPriority_9 : decode cX10_setPriority 9 = .ok (.iconst 1, 1) := by decide +kernel
theorem dX10_setPriority_10 : decode cX10_setPriority 10 = .ok (.goto 18, 3) := by decide +kernel
theorem dX10_setPriority_13 : decode cX10_setPriority 13 = .ok (.iload_n 2, 1) := by decide +kernel
theorem dX10_setPriority_14 : decode cX10_setPriority 14 = .ok (.ifCond .lt 9, 3) := by decide +kernel
theorem dX10_setPriority_17 : decode cX10_setPriority 17 = .ok (.iload_n 2, 1) := by decide +kernel
theorem dX10_setPriority_18 : decode cX10_setPriority 18 = .ok (.bipush 9, 2) := by decide +kernel
theorem dX10_setPriority_20 : decode cX10_setPriority 20 = .ok (.if_icmp .le 7, 3) := by decide +kernel
theorem dX10_setPriority_23 : decode cX10_setPriority 23 = .ok (.iconst 2, 1) := by decide +kernel
theorem dX10_setPriority_24 : decode cX10_setPriority 24 = .ok (.goto 4, 3) := by decide +kernel
theorem dX10_setPriority_27 : decode cX10_setPriority 27 = .ok (.iconst 0, 1) := by decide +kernel
theorem dX10_setPriority_28 : decode cX10_setPriority 28 = .ok (.invokevirtual 67, 3) := by decide +kernel
theorem dX10_setPriority_31 : decode cX10_setPriority 31 = .ok (.ifCond .ne 5, 3) := by decide +kernel
theorem dX10_setPriority_34 : decode cX10_setPriority 34 = .ok (.iconst 0, 1) := by decide +kernel
theorem dX10_setPriority_35 : decode cX10_setPriority 35 = .ok (.ireturn, 1) := by decide +kernel
theorem dX10_setPriority_36 : decode cX10_setPriority 36 = .ok (.aload_n 0, 1) := by decide +kernel
theorem dX10_setPriority_37 : decode cX10_setPriority 37 = .ok (.getfield 20, 3) := by decide +kernel
theorem dX10_setPriority_40 : decode cX10_setPriority 40 = .ok (.iload_n 1, 1) := by decide +kernel
theorem dX10_setPriority_41 : decode cX10_setPriority 41 = .ok (.iaload, 1) := by decide +kernel
theorem dX10_setPriority_42 : decode cX10_setPriority 42 = .ok (.istore_n 3, 1) := by decide +kernel
theorem dX10_setPriority_43 : decode cX10_setPriority 43 = .ok (.aload_n 0, 1) := by decide +kernel
theorem dX10_setPriority_44 : decode cX10_setPriority 44 = .ok (.getfield 20, 3) := by decide +kernel
theorem dX10_setPriority_47 : decode cX10_setPriority 47 = .ok (.iload_n 1, 1) := by decide +kernel
theorem dX10_setPriority_48 : decode cX10_setPriority 48 = .ok (.iload_n 2, 1) := by decide +kernel
theorem dX10_setPriority_49 : decode cX10_setPriority 49 = .ok (.iastore, 1) := by decide +kernel
theorem dX10_setPriority_50 : decode cX10_setPriority 50 = .ok (.iload_n 3, 1) := by decide +kernel
theorem dX10_setPriority_51 : decode cX10_setPriority 51 = .ok (.ireturn, 1) := by decide +kernel
theorem dX10_setException_0 : decode cX10_setException 0 = .ok (.aload_n 0, 1) := by decide +kernel
theorem dX10_setException_1 : decode cX10_setException 1 = .ok (.aload_n 0, 1) := by decide +kernel
theorem dX10_setException_2 : decode cX10_setException 2 = .ok (.iload_n 1, 1) := by decide +kernel
theorem dX10_setException_3 : decode cX10_setException 3 = .ok (.invokevirtual 80, 3) := by decide +kernel
theorem dX10_setException_6 : decode cX10_setException 6 = .ok (.ifCond .ne 7, 3) := by decide +kernel
theorem dX10_setException_9 : decode cX10_setException 9 = .ok (.iconst 1, 1) := by decide +kernel
theorem dX10_setException_10 : decode cX10_setException 10 = .ok (.goto 15, 3) := by decide +kernel
theorem dX10_setException_13 : decode cX10_setException 13 = .ok (.iload_n 2, 1) := by decide +kernel
theorem dX10_setException_14 : decode cX10_setException 14 = .ok (.invokestatic 74, 3) := by decide +kernel
theorem dX10_setException_17 : decode cX10_setException 17 = .ok (.ifCond .eq 7, 3) := by decide +kernel
theorem dX10_setException_20 : decode cX10_setException 20 = .ok (.iconst 0, 1) := by decide +kernel
theorem dX10_setException_21 : decode cX10_setException 21 = .ok (.goto 4, 3) := by decide +kernel
theorem dX10_setException_24 : decode cX10_setException 24 = .ok (.iconst 2, 1) := by decide +kernel
theorem dX10_setException_25 : decode cX10_setException 25 = .ok (.invokevirtual 67, 3) := by decide +kernel
theorem dX10_setException_28 : decode cX10_setException 28 = .ok (.ifCond .ne 5, 3) := by decide +kernel
theorem dX10_setException_31 : decode cX10_setException 31 = .ok (.iconst 0, 1) := by decide +kernel
theorem dX10_setException_32 : decode cX10_setException 32 = .ok (.ireturn, 1) := by decide +kernel
theorem dX10_setException_33 : decode cX10_setException 33 = .ok (.aload_n 0, 1) := by decide +kernel
theorem dX10_setException_34 : decode cX10_setException 34 = .ok (.getfield 23, 3) := by decide +kernel
theorem dX10_setException_37 : decode cX10_setException 37 = .ok (.iload_n 1, 1) := by decide +kernel
theorem dX10_setException_38 : decode cX10_setException 38 = .ok (.iaload, 1) := by decide +kernel
theorem dX10_setException_39 : decode cX10_setException 39 = .ok (.istore_n 3, 1) := by decide +kernel
theorem dX10_setException_40 : decode cX10_setException 40 = .ok (.aload_n 0, 1) := by decide +kernel
theorem dX10_setException_41 : decode cX10_setException 41 = .ok (.getfield 23, 3) := by decide +kernel
theorem dX10_setException_44 : decode cX10_setException 44 = .ok (.iload_n 1, 1) := by decide +kernel
theorem dX10_setException_45 : decode cX10_setException 45 = .ok (.iload_n 2, 1) := by decide +kernel
theorem dX10_setException_46 : decode cX10_setException 46 = .ok (.iastore, 1) := by decide +kernel
theorem dX10_setException_47 : decode cX10_setException 47 = .ok (.iload_n 3, 1) := by decide +kernel
theorem dX10_setException_48 : decode cX10_setException 48 = .ok (.ireturn, 1) := by decide +kernel
theorem dX10_turn_0 : decode cX10_turn 0 = .ok (.aload_n 0, 1) := by decide +kernel
theorem dX10_turn_1 : decode cX10_turn 1 = .ok (.aload_n 0, 1) := by decide +kernel
theorem dX10_turn_2 : decode cX10_turn 2 = .ok (.iload_n 1, 1) := by decide +kernel
theorem dX10_turn_3 : decode cX10_turn 3 = .ok (.invokevirtual 80, 3) := by decide +kernel
theorem dX10_turn_6 : decode cX10_turn 6 = .ok (.ifCond .eq 7, 3) := by decide +kernel
theorem dX10_turn_9 : decode cX10_turn 9 = .ok (.iconst 0, 1) := by decide +kernel
theorem dX10_turn_10 : decode cX10_turn 10 = .ok (.goto 4, 3) := by decide +kernel
theorem dX10_turn_13 : decode cX10_turn 13 = .ok (.iconst 1, 1) := by decide +kernel
theorem dX10_turn_14 : decode cX10_turn 14 = .ok (.invokevirtual 67, 3) := by decide +kernel
theorem dX10_turn_17 : decode cX10_turn 17 = .ok (.ifCond .ne 5, 3) := by decide +kernel
theorem dX10_turn_20 : decode cX10_turn 20 = .ok (.iconst 0, 1) := by decide +kernel
theorem dX10_turn_21 : decode cX10_turn 21 = .ok (.ireturn, 1) := by decide +kernel
theorem dX10_turn_22 : decode cX10_turn 22 = .ok (.aload_n 0, 1) := by decide +kernel
theorem dX10_turn_23 : decode cX10_turn 23 = .ok (.getfield 26, 3) := by decide +kernel
theorem dX10_turn_26 : decode cX10_turn 26 = .ok (.iload_n 1, 1) := by decide +kernel
theorem dX10_turn_27 : decode cX10_turn 27 = .ok (.baload, 1) := by decide +kernel
theorem dX10_turn_28 : decode cX10_turn 28 = .ok (.istore_n 3, 1) := by decide +kernel
theorem dX10_turn_29 : decode cX10_turn 29 = .ok (.aload_n 0, 1) := by decide +kernel
theorem dX10_turn_30 : decode cX10_turn 30 = .ok (.getfield 26, 3) := by decide +kernel
theorem dX10_turn_33 : decode cX10_turn 33 = .ok (.iload_n 1, 1) := by decide +kernel
theorem dX10_turn_34 : decode cX10_turn 34 = .ok (.iload_n 2, 1) := by decide +kernel
theorem dX10_turn_35 : decode cX10_turn 35 = .ok (.bastore, 1) := by decide +kernel
theorem dX10_turn_36 : decode cX10_turn 36 = .ok (.iload_n 3, 1) := by decide +kernel
theorem dX10_turn_37 : decode cX10_turn 37 = .ok (.ireturn, 1) := by decide +kernel
theorem dX10_facts_0 : decode cX10_facts 0 = .ok (.aload_n 0, 1) := by decide +kernel
theorem dX10_facts_1 : decode cX10_facts 1 = .ok (.iconst 0, 1) := by decide +kernel
theorem dX10_facts_2 : decode cX10_facts 2 = .ok (.putfield 59, 3) := by decide +kernel
theorem dX10_facts_5 : decode cX10_facts 5 = .ok (.aload_n 0, 1) := by decide +kernel
theorem dX10_facts_6 : decode cX10_facts 6 = .ok (.invokevirtual 70, 3) := by decide +kernel
theorem dX10_facts_9 : decode cX10_facts 9 = .ok (.ireturn, 1) := by decide +kernel
theorem dX10_rules_0 : decode cX10_rules 0 = .ok (.aload_n 0, 1) := by decide +kernel
theorem dX10_rules_1 : decode cX10_rules 1 = .ok (.iconst 0, 1) := by decide +kernel
theorem dX10_rules_2 : decode cX10_rules 2 = .ok (.putfield 59, 3) := by decide +kernel
theorem dX10_rules_5 : decode cX10_rules 5 = .ok (.aload_n 0, 1) := by decide +kernel
theorem dX10_rules_6 : decode cX10_rules 6 = .ok (.getfield 77, 3) := by decide +kernel
theorem dX10_rules_9 : decode cX10_rules 9 = .ok (.ireturn, 1) := by decide +kernel
theorem dX10_lays_0 : decode cX10_lays 0 = .ok (.aload_n 0, 1) := by decide +kernel
theorem dX10_lays_1 : decode cX10_lays 1 = .ok (.getfield 83, 3) := by decide +kernel
theorem dX10_lays_4 : decode cX10_lays 4 = .ok (.bipush 24, 2) := by decide +kernel
theorem dX10_lays_6 : decode cX10_lays 6 = .ok (.if_icmp .ne 9, 3) := by decide +kernel
theorem dX10_lays_9 : decode cX10_lays 9 = .ok (.aload_n 0, 1) := by decide +kernel
theorem dX10_lays_10 : decode cX10_lays 10 = .ok (.iconst 1, 1) := by decide +kernel
theorem dX10_lays_11 : decode cX10_lays 11 = .ok (.putfield 86, 3) := by decide +kernel
theorem dX10_lays_14 : decode cX10_lays 14 = .ok (.return_, 1) := by decide +kernel
theorem dX10_lays_15 : decode cX10_lays 15 = .ok (.aload_n 0, 1) := by decide +kernel
theorem dX10_lays_16 : decode cX10_lays 16 = .ok (.getfield 29, 3) := by decide +kernel
theorem dX10_lays_19 : decode cX10_lays 19 = .ok (.aload_n 0, 1) := by decide +kernel
theorem dX10_lays_20 : decode cX10_lays 20 = .ok (.getfield 83, 3) := by decide +kernel
theorem dX10_lays_23 : decode cX10_lays 23 = .ok (.iload_n 1, 1) := by decide +kernel
theorem dX10_lays_24 : decode cX10_lays 24 = .ok (.iastore, 1) := by decide +kernel
theorem dX10_lays_25 : decode cX10_lays 25 = .ok (.aload_n 0, 1) := by decide +kernel
theorem dX10_lays_26 : decode cX10_lays 26 = .ok (.getfield 32, 3) := by decide +kernel
theorem dX10_lays_29 : decode cX10_lays 29 = .ok (.aload_n 0, 1) := by decide +kernel
theorem dX10_lays_30 : decode cX10_lays 30 = .ok (.getfield 83, 3) := by decide +kernel
theorem dX10_lays_33 : decode cX10_lays 33 = .ok (.iload_n 2, 1) := by decide +kernel
theorem dX10_lays_34 : decode cX10_lays 34 = .ok (.iastore, 1) := by decide +kernel
theorem dX10_lays_35 : decode cX10_lays 35 = .ok (.aload_n 0, 1) := by decide +kernel
theorem dX10_lays_36 : decode cX10_lays 36 = .ok (.getfield 35, 3) := by decide +kernel
theorem dX10_lays_39 : decode cX10_lays 39 = .ok (.iconst 3, 1) := by decide +kernel
theorem dX10_lays_40 : decode cX10_lays 40 = .ok (.aload_n 0, 1) := by decide +kernel
theorem dX10_lays_41 : decode cX10_lays 41 = .ok (.getfield 83, 3) := by decide +kernel
theorem dX10_lays_44 : decode cX10_lays 44 = .ok (.imul, 1) := by decide +kernel
theorem dX10_lays_45 : decode cX10_lays 45 = .ok (.iload_n 3, 1) := by decide +kernel
theorem dX10_lays_46 : decode cX10_lays 46 = .ok (.iastore, 1) := by decide +kernel
theorem dX10_lays_47 : decode cX10_lays 47 = .ok (.aload_n 0, 1) := by decide +kernel
theorem dX10_lays_48 : decode cX10_lays 48 = .ok (.getfield 35, 3) := by decide +kernel
theorem dX10_lays_51 : decode cX10_lays 51 = .ok (.iconst 3, 1) := by decide +kernel
theorem dX10_lays_52 : decode cX10_lays 52 = .ok (.aload_n 0, 1) := by decide +kernel
theorem dX10_lays_53 : decode cX10_lays 53 = .ok (.getfield 83, 3) := by decide +kernel
theorem dX10_lays_56 : decode cX10_lays 56 = .ok (.imul, 1) := by decide +kernel
theorem dX10_lays_57 : decode cX10_lays 57 = .ok (.iconst 1, 1) := by decide +kernel
theorem dX10_lays_58 : decode cX10_lays 58 = .ok (.iadd, 1) := by decide +kernel
theorem dX10_lays_59 : decode cX10_lays 59 = .ok (.iload 4, 2) := by decide +kernel
theorem dX10_lays_61 : decode cX10_lays 61 = .ok (.iastore, 1) := by decide +kernel
theorem dX10_lays_62 : decode cX10_lays 62 = .ok (.aload_n 0, 1) := by decide +kernel
theorem dX10_lays_63 : decode cX10_lays 63 = .ok (.getfield 35, 3) := by decide +kernel
theorem dX10_lays_66 : decode cX10_lays 66 = .ok (.iconst 3, 1) := by decide +kernel
theorem dX10_lays_67 : decode cX10_lays 67 = .ok (.aload_n 0, 1) := by decide +kernel
theorem dX10_lays_68 : decode cX10_lays 68 = .ok (.getfield 83, 3) := by decide +kernel
theorem dX10_lays_71 : decode cX10_lays 71 = .ok (.imul, 1) := by decide +kernel
theorem dX10_lays_72 : decode cX10_lays 72 = .ok (.iconst 2, 1) := by decide +kernel
theorem dX10_lays_73 : decode cX10_lays 73 = .ok (.iadd, 1) := by decide +kernel
theorem dX10_lays_74 : decode cX10_lays 74 = .ok (.iload 5, 2) := by decide +kernel
theorem dX10_lays_76 : decode cX10_lays 76 = .ok (.iastore, 1) := by decide +kernel
theorem dX10_lays_77 : decode cX10_lays 77 = .ok (.aload_n 0, 1) := by decide +kernel
theorem dX10_lays_78 : decode cX10_lays 78 = .ok (.getfield 38, 3) := by decide +kernel
theorem dX10_lays_81 : decode cX10_lays 81 = .ok (.aload_n 0, 1) := by decide +kernel
theorem dX10_lays_82 : decode cX10_lays 82 = .ok (.getfield 83, 3) := by decide +kernel
theorem dX10_lays_85 : decode cX10_lays 85 = .ok (.iload 6, 2) := by decide +kernel
theorem dX10_lays_87 : decode cX10_lays 87 = .ok (.iastore, 1) := by decide +kernel
theorem dX10_lays_88 : decode cX10_lays 88 = .ok (.aload_n 0, 1) := by decide +kernel
theorem dX10_lays_89 : decode cX10_lays 89 = .ok (.getfield 41, 3) := by decide +kernel
theorem dX10_lays_92 : decode cX10_lays 92 = .ok (.aload_n 0, 1) := by decide +kernel
theorem dX10_lays_93 : decode cX10_lays 93 = .ok (.getfield 83, 3) := by decide +kernel
theorem dX10_lays_96 : decode cX10_lays 96 = .ok (.aload_n 0, 1) := by decide +kernel
theorem dX10_lays_97 : decode cX10_lays 97 = .ok (.iload_n 3, 1) := by decide +kernel
theorem dX10_lays_98 : decode cX10_lays 98 = .ok (.invokevirtual 90, 3) := by decide +kernel
theorem dX10_lays_101 : decode cX10_lays 101 = .ok (.aload_n 0, 1) := by decide +kernel
theorem dX10_lays_102 : decode cX10_lays 102 = .ok (.iload 4, 2) := by decide +kernel
theorem dX10_lays_104 : decode cX10_lays 104 = .ok (.invokevirtual 90, 3) := by decide +kernel
theorem dX10_lays_107 : decode cX10_lays 107 = .ok (.ior, 1) := by decide +kernel
theorem dX10_lays_108 : decode cX10_lays 108 = .ok (.aload_n 0, 1) := by decide +kernel
theorem dX10_lays_109 : decode cX10_lays 109 = .ok (.iload 5, 2) := by decide +kernel
theorem dX10_lays_111 : decode cX10_lays 111 = .ok (.invokevirtual 90, 3) := by decide +kernel
theorem dX10_lays_114 : decode cX10_lays 114 = .ok (.ior, 1) := by decide +kernel
theorem dX10_lays_115 : decode cX10_lays 115 = .ok (.iastore, 1) := by decide +kernel
theorem dX10_lays_116 : decode cX10_lays 116 = .ok (.aload_n 0, 1) := by decide +kernel
theorem dX10_lays_117 : decode cX10_lays 117 = .ok (.dup, 1) := by decide +kernel
theorem dX10_lays_118 : decode cX10_lays 118 = .ok (.getfield 83, 3) := by decide +kernel
theorem dX10_lays_121 : decode cX10_lays 121 = .ok (.iconst 1, 1) := by decide +kernel
theorem dX10_lays_122 : decode cX10_lays 122 = .ok (.iadd, 1) := by decide +kernel
theorem dX10_lays_123 : decode cX10_lays 123 = .ok (.putfield 83, 3) := by decide +kernel
theorem dX10_lays_126 : decode cX10_lays 126 = .ok (.return_, 1) := by decide +kernel
theorem dX10_withAll_0 : decode cX10_withAll 0 = .ok (.iload_n 1, 1) := by decide +kernel
theorem dX10_withAll_1 : decode cX10_withAll 1 = .ok (.iconst (-1), 1) := by decide +kernel
theorem dX10_withAll_2 : decode cX10_withAll 2 = .ok (.if_icmp .ne 7, 3) := by decide +kernel
theorem dX10_withAll_5 : decode cX10_withAll 5 = .ok (.iconst 0, 1) := by decide +kernel
theorem dX10_withAll_6 : decode cX10_withAll 6 = .ok (.goto 13, 3) := by decide +kernel
theorem dX10_withAll_9 : decode cX10_withAll 9 = .ok (.aload_n 0, 1) := by decide +kernel
theorem dX10_withAll_10 : decode cX10_withAll 10 = .ok (.getfield 41, 3) := by decide +kernel
theorem dX10_withAll_13 : decode cX10_withAll 13 = .ok (.iload_n 1, 1) := by decide +kernel
theorem dX10_withAll_14 : decode cX10_withAll 14 = .ok (.iaload, 1) := by decide +kernel
theorem dX10_withAll_15 : decode cX10_withAll 15 = .ok (.iconst 1, 1) := by decide +kernel
theorem dX10_withAll_16 : decode cX10_withAll 16 = .ok (.iload_n 1, 1) := by decide +kernel
theorem dX10_withAll_17 : decode cX10_withAll 17 = .ok (.ishl, 1) := by decide +kernel
theorem dX10_withAll_18 : decode cX10_withAll 18 = .ok (.ior, 1) := by decide +kernel
theorem dX10_withAll_19 : decode cX10_withAll 19 = .ok (.ireturn, 1) := by decide +kernel
theorem dX10_isPart_0 : decode cX10_isPart 0 = .ok (.aload_n 0, 1) := by decide +kernel
theorem dX10_isPart_1 : decode cX10_isPart 1 = .ok (.getfield 17, 3) := by decide +kernel
theorem dX10_isPart_4 : decode cX10_isPart 4 = .ok (.iconst 3, 1) := by decide +kernel
theorem dX10_isPart_5 : decode cX10_isPart 5 = .ok (.iload_n 1, 1) := by decide +kernel
theorem dX10_isPart_6 : decode cX10_isPart 6 = .ok (.imul, 1) := by decide +kernel
theorem dX10_isPart_7 : decode cX10_isPart 7 = .ok (.iload_n 2, 1) := by decide +kernel
theorem dX10_isPart_8 : decode cX10_isPart 8 = .ok (.iadd, 1) := by decide +kernel
theorem dX10_isPart_9 : decode cX10_isPart 9 = .ok (.iaload, 1) := by decide +kernel
theorem dX10_isPart_10 : decode cX10_isPart 10 = .ok (.istore 4, 2) := by decide +kernel
theorem dX10_isPart_12 : decode cX10_isPart 12 = .ok (.iload 4, 2) := by decide +kernel
theorem dX10_isPart_14 : decode cX10_isPart 14 = .ok (.ifCond .ne 16, 3) := by decide +kernel
theorem dX10_isPart_17 : decode cX10_isPart 17 = .ok (.iload_n 3, 1) := by decide +kernel
theorem dX10_isPart_18 : decode cX10_isPart 18 = .ok (.iconst (-1), 1) := by decide +kernel
theorem dX10_isPart_19 : decode cX10_isPart 19 = .ok (.if_icmp .ne 7, 3) := by decide +kernel
theorem dX10_isPart_22 : decode cX10_isPart 22 = .ok (.iconst 1, 1) := by decide +kernel
theorem dX10_isPart_23 : decode cX10_isPart 23 = .ok (.goto 28, 3) := by decide +kernel
theorem dX10_isPart_26 : decode cX10_isPart 26 = .ok (.iconst 0, 1) := by decide +kernel
theorem dX10_isPart_27 : decode cX10_isPart 27 = .ok (.goto 24, 3) := by decide +kernel
theorem dX10_isPart_30 : decode cX10_isPart 30 = .ok (.iload_n 3, 1) := by decide +kernel
theorem dX10_isPart_31 : decode cX10_isPart 31 = .ok (.iconst (-1), 1) := by decide +kernel
theorem dX10_isPart_32 : decode cX10_isPart 32 = .ok (.if_icmp .eq 18, 3) := by decide +kernel
theorem dX10_isPart_35 : decode cX10_isPart 35 = .ok (.aload_n 0, 1) := by decide +kernel
theorem dX10_isPart_36 : decode cX10_isPart 36 = .ok (.getfield 29, 3) := by decide +kernel
theorem dX10_isPart_39 : decode cX10_isPart 39 = .ok (.iload_n 3, 1) := by decide +kernel
theorem dX10_isPart_40 : decode cX10_isPart 40 = .ok (.iaload, 1) := by decide +kernel
theorem dX10_isPart_41 : decode cX10_isPart 41 = .ok (.iload 4, 2) := by decide +kernel
theorem dX10_isPart_43 : decode cX10_isPart 43 = .ok (.if_icmp .ne 7, 3) := by decide +kernel
theorem dX10_isPart_46 : decode cX10_isPart 46 = .ok (.iconst 1, 1) := by decide +kernel
theorem dX10_isPart_47 : decode cX10_isPart 47 = .ok (.goto 4, 3) := by decide +kernel
theorem dX10_isPart_50 : decode cX10_isPart 50 = .ok (.iconst 0, 1) := by decide +kernel
theorem dX10_isPart_51 : decode cX10_isPart 51 = .ok (.ireturn, 1) := by decide +kernel
theorem dX10_isBuiltOf_0 : decode cX10_isBuiltOf 0 = .ok (.iconst 0, 1) := by decide +kernel
theorem dX10_isBuiltOf_1 : decode cX10_isBuiltOf 1 = .ok (.istore_n 3, 1) := by decide +kernel
theorem dX10_isBuiltOf_2 : decode cX10_isBuiltOf 2 = .ok (.iconst 0, 1) := by decide +kernel
theorem dX10_isBuiltOf_3 : decode cX10_isBuiltOf 3 = .ok (.istore 4, 2) := by decide +kernel
theorem dX10_isBuiltOf_5 : decode cX10_isBuiltOf 5 = .ok (.iload 4, 2) := by decide +kernel
theorem dX10_isBuiltOf_7 : decode cX10_isBuiltOf 7 = .ok (.aload_n 0, 1) := by decide +kernel
theorem dX10_isBuiltOf_8 : decode cX10_isBuiltOf 8 = .ok (.getfield 83, 3) := by decide +kernel
theorem dX10_isBuiltOf_11 : decode cX10_isBuiltOf 11 = .ok (.if_icmp .ge 40, 3) := by decide +kernel
theorem dX10_isBuiltOf_14 : decode cX10_isBuiltOf 14 = .ok (.iload_n 3, 1) := by decide +kernel
theorem dX10_isBuiltOf_15 : decode cX10_isBuiltOf 15 = .ok (.ifCond .ne 24, 3) := by decide +kernel
theorem dX10_isBuiltOf_18 : decode cX10_isBuiltOf 18 = .ok (.iload_n 1, 1) := by decide +kernel
theorem dX10_isBuiltOf_19 : decode cX10_isBuiltOf 19 = .ok (.iload 4, 2) := by decide +kernel
theorem dX10_isBuiltOf_21 : decode cX10_isBuiltOf 21 = .ok (.ishr, 1) := by decide +kernel
theorem dX10_isBuiltOf_22 : decode cX10_isBuiltOf 22 = .ok (.iconst 1, 1) := by decide +kernel
theorem dX10_isBuiltOf_23 : decode cX10_isBuiltOf 23 = .ok (.iand, 1) := by decide +kernel
theorem dX10_isBuiltOf_24 : decode cX10_isBuiltOf 24 = .ok (.iconst 1, 1) := by decide +kernel
theorem dX10_isBuiltOf_25 : decode cX10_isBuiltOf 25 = .ok (.if_icmp .ne 18, 3) := by decide +kernel
theorem dX10_isBuiltOf_28 : decode cX10_isBuiltOf 28 = .ok (.aload_n 0, 1) := by decide +kernel
theorem dX10_isBuiltOf_29 : decode cX10_isBuiltOf 29 = .ok (.getfield 29, 3) := by decide +kernel
theorem dX10_isBuiltOf_32 : decode cX10_isBuiltOf 32 = .ok (.iload 4, 2) := by decide +kernel
theorem dX10_isBuiltOf_34 : decode cX10_isBuiltOf 34 = .ok (.iaload, 1) := by decide +kernel
theorem dX10_isBuiltOf_35 : decode cX10_isBuiltOf 35 = .ok (.iload_n 2, 1) := by decide +kernel
theorem dX10_isBuiltOf_36 : decode cX10_isBuiltOf 36 = .ok (.if_icmp .ne 7, 3) := by decide +kernel
theorem dX10_isBuiltOf_39 : decode cX10_isBuiltOf 39 = .ok (.iconst 1, 1) := by decide +kernel
theorem dX10_isBuiltOf_40 : decode cX10_isBuiltOf 40 = .ok (.goto 4, 3) := by decide +kernel
theorem dX10_isBuiltOf_43 : decode cX10_isBuiltOf 43 = .ok (.iconst 0, 1) := by decide +kernel
theorem dX10_isBuiltOf_44 : decode cX10_isBuiltOf 44 = .ok (.istore_n 3, 1) := by decide +kernel
theorem dX10_isBuiltOf_45 : decode cX10_isBuiltOf 45 = .ok (.iinc 4 1, 3) := by decide +kernel
theorem dX10_isBuiltOf_48 : decode cX10_isBuiltOf 48 = .ok (.goto (-43), 3) := by decide +kernel
theorem dX10_isBuiltOf_51 : decode cX10_isBuiltOf 51 = .ok (.iload_n 3, 1) := by decide +kernel
theorem dX10_isBuiltOf_52 : decode cX10_isBuiltOf 52 = .ok (.ireturn, 1) := by decide +kernel
theorem dX10_depthOf_0 : decode cX10_depthOf 0 = .ok (.iload_n 1, 1) := by decide +kernel
theorem dX10_depthOf_1 : decode cX10_depthOf 1 = .ok (.iconst (-1), 1) := by decide +kernel
theorem dX10_depthOf_2 : decode cX10_depthOf 2 = .ok (.if_icmp .ne 7, 3) := by decide +kernel
theorem dX10_depthOf_5 : decode cX10_depthOf 5 = .ok (.iconst 0, 1) := by decide +kernel
theorem dX10_depthOf_6 : decode cX10_depthOf 6 = .ok (.goto 9, 3) := by decide +kernel
theorem dX10_depthOf_9 : decode cX10_depthOf 9 = .ok (.aload_n 0, 1) := by decide +kernel
theorem dX10_depthOf_10 : decode cX10_depthOf 10 = .ok (.getfield 38, 3) := by decide +kernel
theorem dX10_depthOf_13 : decode cX10_depthOf 13 = .ok (.iload_n 1, 1) := by decide +kernel
theorem dX10_depthOf_14 : decode cX10_depthOf 14 = .ok (.iaload, 1) := by decide +kernel
theorem dX10_depthOf_15 : decode cX10_depthOf 15 = .ok (.ireturn, 1) := by decide +kernel
theorem dX10_makes_0 : decode cX10_makes 0 = .ok (.iconst (-1), 1) := by decide +kernel
theorem dX10_makes_1 : decode cX10_makes 1 = .ok (.istore 4, 2) := by decide +kernel
theorem dX10_makes_3 : decode cX10_makes 3 = .ok (.iload 4, 2) := by decide +kernel
theorem dX10_makes_5 : decode cX10_makes 5 = .ok (.iload_n 3, 1) := by decide +kernel
theorem dX10_makes_6 : decode cX10_makes 6 = .ok (.if_icmp .ge 191, 3) := by decide +kernel
theorem dX10_makes_9 : decode cX10_makes 9 = .ok (.iconst (-1), 1) := by decide +kernel
theorem dX10_makes_10 : decode cX10_makes 10 = .ok (.istore 5, 2) := by decide +kernel
theorem dX10_makes_12 : decode cX10_makes 12 = .ok (.iload 5, 2) := by decide +kernel
theorem dX10_makes_14 : decode cX10_makes 14 = .ok (.iload_n 3, 1) := by decide +kernel
theorem dX10_makes_15 : decode cX10_makes 15 = .ok (.if_icmp .ge 176, 3) := by decide +kernel
theorem dX10_makes_18 : decode cX10_makes 18 = .ok (.aload_n 0, 1) := by decide +kernel
theorem dX10_makes_19 : decode cX10_makes 19 = .ok (.iload_n 1, 1) := by decide +kernel
theorem dX10_makes_20 : decode cX10_makes 20 = .ok (.iconst 0, 1) := by decide +kernel
theorem dX10_makes_21 : decode cX10_makes 21 = .ok (.iload 4, 2) := by decide +kernel
theorem dX10_makes_23 : decode cX10_makes 23 = .ok (.invokevirtual 94, 3) := by decide +kernel
theorem dX10_makes_26 : decode cX10_makes 26 = .ok (.ifCond .eq 165, 3) := by decide +kernel
theorem dX10_makes_29 : decode cX10_makes 29 = .ok (.iconst (-1), 1) := by decide +kernel
theorem dX10_makes_30 : decode cX10_makes 30 = .ok (.istore 6, 2) := by decide +kernel
theorem dX10_makes_32 : decode cX10_makes 32 = .ok (.iload 6, 2) := by decide +kernel
theorem dX10_makes_34 : decode cX10_makes 34 = .ok (.iload_n 3, 1) := by decide +kernel
theorem dX10_makes_35 : decode cX10_makes 35 = .ok (.if_icmp .ge 150, 3) := by decide +kernel
theorem dX10_makes_38 : decode cX10_makes 38 = .ok (.aload_n 0, 1) := by decide +kernel
theorem dX10_makes_39 : decode cX10_makes 39 = .ok (.iload_n 1, 1) := by decide +kernel
theorem dX10_makes_40 : decode cX10_makes 40 = .ok (.iconst 1, 1) := by decide +kernel
theorem dX10_makes_41 : decode cX10_makes 41 = .ok (.iload 5, 2) := by decide +kernel
theorem dX10_makes_43 : decode cX10_makes 43 = .ok (.invokevirtual 94, 3) := by decide +kernel
theorem dX10_makes_46 : decode cX10_makes 46 = .ok (.ifCond .eq 139, 3) := by decide +kernel
theorem dX10_makes_49 : decode cX10_makes 49 = .ok (.aload_n 0, 1) := by decide +kernel
theorem dX10_makes_50 : decode cX10_makes 50 = .ok (.iload 4, 2) := by decide +kernel
theorem dX10_makes_52 : decode cX10_makes 52 = .ok (.invokevirtual 90, 3) := by decide +kernel
theorem dX10_makes_55 : decode cX10_makes 55 = .ok (.aload_n 0, 1) := by decide +kernel
theorem dX10_makes_56 : decode cX10_makes 56 = .ok (.iload 5, 2) := by decide +kernel
theorem dX10_makes_58 : decode cX10_makes 58 = .ok (.invokevirtual 90, 3) := by decide +kernel
theorem dX10_makes_61 : decode cX10_makes 61 = .ok (.ior, 1) := by decide +kernel
theorem dX10_makes_62 : decode cX10_makes 62 = .ok (.aload_n 0, 1) := by decide +kernel
theorem dX10_makes_63 : decode cX10_makes 63 = .ok (.iload 6, 2) := by decide +kernel
theorem dX10_makes_65 : decode cX10_makes 65 = .ok (.invokevirtual 90, 3) := by decide +kernel
theorem dX10_makes_68 : decode cX10_makes 68 = .ok (.ior, 1) := by decide +kernel
theorem dX10_makes_69 : decode cX10_makes 69 = .ok (.istore 7, 2) := by decide +kernel
theorem dX10_makes_71 : decode cX10_makes 71 = .ok (.aload_n 0, 1) := by decide +kernel
theorem dX10_makes_72 : decode cX10_makes 72 = .ok (.iload 4, 2) := by decide +kernel
theorem dX10_makes_74 : decode cX10_makes 74 = .ok (.invokevirtual 98, 3) := by decide +kernel
theorem dX10_makes_77 : decode cX10_makes 77 = .ok (.aload_n 0, 1) := by decide +kernel
theorem dX10_makes_78 : decode cX10_makes 78 = .ok (.iload 5, 2) := by decide +kernel
theorem dX10_makes_80 : decode cX10_makes 80 = .ok (.invokevirtual 98, 3) := by decide +kernel
theorem dX10_makes_83 : decode cX10_makes 83 = .ok (.if_icmp .le 12, 3) := by decide +kernel
theorem dX10_makes_86 : decode cX10_makes 86 = .ok (.aload_n 0, 1) := by decide +kernel
theorem dX10_makes_87 : decode cX10_makes 87 = .ok (.iload 4, 2) := by decide +kernel
theorem dX10_makes_89 : decode cX10_makes 89 = .ok (.invokevirtual 98, 3) := by decide +kernel
theorem dX10_makes_92 : decode cX10_makes 92 = .ok (.goto 9, 3) := by decide +kernel
theorem dX10_makes_95 : decode cX10_makes 95 = .ok (.aload_n 0, 1) := by decide +kernel
theorem dX10_makes_96 : decode cX10_makes 96 = .ok (.iload 5, 2) := by decide +kernel
theorem dX10_makes_98 : decode cX10_makes 98 = .ok (.invokevirtual 98, 3) := by decide +kernel
theorem dX10_makes_101 : decode cX10_makes 101 = .ok (.istore 8, 2) := by decide +kernel
theorem dX10_makes_103 : decode cX10_makes 103 = .ok (.aload_n 0, 1) := by decide +kernel
theorem dX10_makes_104 : decode cX10_makes 104 = .ok (.iload 6, 2) := by decide +kernel
theorem dX10_makes_106 : decode cX10_makes 106 = .ok (.invokevirtual 98, 3) := by decide +kernel
theorem dX10_makes_109 : decode cX10_makes 109 = .ok (.iload 8, 2) := by decide +kernel
theorem dX10_makes_111 : decode cX10_makes 111 = .ok (.if_icmp .le 12, 3) := by decide +kernel
theorem dX10_makes_114 : decode cX10_makes 114 = .ok (.aload_n 0, 1) := by decide +kernel
theorem dX10_makes_115 : decode cX10_makes 115 = .ok (.iload 6, 2) := by decide +kernel
theorem dX10_makes_117 : decode cX10_makes 117 = .ok (.invokevirtual 98, 3) := by decide +kernel
theorem dX10_makes_120 : decode cX10_makes 120 = .ok (.goto 5, 3) := by decide +kernel
theorem dX10_makes_123 : decode cX10_makes 123 = .ok (.iload 8, 2) := by decide +kernel
theorem dX10_makes_125 : decode cX10_makes 125 = .ok (.istore 8, 2) := by decide +kernel
theorem dX10_makes_127 : decode cX10_makes 127 = .ok (.aload_n 0, 1) := by decide +kernel
theorem dX10_makes_128 : decode cX10_makes 128 = .ok (.iload_n 1, 1) := by decide +kernel
theorem dX10_makes_129 : decode cX10_makes 129 = .ok (.iconst 2, 1) := by decide +kernel
theorem dX10_makes_130 : decode cX10_makes 130 = .ok (.iload 6, 2) := by decide +kernel
theorem dX10_makes_132 : decode cX10_makes 132 = .ok (.invokevirtual 94, 3) := by decide +kernel
theorem dX10_makes_135 : decode cX10_makes 135 = .ok (.ifCond .eq 44, 3) := by decide +kernel
theorem dX10_makes_138 : decode cX10_makes 138 = .ok (.iload 8, 2) := by decide +kernel
theorem dX10_makes_140 : decode cX10_makes 140 = .ok (.iload_n 2, 1) := by decide +kernel
theorem dX10_makes_141 : decode cX10_makes 141 = .ok (.iconst 1, 1) := by decide +kernel
theorem dX10_makes_142 : decode cX10_makes 142 = .ok (.isub, 1) := by decide +kernel
theorem dX10_makes_143 : decode cX10_makes 143 = .ok (.if_icmp .ne 36, 3) := by decide +kernel
theorem dX10_makes_146 : decode cX10_makes 146 = .ok (.aload_n 0, 1) := by decide +kernel
theorem dX10_makes_147 : decode cX10_makes 147 = .ok (.iload 7, 2) := by decide +kernel
theorem dX10_makes_149 : decode cX10_makes 149 = .ok (.aload_n 0, 1) := by decide +kernel
theorem dX10_makes_150 : decode cX10_makes 150 = .ok (.getfield 13, 3) := by decide +kernel
theorem dX10_makes_153 : decode cX10_makes 153 = .ok (.iload_n 1, 1) := by decide +kernel
theorem dX10_makes_154 : decode cX10_makes 154 = .ok (.iaload, 1) := by decide +kernel
theorem dX10_makes_155 : decode cX10_makes 155 = .ok (.invokevirtual 101, 3) := by decide +kernel
theorem dX10_makes_158 : decode cX10_makes 158 = .ok (.ifCond .ne 21, 3) := by decide +kernel
theorem dX10_makes_161 : decode cX10_makes 161 = .ok (.aload_n 0, 1) := by decide +kernel
theorem dX10_makes_162 : decode cX10_makes 162 = .ok (.aload_n 0, 1) := by decide +kernel
theorem dX10_makes_163 : decode cX10_makes 163 = .ok (.getfield 13, 3) := by decide +kernel
theorem dX10_makes_166 : decode cX10_makes 166 = .ok (.iload_n 1, 1) := by decide +kernel
theorem dX10_makes_167 : decode cX10_makes 167 = .ok (.iaload, 1) := by decide +kernel
theorem dX10_makes_168 : decode cX10_makes 168 = .ok (.iload_n 1, 1) := by decide +kernel
theorem dX10_makes_169 : decode cX10_makes 169 = .ok (.iload 4, 2) := by decide +kernel
theorem dX10_makes_171 : decode cX10_makes 171 = .ok (.iload 5, 2) := by decide +kernel
theorem dX10_makes_173 : decode cX10_makes 173 = .ok (.iload 6, 2) := by decide +kernel
theorem dX10_makes_175 : decode cX10_makes 175 = .ok (.iload_n 2, 1) := by decide +kernel
theorem dX10_makes_176 : decode cX10_makes 176 = .ok (.invokevirtual 105, 3) := by decide +kernel
theorem dX10_makes_179 : decode cX10_makes 179 = .ok (.iinc 6 1, 3) := by decide +kernel
theorem dX10_makes_182 : decode cX10_makes 182 = .ok (.goto (-150), 3) := by decide +kernel
theorem dX10_makes_185 : decode cX10_makes 185 = .ok (.iinc 5 1, 3) := by decide +kernel
theorem dX10_makes_188 : decode cX10_makes 188 = .ok (.goto (-176), 3) := by decide +kernel
theorem dX10_makes_191 : decode cX10_makes 191 = .ok (.iinc 4 1, 3) := by decide +kernel
theorem dX10_makes_194 : decode cX10_makes 194 = .ok (.goto (-191), 3) := by decide +kernel
theorem dX10_makes_197 : decode cX10_makes 197 = .ok (.return_, 1) := by decide +kernel
theorem dX10_builds_0 : decode cX10_builds 0 = .ok (.aload_n 0, 1) := by decide +kernel
theorem dX10_builds_1 : decode cX10_builds 1 = .ok (.iconst 0, 1) := by decide +kernel
theorem dX10_builds_2 : decode cX10_builds 2 = .ok (.putfield 83, 3) := by decide +kernel
theorem dX10_builds_5 : decode cX10_builds 5 = .ok (.aload_n 0, 1) := by decide +kernel
theorem dX10_builds_6 : decode cX10_builds 6 = .ok (.iconst 0, 1) := by decide +kernel
theorem dX10_builds_7 : decode cX10_builds 7 = .ok (.putfield 86, 3) := by decide +kernel
theorem dX10_builds_10 : decode cX10_builds 10 = .ok (.bipush (-10), 2) := by decide +kernel
theorem dX10_builds_12 : decode cX10_builds 12 = .ok (.istore_n 1, 1) := by decide +kernel
theorem dX10_builds_13 : decode cX10_builds 13 = .ok (.iload_n 1, 1) := by decide +kernel
theorem dX10_builds_14 : decode cX10_builds 14 = .ok (.bipush 10, 2) := by decide +kernel
theorem dX10_builds_16 : decode cX10_builds 16 = .ok (.if_icmp .gt 31, 3) := by decide +kernel
theorem dX10_builds_19 : decode cX10_builds 19 = .ok (.aload_n 0, 1) := by decide +kernel
theorem dX10_builds_20 : decode cX10_builds 20 = .ok (.getfield 7, 3) := by decide +kernel
theorem dX10_builds_23 : decode cX10_builds 23 = .ok (.bipush 10, 2) := by decide +kernel
theorem dX10_builds_25 : decode cX10_builds 25 = .ok (.iload_n 1, 1) := by decide +kernel
theorem dX10_builds_26 : decode cX10_builds 26 = .ok (.iadd, 1) := by decide +kernel
theorem dX10_builds_27 : decode cX10_builds 27 = .ok (.baload, 1) := by decide +kernel
theorem dX10_builds_28 : decode cX10_builds 28 = .ok (.ifCond .eq 13, 3) := by decide +kernel
theorem dX10_builds_31 : decode cX10_builds 31 = .ok (.aload_n 0, 1) := by decide +kernel
theorem dX10_builds_32 : decode cX10_builds 32 = .ok (.iload_n 1, 1) := by decide +kernel
theorem dX10_builds_33 : decode cX10_builds 33 = .ok (.iconst (-1), 1) := by decide +kernel
theorem dX10_builds_34 : decode cX10_builds 34 = .ok (.iconst (-1), 1) := by decide +kernel
theorem dX10_builds_35 : decode cX10_builds 35 = .ok (.iconst (-1), 1) := by decide +kernel
theorem dX10_builds_36 : decode cX10_builds 36 = .ok (.iconst (-1), 1) := by decide +kernel
theorem dX10_builds_37 : decode cX10_builds 37 = .ok (.iconst 0, 1) := by decide +kernel
theorem dX10_builds_38 : decode cX10_builds 38 = .ok (.invokevirtual 105, 3) := by decide +kernel
theorem dX10_builds_41 : decode cX10_builds 41 = .ok (.iinc 1 1, 3) := by decide +kernel
theorem dX10_builds_44 : decode cX10_builds 44 = .ok (.goto (-31), 3) := by decide +kernel
theorem dX10_builds_47 : decode cX10_builds 47 = .ok (.aload_n 0, 1) := by decide +kernel
theorem dX10_builds_48 : decode cX10_builds 48 = .ok (.getfield 83, 3) := by decide +kernel
theorem dX10_builds_51 : decode cX10_builds 51 = .ok (.iconst 1, 1) := by decide +kernel
theorem dX10_builds_52 : decode cX10_builds 52 = .ok (.isub, 1) := by decide +kernel
theorem dX10_builds_53 : decode cX10_builds 53 = .ok (.istore_n 1, 1) := by decide +kernel
theorem dX10_builds_54 : decode cX10_builds 54 = .ok (.iconst 1, 1) := by decide +kernel
theorem dX10_builds_55 : decode cX10_builds 55 = .ok (.istore_n 2, 1) := by decide +kernel
theorem dX10_builds_56 : decode cX10_builds 56 = .ok (.aload_n 0, 1) := by decide +kernel
theorem dX10_builds_57 : decode cX10_builds 57 = .ok (.getfield 86, 3) := by decide +kernel
theorem dX10_builds_60 : decode cX10_builds 60 = .ok (.ifCond .ne 66, 3) := by decide +kernel
theorem dX10_builds_63 : decode cX10_builds 63 = .ok (.iload_n 2, 1) := by decide +kernel
theorem dX10_builds_64 : decode cX10_builds 64 = .ok (.iconst 1, 1) := by decide +kernel
theorem dX10_builds_65 : decode cX10_builds 65 = .ok (.if_icmp .eq 11, 3) := by decide +kernel
theorem dX10_builds_68 : decode cX10_builds 68 = .ok (.iload_n 1, 1) := by decide +kernel
theorem dX10_builds_69 : decode cX10_builds 69 = .ok (.aload_n 0, 1) := by decide +kernel
theorem dX10_builds_70 : decode cX10_builds 70 = .ok (.getfield 83, 3) := by decide +kernel
theorem dX10_builds_73 : decode cX10_builds 73 = .ok (.if_icmp .ge 53, 3) := by decide +kernel
theorem dX10_builds_76 : decode cX10_builds 76 = .ok (.aload_n 0, 1) := by decide +kernel
theorem dX10_builds_77 : decode cX10_builds 77 = .ok (.getfield 83, 3) := by decide +kernel
theorem dX10_builds_80 : decode cX10_builds 80 = .ok (.istore_n 1, 1) := by decide +kernel
theorem dX10_builds_81 : decode cX10_builds 81 = .ok (.iconst 0, 1) := by decide +kernel
theorem dX10_builds_82 : decode cX10_builds 82 = .ok (.istore_n 3, 1) := by decide +kernel
theorem dX10_builds_83 : decode cX10_builds 83 = .ok (.iload_n 3, 1) := by decide +kernel
theorem dX10_builds_84 : decode cX10_builds 84 = .ok (.aload_n 0, 1) := by decide +kernel
theorem dX10_builds_85 : decode cX10_builds 85 = .ok (.getfield 77, 3) := by decide +kernel
theorem dX10_builds_88 : decode cX10_builds 88 = .ok (.if_icmp .ge 32, 3) := by decide +kernel
theorem dX10_builds_91 : decode cX10_builds 91 = .ok (.aload_n 0, 1) := by decide +kernel
theorem dX10_builds_92 : decode cX10_builds 92 = .ok (.getfield 86, 3) := by decide +kernel
theorem dX10_builds_95 : decode cX10_builds 95 = .ok (.ifCond .ne 25, 3) := by decide +kernel
theorem dX10_builds_98 : decode cX10_builds 98 = .ok (.aload_n 0, 1) := by decide +kernel
theorem dX10_builds_99 : decode cX10_builds 99 = .ok (.getfield 26, 3) := by decide +kernel
theorem dX10_builds_102 : decode cX10_builds 102 = .ok (.iload_n 3, 1) := by decide +kernel
theorem dX10_builds_103 : decode cX10_builds 103 = .ok (.baload, 1) := by decide +kernel
theorem dX10_builds_104 : decode cX10_builds 104 = .ok (.ifCond .eq 10, 3) := by decide +kernel
theorem dX10_builds_107 : decode cX10_builds 107 = .ok (.aload_n 0, 1) := by decide +kernel
theorem dX10_builds_108 : decode cX10_builds 108 = .ok (.iload_n 3, 1) := by decide +kernel
theorem dX10_builds_109 : decode cX10_builds 109 = .ok (.iload_n 2, 1) := by decide +kernel
theorem dX10_builds_110 : decode cX10_builds 110 = .ok (.iload_n 1, 1) := by decide +kernel
theorem dX10_builds_111 : decode cX10_builds 111 = .ok (.invokevirtual 109, 3) := by decide +kernel
theorem dX10_builds_114 : decode cX10_builds 114 = .ok (.iinc 3 1, 3) := by decide +kernel
theorem dX10_builds_117 : decode cX10_builds 117 = .ok (.goto (-34), 3) := by decide +kernel
theorem dX10_builds_120 : decode cX10_builds 120 = .ok (.iinc 2 1, 3) := by decide +kernel
theorem dX10_builds_123 : decode cX10_builds 123 = .ok (.goto (-67), 3) := by decide +kernel
theorem dX10_builds_126 : decode cX10_builds 126 = .ok (.return_, 1) := by decide +kernel
theorem dX10_strengthOf_0 : decode cX10_strengthOf 0 = .ok (.aload_n 0, 1) := by decide +kernel
theorem dX10_strengthOf_1 : decode cX10_strengthOf 1 = .ok (.getfield 32, 3) := by decide +kernel
theorem dX10_strengthOf_4 : decode cX10_strengthOf 4 = .ok (.iload_n 1, 1) := by decide +kernel
theorem dX10_strengthOf_5 : decode cX10_strengthOf 5 = .ok (.iaload, 1) := by decide +kernel
theorem dX10_strengthOf_6 : decode cX10_strengthOf 6 = .ok (.iconst (-1), 1) := by decide +kernel
theorem dX10_strengthOf_7 : decode cX10_strengthOf 7 = .ok (.if_icmp .ne 8, 3) := by decide +kernel
theorem dX10_strengthOf_10 : decode cX10_strengthOf 10 = .ok (.bipush 10, 2) := by decide +kernel
theorem dX10_strengthOf_12 : decode cX10_strengthOf 12 = .ok (.goto 14, 3) := by decide +kernel
theorem dX10_strengthOf_15 : decode cX10_strengthOf 15 = .ok (.aload_n 0, 1) := by decide +kernel
theorem dX10_strengthOf_16 : decode cX10_strengthOf 16 = .ok (.getfield 20, 3) := by decide +kernel
theorem dX10_strengthOf_19 : decode cX10_strengthOf 19 = .ok (.aload_n 0, 1) := by decide +kernel
theorem dX10_strengthOf_20 : decode cX10_strengthOf 20 = .ok (.getfield 32, 3) := by decide +kernel
theorem dX10_strengthOf_23 : decode cX10_strengthOf 23 = .ok (.iload_n 1, 1) := by decide +kernel
theorem dX10_strengthOf_24 : decode cX10_strengthOf 24 = .ok (.iaload, 1) := by decide +kernel
theorem dX10_strengthOf_25 : decode cX10_strengthOf 25 = .ok (.iaload, 1) := by decide +kernel
theorem dX10_strengthOf_26 : decode cX10_strengthOf 26 = .ok (.ireturn, 1) := by decide +kernel
theorem dX10_opposes_0 : decode cX10_opposes 0 = .ok (.aload_n 0, 1) := by decide +kernel
theorem dX10_opposes_1 : decode cX10_opposes 1 = .ok (.getfield 32, 3) := by decide +kernel
theorem dX10_opposes_4 : decode cX10_opposes 4 = .ok (.iload_n 2, 1) := by decide +kernel
theorem dX10_opposes_5 : decode cX10_opposes 5 = .ok (.iaload, 1) := by decide +kernel
theorem dX10_opposes_6 : decode cX10_opposes 6 = .ok (.iconst (-1), 1) := by decide +kernel
theorem dX10_opposes_7 : decode cX10_opposes 7 = .ok (.if_icmp .ne 5, 3) := by decide +kernel
theorem dX10_opposes_10 : decode cX10_opposes 10 = .ok (.iconst 0, 1) := by decide +kernel
theorem dX10_opposes_11 : decode cX10_opposes 11 = .ok (.ireturn, 1) := by decide +kernel
theorem dX10_opposes_12 : decode cX10_opposes 12 = .ok (.aload_n 0, 1) := by decide +kernel
theorem dX10_opposes_13 : decode cX10_opposes 13 = .ok (.getfield 29, 3) := by decide +kernel
theorem dX10_opposes_16 : decode cX10_opposes 16 = .ok (.iload_n 1, 1) := by decide +kernel
theorem dX10_opposes_17 : decode cX10_opposes 17 = .ok (.iaload, 1) := by decide +kernel
theorem dX10_opposes_18 : decode cX10_opposes 18 = .ok (.aload_n 0, 1) := by decide +kernel
theorem dX10_opposes_19 : decode cX10_opposes 19 = .ok (.getfield 29, 3) := by decide +kernel
theorem dX10_opposes_22 : decode cX10_opposes 22 = .ok (.iload_n 2, 1) := by decide +kernel
theorem dX10_opposes_23 : decode cX10_opposes 23 = .ok (.iaload, 1) := by decide +kernel
theorem dX10_opposes_24 : decode cX10_opposes 24 = .ok (.ineg, 1) := by decide +kernel
theorem dX10_opposes_25 : decode cX10_opposes 25 = .ok (.if_icmp .ne 20, 3) := by decide +kernel
theorem dX10_opposes_28 : decode cX10_opposes 28 = .ok (.aload_n 0, 1) := by decide +kernel
theorem dX10_opposes_29 : decode cX10_opposes 29 = .ok (.iload_n 1, 1) := by decide +kernel
theorem dX10_opposes_30 : decode cX10_opposes 30 = .ok (.invokevirtual 113, 3) := by decide +kernel
theorem dX10_opposes_33 : decode cX10_opposes 33 = .ok (.aload_n 0, 1) := by decide +kernel
theorem dX10_opposes_34 : decode cX10_opposes 34 = .ok (.iload_n 2, 1) := by decide +kernel
theorem dX10_opposes_35 : decode cX10_opposes 35 = .ok (.invokevirtual 113, 3) := by decide +kernel
theorem dX10_opposes_38 : decode cX10_opposes 38 = .ok (.if_icmp .lt 7, 3) := by decide +kernel
theorem dX10_opposes_41 : decode cX10_opposes 41 = .ok (.iconst 1, 1) := by decide +kernel
theorem dX10_opposes_42 : decode cX10_opposes 42 = .ok (.goto 4, 3) := by decide +kernel
theorem dX10_opposes_45 : decode cX10_opposes 45 = .ok (.iconst 0, 1) := by decide +kernel
theorem dX10_opposes_46 : decode cX10_opposes 46 = .ok (.istore_n 3, 1) := by decide +kernel
theorem dX10_opposes_47 : decode cX10_opposes 47 = .ok (.iload_n 3, 1) := by decide +kernel
theorem dX10_opposes_48 : decode cX10_opposes 48 = .ok (.ifCond .ne 23, 3) := by decide +kernel
theorem dX10_opposes_51 : decode cX10_opposes 51 = .ok (.aload_n 0, 1) := by decide +kernel
theorem dX10_opposes_52 : decode cX10_opposes 52 = .ok (.getfield 29, 3) := by decide +kernel
theorem dX10_opposes_55 : decode cX10_opposes 55 = .ok (.iload_n 1, 1) := by decide +kernel
theorem dX10_opposes_56 : decode cX10_opposes 56 = .ok (.iaload, 1) := by decide +kernel
theorem dX10_opposes_57 : decode cX10_opposes 57 = .ok (.aload_n 0, 1) := by decide +kernel
theorem dX10_opposes_58 : decode cX10_opposes 58 = .ok (.getfield 23, 3) := by decide +kernel
theorem dX10_opposes_61 : decode cX10_opposes 61 = .ok (.aload_n 0, 1) := by decide +kernel
theorem dX10_opposes_62 : decode cX10_opposes 62 = .ok (.getfield 32, 3) := by decide +kernel
theorem dX10_opposes_65 : decode cX10_opposes 65 = .ok (.iload_n 2, 1) := by decide +kernel
theorem dX10_opposes_66 : decode cX10_opposes 66 = .ok (.iaload, 1) := by decide +kernel
theorem dX10_opposes_67 : decode cX10_opposes 67 = .ok (.iaload, 1) := by decide +kernel
theorem dX10_opposes_68 : decode cX10_opposes 68 = .ok (.if_icmp .ne 7, 3) := by decide +kernel
theorem dX10_opposes_71 : decode cX10_opposes 71 = .ok (.iconst 1, 1) := by decide +kernel
theorem dX10_opposes_72 : decode cX10_opposes 72 = .ok (.goto 4, 3) := by decide +kernel
theorem dX10_opposes_75 : decode cX10_opposes 75 = .ok (.iconst 0, 1) := by decide +kernel
theorem dX10_opposes_76 : decode cX10_opposes 76 = .ok (.ireturn, 1) := by decide +kernel
theorem dX10_laysAttacks_0 : decode cX10_laysAttacks 0 = .ok (.iconst 0, 1) := by decide +kernel
theorem dX10_laysAttacks_1 : decode cX10_laysAttacks 1 = .ok (.istore_n 1, 1) := by decide +kernel
theorem dX10_laysAttacks_2 : decode cX10_laysAttacks 2 = .ok (.iload_n 1, 1) := by decide +kernel
theorem dX10_laysAttacks_3 : decode cX10_laysAttacks 3 = .ok (.aload_n 0, 1) := by decide +kernel
theorem dX10_laysAttacks_4 : decode cX10_laysAttacks 4 = .ok (.getfield 83, 3) := by decide +kernel
theorem dX10_laysAttacks_7 : decode cX10_laysAttacks 7 = .ok (.if_icmp .ge 101, 3) := by decide +kernel
theorem dX10_laysAttacks_10 : decode cX10_laysAttacks 10 = .ok (.aload_n 0, 1) := by decide +kernel
theorem dX10_laysAttacks_11 : decode cX10_laysAttacks 11 = .ok (.getfield 44, 3) := by decide +kernel
theorem dX10_laysAttacks_14 : decode cX10_laysAttacks 14 = .ok (.iload_n 1, 1) := by decide +kernel
theorem dX10_laysAttacks_15 : decode cX10_laysAttacks 15 = .ok (.iconst 0, 1) := by decide +kernel
theorem dX10_laysAttacks_16 : decode cX10_laysAttacks 16 = .ok (.iastore, 1) := by decide +kernel
theorem dX10_laysAttacks_17 : decode cX10_laysAttacks 17 = .ok (.iconst 0, 1) := by decide +kernel
theorem dX10_laysAttacks_18 : decode cX10_laysAttacks 18 = .ok (.istore_n 2, 1) := by decide +kernel
theorem dX10_laysAttacks_19 : decode cX10_laysAttacks 19 = .ok (.iload_n 2, 1) := by decide +kernel
theorem dX10_laysAttacks_20 : decode cX10_laysAttacks 20 = .ok (.aload_n 0, 1) := by decide +kernel
theorem dX10_laysAttacks_21 : decode cX10_laysAttacks 21 = .ok (.getfield 83, 3) := by decide +kernel
theorem dX10_laysAttacks_24 : decode cX10_laysAttacks 24 = .ok (.if_icmp .ge 78, 3) := by decide +kernel
theorem dX10_laysAttacks_27 : decode cX10_laysAttacks 27 = .ok (.iconst 0, 1) := by decide +kernel
theorem dX10_laysAttacks_28 : decode cX10_laysAttacks 28 = .ok (.istore_n 3, 1) := by decide +kernel
theorem dX10_laysAttacks_29 : decode cX10_laysAttacks 29 = .ok (.iload_n 3, 1) := by decide +kernel
theorem dX10_laysAttacks_30 : decode cX10_laysAttacks 30 = .ok (.iload_n 1, 1) := by decide +kernel
theorem dX10_laysAttacks_31 : decode cX10_laysAttacks 31 = .ok (.if_icmp .gt 65, 3) := by decide +kernel
theorem dX10_laysAttacks_34 : decode cX10_laysAttacks 34 = .ok (.iload_n 3, 1) := by decide +kernel
theorem dX10_laysAttacks_35 : decode cX10_laysAttacks 35 = .ok (.iload_n 1, 1) := by decide +kernel
theorem dX10_laysAttacks_36 : decode cX10_laysAttacks 36 = .ok (.if_icmp .eq 17, 3) := by decide +kernel
theorem dX10_laysAttacks_39 : decode cX10_laysAttacks 39 = .ok (.aload_n 0, 1) := by decide +kernel
theorem dX10_laysAttacks_40 : decode cX10_laysAttacks 40 = .ok (.getfield 41, 3) := by decide +kernel
theorem dX10_laysAttacks_43 : decode cX10_laysAttacks 43 = .ok (.iload_n 1, 1) := by decide +kernel
theorem dX10_laysAttacks_44 : decode cX10_laysAttacks 44 = .ok (.iaload, 1) := by decide +kernel
theorem dX10_laysAttacks_45 : decode cX10_laysAttacks 45 = .ok (.iload_n 3, 1) := by decide +kernel
theorem dX10_laysAttacks_46 : decode cX10_laysAttacks 46 = .ok (.ishr, 1) := by decide +kernel
theorem dX10_laysAttacks_47 : decode cX10_laysAttacks 47 = .ok (.iconst 1, 1) := by decide +kernel
theorem dX10_laysAttacks_48 : decode cX10_laysAttacks 48 = .ok (.iand, 1) := by decide +kernel
theorem dX10_laysAttacks_49 : decode cX10_laysAttacks 49 = .ok (.iconst 1, 1) := by decide +kernel
theorem dX10_laysAttacks_50 : decode cX10_laysAttacks 50 = .ok (.if_icmp .ne 7, 3) := by decide +kernel
theorem dX10_laysAttacks_53 : decode cX10_laysAttacks 53 = .ok (.iconst 1, 1) := by decide +kernel
theorem dX10_laysAttacks_54 : decode cX10_laysAttacks 54 = .ok (.goto 4, 3) := by decide +kernel
theorem dX10_laysAttacks_57 : decode cX10_laysAttacks 57 = .ok (.iconst 0, 1) := by decide +kernel
theorem dX10_laysAttacks_58 : decode cX10_laysAttacks 58 = .ok (.istore 4, 2) := by decide +kernel
theorem dX10_laysAttacks_60 : decode cX10_laysAttacks 60 = .ok (.aload_n 0, 1) := by decide +kernel
theorem dX10_laysAttacks_61 : decode cX10_laysAttacks 61 = .ok (.getfield 44, 3) := by decide +kernel
theorem dX10_laysAttacks_64 : decode cX10_laysAttacks 64 = .ok (.iload_n 1, 1) := by decide +kernel
theorem dX10_laysAttacks_65 : decode cX10_laysAttacks 65 = .ok (.dup2, 1) := by decide +kernel
theorem dX10_laysAttacks_66 : decode cX10_laysAttacks 66 = .ok (.iaload, 1) := by decide +kernel
theorem dX10_laysAttacks_67 : decode cX10_laysAttacks 67 = .ok (.iload 4, 2) := by decide +kernel
theorem dX10_laysAttacks_69 : decode cX10_laysAttacks 69 = .ok (.ifCond .eq 18, 3) := by decide +kernel
theorem dX10_laysAttacks_72 : decode cX10_laysAttacks 72 = .ok (.aload_n 0, 1) := by decide +kernel
theorem dX10_laysAttacks_73 : decode cX10_laysAttacks 73 = .ok (.iload_n 2, 1) := by decide +kernel
theorem dX10_laysAttacks_74 : decode cX10_laysAttacks 74 = .ok (.iload_n 3, 1) := by decide +kernel
theorem dX10_laysAttacks_75 : decode cX10_laysAttacks 75 = .ok (.invokevirtual 116, 3) := by decide +kernel
theorem dX10_laysAttacks_78 : decode cX10_laysAttacks 78 = .ok (.ifCond .eq 9, 3) := by decide +kernel
theorem dX10_laysAttacks_81 : decode cX10_laysAttacks 81 = .ok (.iconst 1, 1) := by decide +kernel
theorem dX10_laysAttacks_82 : decode cX10_laysAttacks 82 = .ok (.iload_n 2, 1) := by decide +kernel
theorem dX10_laysAttacks_83 : decode cX10_laysAttacks 83 = .ok (.ishl, 1) := by decide +kernel
theorem dX10_laysAttacks_84 : decode cX10_laysAttacks 84 = .ok (.goto 4, 3) := by decide +kernel
theorem dX10_laysAttacks_87 : decode cX10_laysAttacks 87 = .ok (.iconst 0, 1) := by decide +kernel
theorem dX10_laysAttacks_88 : decode cX10_laysAttacks 88 = .ok (.ior, 1) := by decide +kernel
theorem dX10_laysAttacks_89 : decode cX10_laysAttacks 89 = .ok (.iastore, 1) := by decide +kernel
theorem dX10_laysAttacks_90 : decode cX10_laysAttacks 90 = .ok (.iinc 3 1, 3) := by decide +kernel
theorem dX10_laysAttacks_93 : decode cX10_laysAttacks 93 = .ok (.goto (-64), 3) := by decide +kernel
theorem dX10_laysAttacks_96 : decode cX10_laysAttacks 96 = .ok (.iinc 2 1, 3) := by decide +kernel
theorem dX10_laysAttacks_99 : decode cX10_laysAttacks 99 = .ok (.goto (-80), 3) := by decide +kernel
theorem dX10_laysAttacks_102 : decode cX10_laysAttacks 102 = .ok (.iinc 1 1, 3) := by decide +kernel
theorem dX10_laysAttacks_105 : decode cX10_laysAttacks 105 = .ok (.goto (-103), 3) := by decide +kernel
theorem dX10_laysAttacks_108 : decode cX10_laysAttacks 108 = .ok (.return_, 1) := by decide +kernel
theorem dX10_isTold_0 : decode cX10_isTold 0 = .ok (.aload_n 0, 1) := by decide +kernel
theorem dX10_isTold_1 : decode cX10_isTold 1 = .ok (.invokevirtual 119, 3) := by decide +kernel
theorem dX10_isTold_4 : decode cX10_isTold 4 = .ok (.aload_n 0, 1) := by decide +kernel
theorem dX10_isTold_5 : decode cX10_isTold 5 = .ok (.getfield 86, 3) := by decide +kernel
theorem dX10_isTold_8 : decode cX10_isTold 8 = .ok (.ifCond .eq 10, 3) := by decide +kernel
theorem dX10_isTold_11 : decode cX10_isTold 11 = .ok (.aload_n 0, 1) := by decide +kernel
theorem dX10_isTold_12 : decode cX10_isTold 12 = .ok (.iload_n 1, 1) := by decide +kernel
theorem dX10_isTold_13 : decode cX10_isTold 13 = .ok (.putfield 59, 3) := by decide +kernel
theorem dX10_isTold_16 : decode cX10_isTold 16 = .ok (.iconst 0, 1) := by decide +kernel
theorem dX10_isTold_17 : decode cX10_isTold 17 = .ok (.ireturn, 1) := by decide +kernel
theorem dX10_isTold_18 : decode cX10_isTold 18 = .ok (.aload_n 0, 1) := by decide +kernel
theorem dX10_isTold_19 : decode cX10_isTold 19 = .ok (.invokevirtual 122, 3) := by decide +kernel
theorem dX10_isTold_22 : decode cX10_isTold 22 = .ok (.iconst 1, 1) := by decide +kernel
theorem dX10_isTold_23 : decode cX10_isTold 23 = .ok (.ireturn, 1) := by decide +kernel
theorem dX10_isArgument_0 : decode cX10_isArgument 0 = .ok (.aload_n 0, 1) := by decide +kernel
theorem dX10_isArgument_1 : decode cX10_isArgument 1 = .ok (.iconst 1, 1) := by decide +kernel
theorem dX10_isArgument_2 : decode cX10_isArgument 2 = .ok (.invokevirtual 125, 3) := by decide +kernel
theorem dX10_isArgument_5 : decode cX10_isArgument 5 = .ok (.ifCond .ne 5, 3) := by decide +kernel
theorem dX10_isArgument_8 : decode cX10_isArgument 8 = .ok (.iconst 0, 1) := by decide +kernel
theorem dX10_isArgument_9 : decode cX10_isArgument 9 = .ok (.ireturn, 1) := by decide +kernel
theorem dX10_isArgument_10 : decode cX10_isArgument 10 = .ok (.aload_n 0, 1) := by decide +kernel
theorem dX10_isArgument_11 : decode cX10_isArgument 11 = .ok (.iload_n 1, 1) := by decide +kernel
theorem dX10_isArgument_12 : decode cX10_isArgument 12 = .ok (.ifCond .lt 15, 3) := by decide +kernel
theorem dX10_isArgument_15 : decode cX10_isArgument 15 = .ok (.iload_n 1, 1) := by decide +kernel
theorem dX10_isArgument_16 : decode cX10_isArgument 16 = .ok (.aload_n 0, 1) := by decide +kernel
theorem dX10_isArgument_17 : decode cX10_isArgument 17 = .ok (.getfield 83, 3) := by decide +kernel
theorem dX10_isArgument_20 : decode cX10_isArgument 20 = .ok (.if_icmp .ge 7, 3) := by decide +kernel
theorem dX10_isArgument_23 : decode cX10_isArgument 23 = .ok (.iconst 0, 1) := by decide +kernel
theorem dX10_isArgument_24 : decode cX10_isArgument 24 = .ok (.goto 4, 3) := by decide +kernel
theorem dX10_isArgument_27 : decode cX10_isArgument 27 = .ok (.iconst 2, 1) := by decide +kernel
theorem dX10_isArgument_28 : decode cX10_isArgument 28 = .ok (.invokevirtual 67, 3) := by decide +kernel
theorem dX10_isArgument_31 : decode cX10_isArgument 31 = .ok (.ireturn, 1) := by decide +kernel
theorem dX10_arguments_0 : decode cX10_arguments 0 = .ok (.aload_n 0, 1) := by decide +kernel
theorem dX10_arguments_1 : decode cX10_arguments 1 = .ok (.iconst 0, 1) := by decide +kernel
theorem dX10_arguments_2 : decode cX10_arguments 2 = .ok (.putfield 59, 3) := by decide +kernel
theorem dX10_arguments_5 : decode cX10_arguments 5 = .ok (.aload_n 0, 1) := by decide +kernel
theorem dX10_arguments_6 : decode cX10_arguments 6 = .ok (.invokevirtual 119, 3) := by decide +kernel
theorem dX10_arguments_9 : decode cX10_arguments 9 = .ok (.aload_n 0, 1) := by decide +kernel
theorem dX10_arguments_10 : decode cX10_arguments 10 = .ok (.getfield 86, 3) := by decide +kernel
theorem dX10_arguments_13 : decode cX10_arguments 13 = .ok (.ifCond .eq 7, 3) := by decide +kernel
theorem dX10_arguments_16 : decode cX10_arguments 16 = .ok (.iconst (-1), 1) := by decide +kernel
theorem dX10_arguments_17 : decode cX10_arguments 17 = .ok (.goto 7, 3) := by decide +kernel
theorem dX10_arguments_20 : decode cX10_arguments 20 = .ok (.aload_n 0, 1) := by decide +kernel
theorem dX10_arguments_21 : decode cX10_arguments 21 = .ok (.getfield 83, 3) := by decide +kernel
theorem dX10_arguments_24 : decode cX10_arguments 24 = .ok (.ireturn, 1) := by decide +kernel
theorem dX10_conclusion_0 : decode cX10_conclusion 0 = .ok (.aload_n 0, 1) := by decide +kernel
theorem dX10_conclusion_1 : decode cX10_conclusion 1 = .ok (.iload_n 1, 1) := by decide +kernel
theorem dX10_conclusion_2 : decode cX10_conclusion 2 = .ok (.invokevirtual 128, 3) := by decide +kernel
theorem dX10_conclusion_5 : decode cX10_conclusion 5 = .ok (.ifCond .eq 12, 3) := by decide +kernel
theorem dX10_conclusion_8 : decode cX10_conclusion 8 = .ok (.aload_n 0, 1) := by decide +kernel
theorem dX10_conclusion_9 : decode cX10_conclusion 9 = .ok (.getfield 29, 3) := by decide +kernel
theorem dX10_conclusion_12 : decode cX10_conclusion 12 = .ok (.iload_n 1, 1) := by decide +kernel
theorem dX10_conclusion_13 : decode cX10_conclusion 13 = .ok (.iaload, 1) := by decide +kernel
theorem dX10_conclusion_14 : decode cX10_conclusion 14 = .ok (.goto 4, 3) := by decide +kernel
theorem dX10_conclusion_17 : decode cX10_conclusion 17 = .ok (.iconst 0, 1) := by decide +kernel
theorem dX10_conclusion_18 : decode cX10_conclusion 18 = .ok (.ireturn, 1) := by decide +kernel
theorem dX10_madeBy_0 : decode cX10_madeBy 0 = .ok (.aload_n 0, 1) := by decide +kernel
theorem dX10_madeBy_1 : decode cX10_madeBy 1 = .ok (.iload_n 1, 1) := by decide +kernel
theorem dX10_madeBy_2 : decode cX10_madeBy 2 = .ok (.invokevirtual 128, 3) := by decide +kernel
theorem dX10_madeBy_5 : decode cX10_madeBy 5 = .ok (.ifCond .eq 12, 3) := by decide +kernel
theorem dX10_madeBy_8 : decode cX10_madeBy 8 = .ok (.aload_n 0, 1) := by decide +kernel
theorem dX10_madeBy_9 : decode cX10_madeBy 9 = .ok (.getfield 32, 3) := by decide +kernel
theorem dX10_madeBy_12 : decode cX10_madeBy 12 = .ok (.iload_n 1, 1) := by decide +kernel
theorem dX10_madeBy_13 : decode cX10_madeBy 13 = .ok (.iaload, 1) := by decide +kernel
theorem dX10_madeBy_14 : decode cX10_madeBy 14 = .ok (.goto 4, 3) := by decide +kernel
theorem dX10_madeBy_17 : decode cX10_madeBy 17 = .ok (.iconst 0, 1) := by decide +kernel
theorem dX10_madeBy_18 : decode cX10_madeBy 18 = .ok (.ireturn, 1) := by decide +kernel
theorem dX10_part_0 : decode cX10_part 0 = .ok (.aload_n 0, 1) := by decide +kernel
theorem dX10_part_1 : decode cX10_part 1 = .ok (.iload_n 1, 1) := by decide +kernel
theorem dX10_part_2 : decode cX10_part 2 = .ok (.invokevirtual 128, 3) := by decide +kernel
theorem dX10_part_5 : decode cX10_part 5 = .ok (.ifCond .ne 5, 3) := by decide +kernel
theorem dX10_part_8 : decode cX10_part 8 = .ok (.iconst 0, 1) := by decide +kernel
theorem dX10_part_9 : decode cX10_part 9 = .ok (.ireturn, 1) := by decide +kernel
theorem dX10_part_10 : decode cX10_part 10 = .ok (.iload_n 2, 1) := by decide +kernel
theorem dX10_part_11 : decode cX10_part 11 = .ok (.ifCond .lt 21, 3) := by decide +kernel
theorem dX10_part_14 : decode cX10_part 14 = .ok (.iload_n 2, 1) := by decide +kernel
theorem dX10_part_15 : decode cX10_part 15 = .ok (.iconst 3, 1) := by decide +kernel
theorem dX10_part_16 : decode cX10_part 16 = .ok (.if_icmp .ge 16, 3) := by decide +kernel
theorem dX10_part_19 : decode cX10_part 19 = .ok (.aload_n 0, 1) := by decide +kernel
theorem dX10_part_20 : decode cX10_part 20 = .ok (.getfield 35, 3) := by decide +kernel
theorem dX10_part_23 : decode cX10_part 23 = .ok (.iconst 3, 1) := by decide +kernel
theorem dX10_part_24 : decode cX10_part 24 = .ok (.iload_n 1, 1) := by decide +kernel
theorem dX10_part_25 : decode cX10_part 25 = .ok (.imul, 1) := by decide +kernel
theorem dX10_part_26 : decode cX10_part 26 = .ok (.iload_n 2, 1) := by decide +kernel
theorem dX10_part_27 : decode cX10_part 27 = .ok (.iadd, 1) := by decide +kernel
theorem dX10_part_28 : decode cX10_part 28 = .ok (.iaload, 1) := by decide +kernel
theorem dX10_part_29 : decode cX10_part 29 = .ok (.goto 4, 3) := by decide +kernel
theorem dX10_part_32 : decode cX10_part 32 = .ok (.iconst (-1), 1) := by decide +kernel
theorem dX10_part_33 : decode cX10_part 33 = .ok (.istore_n 3, 1) := by decide +kernel
theorem dX10_part_34 : decode cX10_part 34 = .ok (.aload_n 0, 1) := by decide +kernel
theorem dX10_part_35 : decode cX10_part 35 = .ok (.iload_n 3, 1) := by decide +kernel
theorem dX10_part_36 : decode cX10_part 36 = .ok (.iconst (-1), 1) := by decide +kernel
theorem dX10_part_37 : decode cX10_part 37 = .ok (.if_icmp .ne 7, 3) := by decide +kernel
theorem dX10_part_40 : decode cX10_part 40 = .ok (.iconst 2, 1) := by decide +kernel
theorem dX10_part_41 : decode cX10_part 41 = .ok (.goto 4, 3) := by decide +kernel
theorem dX10_part_44 : decode cX10_part 44 = .ok (.iconst 0, 1) := by decide +kernel
theorem dX10_part_45 : decode cX10_part 45 = .ok (.invokevirtual 67, 3) := by decide +kernel
theorem dX10_part_48 : decode cX10_part 48 = .ok (.ifCond .eq 7, 3) := by decide +kernel
theorem dX10_part_51 : decode cX10_part 51 = .ok (.iload_n 3, 1) := by decide +kernel
theorem dX10_part_52 : decode cX10_part 52 = .ok (.goto 4, 3) := by decide +kernel
theorem dX10_part_55 : decode cX10_part 55 = .ok (.iconst 0, 1) := by decide +kernel
theorem dX10_part_56 : decode cX10_part 56 = .ok (.ireturn, 1) := by decide +kernel
theorem dX10_depth_0 : decode cX10_depth 0 = .ok (.aload_n 0, 1) := by decide +kernel
theorem dX10_depth_1 : decode cX10_depth 1 = .ok (.iload_n 1, 1) := by decide +kernel
theorem dX10_depth_2 : decode cX10_depth 2 = .ok (.invokevirtual 128, 3) := by decide +kernel
theorem dX10_depth_5 : decode cX10_depth 5 = .ok (.ifCond .eq 12, 3) := by decide +kernel
theorem dX10_depth_8 : decode cX10_depth 8 = .ok (.aload_n 0, 1) := by decide +kernel
theorem dX10_depth_9 : decode cX10_depth 9 = .ok (.getfield 38, 3) := by decide +kernel
theorem dX10_depth_12 : decode cX10_depth 12 = .ok (.iload_n 1, 1) := by decide +kernel
theorem dX10_depth_13 : decode cX10_depth 13 = .ok (.iaload, 1) := by decide +kernel
theorem dX10_depth_14 : decode cX10_depth 14 = .ok (.goto 4, 3) := by decide +kernel
theorem dX10_depth_17 : decode cX10_depth 17 = .ok (.iconst 0, 1) := by decide +kernel
theorem dX10_depth_18 : decode cX10_depth 18 = .ok (.ireturn, 1) := by decide +kernel
theorem dX10_attacks_0 : decode cX10_attacks 0 = .ok (.aload_n 0, 1) := by decide +kernel
theorem dX10_attacks_1 : decode cX10_attacks 1 = .ok (.iload_n 1, 1) := by decide +kernel
theorem dX10_attacks_2 : decode cX10_attacks 2 = .ok (.invokevirtual 128, 3) := by decide +kernel
theorem dX10_attacks_5 : decode cX10_attacks 5 = .ok (.ifCond .eq 29, 3) := by decide +kernel
theorem dX10_attacks_8 : decode cX10_attacks 8 = .ok (.aload_n 0, 1) := by decide +kernel
theorem dX10_attacks_9 : decode cX10_attacks 9 = .ok (.iload_n 2, 1) := by decide +kernel
theorem dX10_attacks_10 : decode cX10_attacks 10 = .ok (.invokevirtual 128, 3) := by decide +kernel
theorem dX10_attacks_13 : decode cX10_attacks 13 = .ok (.ifCond .eq 21, 3) := by decide +kernel
theorem dX10_attacks_16 : decode cX10_attacks 16 = .ok (.aload_n 0, 1) := by decide +kernel
theorem dX10_attacks_17 : decode cX10_attacks 17 = .ok (.getfield 44, 3) := by decide +kernel
theorem dX10_attacks_20 : decode cX10_attacks 20 = .ok (.iload_n 2, 1) := by decide +kernel
theorem dX10_attacks_21 : decode cX10_attacks 21 = .ok (.iaload, 1) := by decide +kernel
theorem dX10_attacks_22 : decode cX10_attacks 22 = .ok (.iload_n 1, 1) := by decide +kernel
theorem dX10_attacks_23 : decode cX10_attacks 23 = .ok (.ishr, 1) := by decide +kernel
theorem dX10_attacks_24 : decode cX10_attacks 24 = .ok (.iconst 1, 1) := by decide +kernel
theorem dX10_attacks_25 : decode cX10_attacks 25 = .ok (.iand, 1) := by decide +kernel
theorem dX10_attacks_26 : decode cX10_attacks 26 = .ok (.iconst 1, 1) := by decide +kernel
theorem dX10_attacks_27 : decode cX10_attacks 27 = .ok (.if_icmp .ne 7, 3) := by decide +kernel
theorem dX10_attacks_30 : decode cX10_attacks 30 = .ok (.iconst 1, 1) := by decide +kernel
theorem dX10_attacks_31 : decode cX10_attacks 31 = .ok (.goto 4, 3) := by decide +kernel
theorem dX10_attacks_34 : decode cX10_attacks 34 = .ok (.iconst 0, 1) := by decide +kernel
theorem dX10_attacks_35 : decode cX10_attacks 35 = .ok (.ireturn, 1) := by decide +kernel
theorem dX10_withLabel_0 : decode cX10_withLabel 0 = .ok (.iconst 0, 1) := by decide +kernel
theorem dX10_withLabel_1 : decode cX10_withLabel 1 = .ok (.istore_n 2, 1) := by decide +kernel
theorem dX10_withLabel_2 : decode cX10_withLabel 2 = .ok (.iconst 0, 1) := by decide +kernel
theorem dX10_withLabel_3 : decode cX10_withLabel 3 = .ok (.istore_n 3, 1) := by decide +kernel
theorem dX10_withLabel_4 : decode cX10_withLabel 4 = .ok (.iload_n 3, 1) := by decide +kernel
theorem dX10_withLabel_5 : decode cX10_withLabel 5 = .ok (.aload_n 0, 1) := by decide +kernel
theorem dX10_withLabel_6 : decode cX10_withLabel 6 = .ok (.getfield 83, 3) := by decide +kernel
theorem dX10_withLabel_9 : decode cX10_withLabel 9 = .ok (.if_icmp .ge 29, 3) := by decide +kernel
theorem dX10_withLabel_12 : decode cX10_withLabel 12 = .ok (.iload_n 2, 1) := by decide +kernel
theorem dX10_withLabel_13 : decode cX10_withLabel 13 = .ok (.aload_n 0, 1) := by decide +kernel
theorem dX10_withLabel_14 : decode cX10_withLabel 14 = .ok (.getfield 47, 3) := by decide +kernel
theorem dX10_withLabel_17 : decode cX10_withLabel 17 = .ok (.iload_n 3, 1) := by decide +kernel
theorem dX10_withLabel_18 : decode cX10_withLabel 18 = .ok (.iaload, 1) := by decide +kernel
theorem dX10_withLabel_19 : decode cX10_withLabel 19 = .ok (.iload_n 1, 1) := by decide +kernel
theorem dX10_withLabel_20 : decode cX10_withLabel 20 = .ok (.if_icmp .ne 9, 3) := by decide +kernel
theorem dX10_withLabel_23 : decode cX10_withLabel 23 = .ok (.iconst 1, 1) := by decide +kernel
theorem dX10_withLabel_24 : decode cX10_withLabel 24 = .ok (.iload_n 3, 1) := by decide +kernel
theorem dX10_withLabel_25 : decode cX10_withLabel 25 = .ok (.ishl, 1) := by decide +kernel
theorem dX10_withLabel_26 : decode cX10_withLabel 26 = .ok (.goto 4, 3) := by decide +kernel
theorem dX10_withLabel_29 : decode cX10_withLabel 29 = .ok (.iconst 0, 1) := by decide +kernel
theorem dX10_withLabel_30 : decode cX10_withLabel 30 = .ok (.ior, 1) := by decide +kernel
theorem dX10_withLabel_31 : decode cX10_withLabel 31 = .ok (.istore_n 2, 1) := by decide +kernel
theorem dX10_withLabel_32 : decode cX10_withLabel 32 = .ok (.iinc 3 1, 3) := by decide +kernel
theorem dX10_withLabel_35 : decode cX10_withLabel 35 = .ok (.goto (-31), 3) := by decide +kernel
theorem dX10_withLabel_38 : decode cX10_withLabel 38 = .ok (.iload_n 2, 1) := by decide +kernel
theorem dX10_withLabel_39 : decode cX10_withLabel 39 = .ok (.ireturn, 1) := by decide +kernel
theorem dX10_labelsAll_0 : decode cX10_labelsAll 0 = .ok (.iconst 0, 1) := by decide +kernel
theorem dX10_labelsAll_1 : decode cX10_labelsAll 1 = .ok (.istore_n 1, 1) := by decide +kernel
theorem dX10_labelsAll_2 : decode cX10_labelsAll 2 = .ok (.iload_n 1, 1) := by decide +kernel
theorem dX10_labelsAll_3 : decode cX10_labelsAll 3 = .ok (.aload_n 0, 1) := by decide +kernel
theorem dX10_labelsAll_4 : decode cX10_labelsAll 4 = .ok (.getfield 83, 3) := by decide +kernel
theorem dX10_labelsAll_7 : decode cX10_labelsAll 7 = .ok (.if_icmp .ge 23, 3) := by decide +kernel
theorem dX10_labelsAll_10 : decode cX10_labelsAll 10 = .ok (.aload_n 0, 1) := by decide +kernel
theorem dX10_labelsAll_11 : decode cX10_labelsAll 11 = .ok (.getfield 47, 3) := by decide +kernel
theorem dX10_labelsAll_14 : decode cX10_labelsAll 14 = .ok (.iload_n 1, 1) := by decide +kernel
theorem dX10_labelsAll_15 : decode cX10_labelsAll 15 = .ok (.iconst 1, 1) := by decide +kernel
theorem dX10_labelsAll_16 : decode cX10_labelsAll 16 = .ok (.iastore, 1) := by decide +kernel
theorem dX10_labelsAll_17 : decode cX10_labelsAll 17 = .ok (.aload_n 0, 1) := by decide +kernel
theorem dX10_labelsAll_18 : decode cX10_labelsAll 18 = .ok (.getfield 50, 3) := by decide +kernel
theorem dX10_labelsAll_21 : decode cX10_labelsAll 21 = .ok (.iload_n 1, 1) := by decide +kernel
theorem dX10_labelsAll_22 : decode cX10_labelsAll 22 = .ok (.iconst 0, 1) := by decide +kernel
theorem dX10_labelsAll_23 : decode cX10_labelsAll 23 = .ok (.iastore, 1) := by decide +kernel
theorem dX10_labelsAll_24 : decode cX10_labelsAll 24 = .ok (.iinc 1 1, 3) := by decide +kernel
theorem dX10_labelsAll_27 : decode cX10_labelsAll 27 = .ok (.goto (-25), 3) := by decide +kernel
theorem dX10_labelsAll_30 : decode cX10_labelsAll 30 = .ok (.iconst (-1), 1) := by decide +kernel
theorem dX10_labelsAll_31 : decode cX10_labelsAll 31 = .ok (.istore_n 1, 1) := by decide +kernel
theorem dX10_labelsAll_32 : decode cX10_labelsAll 32 = .ok (.iconst 1, 1) := by decide +kernel
theorem dX10_labelsAll_33 : decode cX10_labelsAll 33 = .ok (.istore_n 2, 1) := by decide +kernel
theorem dX10_labelsAll_34 : decode cX10_labelsAll 34 = .ok (.iload_n 1, 1) := by decide +kernel
theorem dX10_labelsAll_35 : decode cX10_labelsAll 35 = .ok (.aload_n 0, 1) := by decide +kernel
theorem dX10_labelsAll_36 : decode cX10_labelsAll 36 = .ok (.iconst 1, 1) := by decide +kernel
theorem dX10_labelsAll_37 : decode cX10_labelsAll 37 = .ok (.invokevirtual 131, 3) := by decide +kernel
theorem dX10_labelsAll_40 : decode cX10_labelsAll 40 = .ok (.if_icmp .eq 145, 3) := by decide +kernel
theorem dX10_labelsAll_43 : decode cX10_labelsAll 43 = .ok (.aload_n 0, 1) := by decide +kernel
theorem dX10_labelsAll_44 : decode cX10_labelsAll 44 = .ok (.iconst 1, 1) := by decide +kernel
theorem dX10_labelsAll_45 : decode cX10_labelsAll 45 = .ok (.invokevirtual 131, 3) := by decide +kernel
theorem dX10_labelsAll_48 : decode cX10_labelsAll 48 = .ok (.istore_n 1, 1) := by decide +kernel
theorem dX10_labelsAll_49 : decode cX10_labelsAll 49 = .ok (.aload_n 0, 1) := by decide +kernel
theorem dX10_labelsAll_50 : decode cX10_labelsAll 50 = .ok (.iconst 0, 1) := by decide +kernel
theorem dX10_labelsAll_51 : decode cX10_labelsAll 51 = .ok (.invokevirtual 131, 3) := by decide +kernel
theorem dX10_labelsAll_54 : decode cX10_labelsAll 54 = .ok (.istore_n 3, 1) := by decide +kernel
theorem dX10_labelsAll_55 : decode cX10_labelsAll 55 = .ok (.iconst 0, 1) := by decide +kernel
theorem dX10_labelsAll_56 : decode cX10_labelsAll 56 = .ok (.istore 4, 2) := by decide +kernel
theorem dX10_labelsAll_58 : decode cX10_labelsAll 58 = .ok (.iload 4, 2) := by decide +kernel
theorem dX10_labelsAll_60 : decode cX10_labelsAll 60 = .ok (.aload_n 0, 1) := by decide +kernel
theorem dX10_labelsAll_61 : decode cX10_labelsAll 61 = .ok (.getfield 83, 3) := by decide +kernel
theorem dX10_labelsAll_64 : decode cX10_labelsAll 64 = .ok (.if_icmp .ge 50, 3) := by decide +kernel
theorem dX10_labelsAll_67 : decode cX10_labelsAll 67 = .ok (.aload_n 0, 1) := by decide +kernel
theorem dX10_labelsAll_68 : decode cX10_labelsAll 68 = .ok (.getfield 47, 3) := by decide +kernel
theorem dX10_labelsAll_71 : decode cX10_labelsAll 71 = .ok (.iload 4, 2) := by decide +kernel
theorem dX10_labelsAll_73 : decode cX10_labelsAll 73 = .ok (.iaload, 1) := by decide +kernel
theorem dX10_labelsAll_74 : decode cX10_labelsAll 74 = .ok (.iconst 1, 1) := by decide +kernel
theorem dX10_labelsAll_75 : decode cX10_labelsAll 75 = .ok (.if_icmp .ne 33, 3) := by decide +kernel
theorem dX10_labelsAll_78 : decode cX10_labelsAll 78 = .ok (.aload_n 0, 1) := by decide +kernel
theorem dX10_labelsAll_79 : decode cX10_labelsAll 79 = .ok (.getfield 44, 3) := by decide +kernel
theorem dX10_labelsAll_82 : decode cX10_labelsAll 82 = .ok (.iload 4, 2) := by decide +kernel
theorem dX10_labelsAll_84 : decode cX10_labelsAll 84 = .ok (.iaload, 1) := by decide +kernel
theorem dX10_labelsAll_85 : decode cX10_labelsAll 85 = .ok (.iload_n 3, 1) := by decide +kernel
theorem dX10_labelsAll_86 : decode cX10_labelsAll 86 = .ok (.iconst (-1), 1) := by decide +kernel
theorem dX10_labelsAll_87 : decode cX10_labelsAll 87 = .ok (.ixor, 1) := by decide +kernel
theorem dX10_labelsAll_88 : decode cX10_labelsAll 88 = .ok (.iand, 1) := by decide +kernel
theorem dX10_labelsAll_89 : decode cX10_labelsAll 89 = .ok (.ifCond .ne 19, 3) := by decide +kernel
theorem dX10_labelsAll_92 : decode cX10_labelsAll 92 = .ok (.aload_n 0, 1) := by decide +kernel
theorem dX10_labelsAll_93 : decode cX10_labelsAll 93 = .ok (.getfield 47, 3) := by decide +kernel
theorem dX10_labelsAll_96 : decode cX10_labelsAll 96 = .ok (.iload 4, 2) := by decide +kernel
theorem dX10_labelsAll_98 : decode cX10_labelsAll 98 = .ok (.iconst 2, 1) := by decide +kernel
theorem dX10_labelsAll_99 : decode cX10_labelsAll 99 = .ok (.iastore, 1) := by decide +kernel
theorem dX10_labelsAll_100 : decode cX10_labelsAll 100 = .ok (.aload_n 0, 1) := by decide +kernel
theorem dX10_labelsAll_101 : decode cX10_labelsAll 101 = .ok (.getfield 50, 3) := by decide +kernel
theorem dX10_labelsAll_104 : decode cX10_labelsAll 104 = .ok (.iload 4, 2) := by decide +kernel
theorem dX10_labelsAll_106 : decode cX10_labelsAll 106 = .ok (.iload_n 2, 1) := by decide +kernel
theorem dX10_labelsAll_107 : decode cX10_labelsAll 107 = .ok (.iastore, 1) := by decide +kernel
theorem dX10_labelsAll_108 : decode cX10_labelsAll 108 = .ok (.iinc 4 1, 3) := by decide +kernel
theorem dX10_labelsAll_111 : decode cX10_labelsAll 111 = .ok (.goto (-53), 3) := by decide +kernel
theorem dX10_labelsAll_114 : decode cX10_labelsAll 114 = .ok (.aload_n 0, 1) := by decide +kernel
theorem dX10_labelsAll_115 : decode cX10_labelsAll 115 = .ok (.iconst 2, 1) := by decide +kernel
theorem dX10_labelsAll_116 : decode cX10_labelsAll 116 = .ok (.invokevirtual 131, 3) := by decide +kernel
theorem dX10_labelsAll_119 : decode cX10_labelsAll 119 = .ok (.istore 4, 2) := by decide +kernel
theorem dX10_labelsAll_121 : decode cX10_labelsAll 121 = .ok (.iconst 0, 1) := by decide +kernel
theorem dX10_labelsAll_122 : decode cX10_labelsAll 122 = .ok (.istore 5, 2) := by decide +kernel
theorem dX10_labelsAll_124 : decode cX10_labelsAll 124 = .ok (.iload 5, 2) := by decide +kernel
theorem dX10_labelsAll_126 : decode cX10_labelsAll 126 = .ok (.aload_n 0, 1) := by decide +kernel
theorem dX10_labelsAll_127 : decode cX10_labelsAll 127 = .ok (.getfield 83, 3) := by decide +kernel
theorem dX10_labelsAll_130 : decode cX10_labelsAll 130 = .ok (.if_icmp .ge 49, 3) := by decide +kernel
theorem dX10_labelsAll_133 : decode cX10_labelsAll 133 = .ok (.aload_n 0, 1) := by decide +kernel
theorem dX10_labelsAll_134 : decode cX10_labelsAll 134 = .ok (.getfield 47, 3) := by decide +kernel
theorem dX10_labelsAll_137 : decode cX10_labelsAll 137 = .ok (.iload 5, 2) := by decide +kernel
theorem dX10_labelsAll_139 : decode cX10_labelsAll 139 = .ok (.iaload, 1) := by decide +kernel
theorem dX10_labelsAll_140 : decode cX10_labelsAll 140 = .ok (.iconst 1, 1) := by decide +kernel
theorem dX10_labelsAll_141 : decode cX10_labelsAll 141 = .ok (.if_icmp .ne 32, 3) := by decide +kernel
theorem dX10_labelsAll_144 : decode cX10_labelsAll 144 = .ok (.aload_n 0, 1) := by decide +kernel
theorem dX10_labelsAll_145 : decode cX10_labelsAll 145 = .ok (.getfield 44, 3) := by decide +kernel
theorem dX10_labelsAll_148 : decode cX10_labelsAll 148 = .ok (.iload 5, 2) := by decide +kernel
theorem dX10_labelsAll_150 : decode cX10_labelsAll 150 = .ok (.iaload, 1) := by decide +kernel
theorem dX10_labelsAll_151 : decode cX10_labelsAll 151 = .ok (.iload 4, 2) := by decide +kernel
theorem dX10_labelsAll_153 : decode cX10_labelsAll 153 = .ok (.iand, 1) := by decide +kernel
theorem dX10_labelsAll_154 : decode cX10_labelsAll 154 = .ok (.ifCond .eq 19, 3) := by decide +kernel
theorem dX10_labelsAll_157 : decode cX10_labelsAll 157 = .ok (.aload_n 0, 1) := by decide +kernel
theorem dX10_labelsAll_158 : decode cX10_labelsAll 158 = .ok (.getfield 47, 3) := by decide +kernel
theorem dX10_labelsAll_161 : decode cX10_labelsAll 161 = .ok (.iload 5, 2) := by decide +kernel
theorem dX10_labelsAll_163 : decode cX10_labelsAll 163 = .ok (.iconst 0, 1) := by decide +kernel
theorem dX10_labelsAll_164 : decode cX10_labelsAll 164 = .ok (.iastore, 1) := by decide +kernel
theorem dX10_labelsAll_165 : decode cX10_labelsAll 165 = .ok (.aload_n 0, 1) := by decide +kernel
theorem dX10_labelsAll_166 : decode cX10_labelsAll 166 = .ok (.getfield 50, 3) := by decide +kernel
theorem dX10_labelsAll_169 : decode cX10_labelsAll 169 = .ok (.iload 5, 2) := by decide +kernel
theorem dX10_labelsAll_171 : decode cX10_labelsAll 171 = .ok (.iload_n 2, 1) := by decide +kernel
theorem dX10_labelsAll_172 : decode cX10_labelsAll 172 = .ok (.iastore, 1) := by decide +kernel
theorem dX10_labelsAll_173 : decode cX10_labelsAll 173 = .ok (.iinc 5 1, 3) := by decide +kernel
theorem dX10_labelsAll_176 : decode cX10_labelsAll 176 = .ok (.goto (-52), 3) := by decide +kernel
theorem dX10_labelsAll_179 : decode cX10_labelsAll 179 = .ok (.iinc 2 1, 3) := by decide +kernel
theorem dX10_labelsAll_182 : decode cX10_labelsAll 182 = .ok (.goto (-148), 3) := by decide +kernel
theorem dX10_labelsAll_185 : decode cX10_labelsAll 185 = .ok (.return_, 1) := by decide +kernel
theorem dX10_label_0 : decode cX10_label 0 = .ok (.aload_n 0, 1) := by decide +kernel
theorem dX10_label_1 : decode cX10_label 1 = .ok (.iload_n 1, 1) := by decide +kernel
theorem dX10_label_2 : decode cX10_label 2 = .ok (.invokevirtual 128, 3) := by decide +kernel
theorem dX10_label_5 : decode cX10_label 5 = .ok (.ifCond .ne 5, 3) := by decide +kernel
theorem dX10_label_8 : decode cX10_label 8 = .ok (.iconst 0, 1) := by decide +kernel
theorem dX10_label_9 : decode cX10_label 9 = .ok (.ireturn, 1) := by decide +kernel
theorem dX10_label_10 : decode cX10_label 10 = .ok (.aload_n 0, 1) := by decide +kernel
theorem dX10_label_11 : decode cX10_label 11 = .ok (.invokevirtual 134, 3) := by decide +kernel
theorem dX10_label_14 : decode cX10_label 14 = .ok (.aload_n 0, 1) := by decide +kernel
theorem dX10_label_15 : decode cX10_label 15 = .ok (.getfield 47, 3) := by decide +kernel
theorem dX10_label_18 : decode cX10_label 18 = .ok (.iload_n 1, 1) := by decide +kernel
theorem dX10_label_19 : decode cX10_label 19 = .ok (.iaload, 1) := by decide +kernel
theorem dX10_label_20 : decode cX10_label 20 = .ok (.ireturn, 1) := by decide +kernel
theorem dX10_round_0 : decode cX10_round 0 = .ok (.aload_n 0, 1) := by decide +kernel
theorem dX10_round_1 : decode cX10_round 1 = .ok (.iload_n 1, 1) := by decide +kernel
theorem dX10_round_2 : decode cX10_round 2 = .ok (.invokevirtual 128, 3) := by decide +kernel
theorem dX10_round_5 : decode cX10_round 5 = .ok (.ifCond .ne 5, 3) := by decide +kernel
theorem dX10_round_8 : decode cX10_round 8 = .ok (.iconst 0, 1) := by decide +kernel
theorem dX10_round_9 : decode cX10_round 9 = .ok (.ireturn, 1) := by decide +kernel
theorem dX10_round_10 : decode cX10_round 10 = .ok (.aload_n 0, 1) := by decide +kernel
theorem dX10_round_11 : decode cX10_round 11 = .ok (.invokevirtual 134, 3) := by decide +kernel
theorem dX10_round_14 : decode cX10_round 14 = .ok (.aload_n 0, 1) := by decide +kernel
theorem dX10_round_15 : decode cX10_round 15 = .ok (.getfield 50, 3) := by decide +kernel
theorem dX10_round_18 : decode cX10_round 18 = .ok (.iload_n 1, 1) := by decide +kernel
theorem dX10_round_19 : decode cX10_round 19 = .ok (.iaload, 1) := by decide +kernel
theorem dX10_round_20 : decode cX10_round 20 = .ok (.ireturn, 1) := by decide +kernel
theorem dX10_isAsked_0 : decode cX10_isAsked 0 = .ok (.aload_n 0, 1) := by decide +kernel
theorem dX10_isAsked_1 : decode cX10_isAsked 1 = .ok (.iload_n 1, 1) := by decide +kernel
theorem dX10_isAsked_2 : decode cX10_isAsked 2 = .ok (.invokestatic 63, 3) := by decide +kernel
theorem dX10_isAsked_5 : decode cX10_isAsked 5 = .ok (.ifCond .eq 7, 3) := by decide +kernel
theorem dX10_isAsked_8 : decode cX10_isAsked 8 = .ok (.iconst 0, 1) := by decide +kernel
theorem dX10_isAsked_9 : decode cX10_isAsked 9 = .ok (.goto 4, 3) := by decide +kernel
theorem dX10_isAsked_12 : decode cX10_isAsked 12 = .ok (.iconst 1, 1) := by decide +kernel
theorem dX10_isAsked_13 : decode cX10_isAsked 13 = .ok (.invokevirtual 67, 3) := by decide +kernel
theorem dX10_isAsked_16 : decode cX10_isAsked 16 = .ok (.ifCond .eq 11, 3) := by decide +kernel
theorem dX10_isAsked_19 : decode cX10_isAsked 19 = .ok (.aload_n 0, 1) := by decide +kernel
theorem dX10_isAsked_20 : decode cX10_isAsked 20 = .ok (.iconst 2, 1) := by decide +kernel
theorem dX10_isAsked_21 : decode cX10_isAsked 21 = .ok (.invokevirtual 125, 3) := by decide +kernel
theorem dX10_isAsked_24 : decode cX10_isAsked 24 = .ok (.ifCond .ne 5, 3) := by decide +kernel
theorem dX10_isAsked_27 : decode cX10_isAsked 27 = .ok (.iconst 0, 1) := by decide +kernel
theorem dX10_isAsked_28 : decode cX10_isAsked 28 = .ok (.ireturn, 1) := by decide +kernel
theorem dX10_isAsked_29 : decode cX10_isAsked 29 = .ok (.aload_n 0, 1) := by decide +kernel
theorem dX10_isAsked_30 : decode cX10_isAsked 30 = .ok (.invokevirtual 134, 3) := by decide +kernel
theorem dX10_isAsked_33 : decode cX10_isAsked 33 = .ok (.iconst 1, 1) := by decide +kernel
theorem dX10_isAsked_34 : decode cX10_isAsked 34 = .ok (.ireturn, 1) := by decide +kernel
theorem dX10_holds_0 : decode cX10_holds 0 = .ok (.iconst 0, 1) := by decide +kernel
theorem dX10_holds_1 : decode cX10_holds 1 = .ok (.istore_n 2, 1) := by decide +kernel
theorem dX10_holds_2 : decode cX10_holds 2 = .ok (.aload_n 0, 1) := by decide +kernel
theorem dX10_holds_3 : decode cX10_holds 3 = .ok (.iload_n 1, 1) := by decide +kernel
theorem dX10_holds_4 : decode cX10_holds 4 = .ok (.invokevirtual 137, 3) := by decide +kernel
theorem dX10_holds_7 : decode cX10_holds 7 = .ok (.ifCond .eq 50, 3) := by decide +kernel
theorem dX10_holds_10 : decode cX10_holds 10 = .ok (.iconst 0, 1) := by decide +kernel
theorem dX10_holds_11 : decode cX10_holds 11 = .ok (.istore_n 3, 1) := by decide +kernel
theorem dX10_holds_12 : decode cX10_holds 12 = .ok (.iload_n 3, 1) := by decide +kernel
theorem dX10_holds_13 : decode cX10_holds 13 = .ok (.aload_n 0, 1) := by decide +kernel
theorem dX10_holds_14 : decode cX10_holds 14 = .ok (.getfield 83, 3) := by decide +kernel
theorem dX10_holds_17 : decode cX10_holds 17 = .ok (.if_icmp .ge 40, 3) := by decide +kernel
theorem dX10_holds_20 : decode cX10_holds 20 = .ok (.aload_n 0, 1) := by decide +kernel
theorem dX10_holds_21 : decode cX10_holds 21 = .ok (.getfield 29, 3) := by decide +kernel
theorem dX10_holds_24 : decode cX10_holds 24 = .ok (.iload_n 3, 1) := by decide +kernel
theorem dX10_holds_25 : decode cX10_holds 25 = .ok (.iaload, 1) := by decide +kernel
theorem dX10_holds_26 : decode cX10_holds 26 = .ok (.iload_n 1, 1) := by decide +kernel
theorem dX10_holds_27 : decode cX10_holds 27 = .ok (.if_icmp .ne 22, 3) := by decide +kernel
theorem dX10_holds_30 : decode cX10_holds 30 = .ok (.aload_n 0, 1) := by decide +kernel
theorem dX10_holds_31 : decode cX10_holds 31 = .ok (.getfield 47, 3) := by decide +kernel
theorem dX10_holds_34 : decode cX10_holds 34 = .ok (.iload_n 3, 1) := by decide +kernel
theorem dX10_holds_35 : decode cX10_holds 35 = .ok (.iaload, 1) := by decide +kernel
theorem dX10_holds_36 : decode cX10_holds 36 = .ok (.iload_n 2, 1) := by decide +kernel
theorem dX10_holds_37 : decode cX10_holds 37 = .ok (.if_icmp .le 12, 3) := by decide +kernel
theorem dX10_holds_40 : decode cX10_holds 40 = .ok (.aload_n 0, 1) := by decide +kernel
theorem dX10_holds_41 : decode cX10_holds 41 = .ok (.getfield 47, 3) := by decide +kernel
theorem dX10_holds_44 : decode cX10_holds 44 = .ok (.iload_n 3, 1) := by decide +kernel
theorem dX10_holds_45 : decode cX10_holds 45 = .ok (.iaload, 1) := by decide +kernel
theorem dX10_holds_46 : decode cX10_holds 46 = .ok (.goto 4, 3) := by decide +kernel
theorem dX10_holds_49 : decode cX10_holds 49 = .ok (.iload_n 2, 1) := by decide +kernel
theorem dX10_holds_50 : decode cX10_holds 50 = .ok (.istore_n 2, 1) := by decide +kernel
theorem dX10_holds_51 : decode cX10_holds 51 = .ok (.iinc 3 1, 3) := by decide +kernel
theorem dX10_holds_54 : decode cX10_holds 54 = .ok (.goto (-42), 3) := by decide +kernel
theorem dX10_holds_57 : decode cX10_holds 57 = .ok (.iload_n 2, 1) := by decide +kernel
theorem dX10_holds_58 : decode cX10_holds 58 = .ok (.ireturn, 1) := by decide +kernel
theorem dX10_reasonFor_0 : decode cX10_reasonFor 0 = .ok (.aload_n 0, 1) := by decide +kernel
theorem dX10_reasonFor_1 : decode cX10_reasonFor 1 = .ok (.iload_n 1, 1) := by decide +kernel
theorem dX10_reasonFor_2 : decode cX10_reasonFor 2 = .ok (.invokevirtual 137, 3) := by decide +kernel
theorem dX10_reasonFor_5 : decode cX10_reasonFor 5 = .ok (.ifCond .ne 5, 3) := by decide +kernel
theorem dX10_reasonFor_8 : decode cX10_reasonFor 8 = .ok (.iconst 0, 1) := by decide +kernel
theorem dX10_reasonFor_9 : decode cX10_reasonFor 9 = .ok (.ireturn, 1) := by decide +kernel
theorem dX10_reasonFor_10 : decode cX10_reasonFor 10 = .ok (.iconst (-1), 1) := by decide +kernel
theorem dX10_reasonFor_11 : decode cX10_reasonFor 11 = .ok (.istore_n 2, 1) := by decide +kernel
theorem dX10_reasonFor_12 : decode cX10_reasonFor 12 = .ok (.aload_n 0, 1) := by decide +kernel
theorem dX10_reasonFor_13 : decode cX10_reasonFor 13 = .ok (.getfield 83, 3) := by decide +kernel
theorem dX10_reasonFor_16 : decode cX10_reasonFor 16 = .ok (.iconst 1, 1) := by decide +kernel
theorem dX10_reasonFor_17 : decode cX10_reasonFor 17 = .ok (.isub, 1) := by decide +kernel
theorem dX10_reasonFor_18 : decode cX10_reasonFor 18 = .ok (.istore_n 3, 1) := by decide +kernel
theorem dX10_reasonFor_19 : decode cX10_reasonFor 19 = .ok (.iload_n 3, 1) := by decide +kernel
theorem dX10_reasonFor_20 : decode cX10_reasonFor 20 = .ok (.ifCond .lt 35, 3) := by decide +kernel
theorem dX10_reasonFor_23 : decode cX10_reasonFor 23 = .ok (.aload_n 0, 1) := by decide +kernel
theorem dX10_reasonFor_24 : decode cX10_reasonFor 24 = .ok (.getfield 29, 3) := by decide +kernel
theorem dX10_reasonFor_27 : decode cX10_reasonFor 27 = .ok (.iload_n 3, 1) := by decide +kernel
theorem dX10_reasonFor_28 : decode cX10_reasonFor 28 = .ok (.iaload, 1) := by decide +kernel
theorem dX10_reasonFor_29 : decode cX10_reasonFor 29 = .ok (.iload_n 1, 1) := by decide +kernel
theorem dX10_reasonFor_30 : decode cX10_reasonFor 30 = .ok (.if_icmp .ne 17, 3) := by decide +kernel
theorem dX10_reasonFor_33 : decode cX10_reasonFor 33 = .ok (.aload_n 0, 1) := by decide +kernel
theorem dX10_reasonFor_34 : decode cX10_reasonFor 34 = .ok (.getfield 47, 3) := by decide +kernel
theorem dX10_reasonFor_37 : decode cX10_reasonFor 37 = .ok (.iload_n 3, 1) := by decide +kernel
theorem dX10_reasonFor_38 : decode cX10_reasonFor 38 = .ok (.iaload, 1) := by decide +kernel
theorem dX10_reasonFor_39 : decode cX10_reasonFor 39 = .ok (.iconst 2, 1) := by decide +kernel
theorem dX10_reasonFor_40 : decode cX10_reasonFor 40 = .ok (.if_icmp .ne 7, 3) := by decide +kernel
theorem dX10_reasonFor_43 : decode cX10_reasonFor 43 = .ok (.iload_n 3, 1) := by decide +kernel
theorem dX10_reasonFor_44 : decode cX10_reasonFor 44 = .ok (.goto 4, 3) := by decide +kernel
theorem dX10_reasonFor_47 : decode cX10_reasonFor 47 = .ok (.iload_n 2, 1) := by decide +kernel
theorem dX10_reasonFor_48 : decode cX10_reasonFor 48 = .ok (.istore_n 2, 1) := by decide +kernel
theorem dX10_reasonFor_49 : decode cX10_reasonFor 49 = .ok (.iinc 3 (-1), 3) := by decide +kernel
theorem dX10_reasonFor_52 : decode cX10_reasonFor 52 = .ok (.goto (-33), 3) := by decide +kernel
theorem dX10_reasonFor_55 : decode cX10_reasonFor 55 = .ok (.iload_n 2, 1) := by decide +kernel
theorem dX10_reasonFor_56 : decode cX10_reasonFor 56 = .ok (.ireturn, 1) := by decide +kernel
theorem dX10_lowest_0 : decode cX10_lowest 0 = .ok (.iconst (-1), 1) := by decide +kernel
theorem dX10_lowest_1 : decode cX10_lowest 1 = .ok (.istore_n 1, 1) := by decide +kernel
theorem dX10_lowest_2 : decode cX10_lowest 2 = .ok (.bipush 23, 2) := by decide +kernel
theorem dX10_lowest_4 : decode cX10_lowest 4 = .ok (.istore_n 2, 1) := by decide +kernel
theorem dX10_lowest_5 : decode cX10_lowest 5 = .ok (.iload_n 2, 1) := by decide +kernel
theorem dX10_lowest_6 : decode cX10_lowest 6 = .ok (.ifCond .lt 24, 3) := by decide +kernel
theorem dX10_lowest_9 : decode cX10_lowest 9 = .ok (.iload_n 0, 1) := by decide +kernel
theorem dX10_lowest_10 : decode cX10_lowest 10 = .ok (.iload_n 2, 1) := by decide +kernel
theorem dX10_lowest_11 : decode cX10_lowest 11 = .ok (.ishr, 1) := by decide +kernel
theorem dX10_lowest_12 : decode cX10_lowest 12 = .ok (.iconst 1, 1) := by decide +kernel
theorem dX10_lowest_13 : decode cX10_lowest 13 = .ok (.iand, 1) := by decide +kernel
theorem dX10_lowest_14 : decode cX10_lowest 14 = .ok (.iconst 1, 1) := by decide +kernel
theorem dX10_lowest_15 : decode cX10_lowest 15 = .ok (.if_icmp .ne 7, 3) := by decide +kernel
theorem dX10_lowest_18 : decode cX10_lowest 18 = .ok (.iload_n 2, 1) := by decide +kernel
theorem dX10_lowest_19 : decode cX10_lowest 19 = .ok (.goto 4, 3) := by decide +kernel
theorem dX10_lowest_22 : decode cX10_lowest 22 = .ok (.iload_n 1, 1) := by decide +kernel
theorem dX10_lowest_23 : decode cX10_lowest 23 = .ok (.istore_n 1, 1) := by decide +kernel
theorem dX10_lowest_24 : decode cX10_lowest 24 = .ok (.iinc 2 (-1), 3) := by decide +kernel
theorem dX10_lowest_27 : decode cX10_lowest 27 = .ok (.goto (-22), 3) := by decide +kernel
theorem dX10_lowest_30 : decode cX10_lowest 30 = .ok (.iload_n 1, 1) := by decide +kernel
theorem dX10_lowest_31 : decode cX10_lowest 31 = .ok (.ireturn, 1) := by decide +kernel
theorem dX10_reasonAgainst_0 : decode cX10_reasonAgainst 0 = .ok (.aload_n 0, 1) := by decide +kernel
theorem dX10_reasonAgainst_1 : decode cX10_reasonAgainst 1 = .ok (.iload_n 1, 1) := by decide +kernel
theorem dX10_reasonAgainst_2 : decode cX10_reasonAgainst 2 = .ok (.invokevirtual 128, 3) := by decide +kernel
theorem dX10_reasonAgainst_5 : decode cX10_reasonAgainst 5 = .ok (.ifCond .ne 5, 3) := by decide +kernel
theorem dX10_reasonAgainst_8 : decode cX10_reasonAgainst 8 = .ok (.iconst 0, 1) := by decide +kernel
theorem dX10_reasonAgainst_9 : decode cX10_reasonAgainst 9 = .ok (.ireturn, 1) := by decide +kernel
theorem dX10_reasonAgainst_10 : decode cX10_reasonAgainst 10 = .ok (.aload_n 0, 1) := by decide +kernel
theorem dX10_reasonAgainst_11 : decode cX10_reasonAgainst 11 = .ok (.invokevirtual 134, 3) := by decide +kernel
theorem dX10_reasonAgainst_14 : decode cX10_reasonAgainst 14 = .ok (.aload_n 0, 1) := by decide +kernel
theorem dX10_reasonAgainst_15 : decode cX10_reasonAgainst 15 = .ok (.getfield 44, 3) := by decide +kernel
theorem dX10_reasonAgainst_18 : decode cX10_reasonAgainst 18 = .ok (.iload_n 1, 1) := by decide +kernel
theorem dX10_reasonAgainst_19 : decode cX10_reasonAgainst 19 = .ok (.iaload, 1) := by decide +kernel
theorem dX10_reasonAgainst_20 : decode cX10_reasonAgainst 20 = .ok (.aload_n 0, 1) := by decide +kernel
theorem dX10_reasonAgainst_21 : decode cX10_reasonAgainst 21 = .ok (.iconst 2, 1) := by decide +kernel
theorem dX10_reasonAgainst_22 : decode cX10_reasonAgainst 22 = .ok (.invokevirtual 131, 3) := by decide +kernel
theorem dX10_reasonAgainst_25 : decode cX10_reasonAgainst 25 = .ok (.iand, 1) := by decide +kernel
theorem dX10_reasonAgainst_26 : decode cX10_reasonAgainst 26 = .ok (.istore_n 2, 1) := by decide +kernel
theorem dX10_reasonAgainst_27 : decode cX10_reasonAgainst 27 = .ok (.iload_n 2, 1) := by decide +kernel
theorem dX10_reasonAgainst_28 : decode cX10_reasonAgainst 28 = .ok (.ifCond .eq 7, 3) := by decide +kernel
theorem dX10_reasonAgainst_31 : decode cX10_reasonAgainst 31 = .ok (.iload_n 2, 1) := by decide +kernel
theorem dX10_reasonAgainst_32 : decode cX10_reasonAgainst 32 = .ok (.goto 15, 3) := by decide +kernel
theorem dX10_reasonAgainst_35 : decode cX10_reasonAgainst 35 = .ok (.aload_n 0, 1) := by decide +kernel
theorem dX10_reasonAgainst_36 : decode cX10_reasonAgainst 36 = .ok (.getfield 44, 3) := by decide +kernel
theorem dX10_reasonAgainst_39 : decode cX10_reasonAgainst 39 = .ok (.iload_n 1, 1) := by decide +kernel
theorem dX10_reasonAgainst_40 : decode cX10_reasonAgainst 40 = .ok (.iaload, 1) := by decide +kernel
theorem dX10_reasonAgainst_41 : decode cX10_reasonAgainst 41 = .ok (.aload_n 0, 1) := by decide +kernel
theorem dX10_reasonAgainst_42 : decode cX10_reasonAgainst 42 = .ok (.iconst 1, 1) := by decide +kernel
theorem dX10_reasonAgainst_43 : decode cX10_reasonAgainst 43 = .ok (.invokevirtual 131, 3) := by decide +kernel
theorem dX10_reasonAgainst_46 : decode cX10_reasonAgainst 46 = .ok (.iand, 1) := by decide +kernel
theorem dX10_reasonAgainst_47 : decode cX10_reasonAgainst 47 = .ok (.invokestatic 140, 3) := by decide +kernel
theorem dX10_reasonAgainst_50 : decode cX10_reasonAgainst 50 = .ok (.ireturn, 1) := by decide +kernel
theorem dX10_has_0 : decode cX10_has 0 = .ok (.iload_n 1, 1) := by decide +kernel
theorem dX10_has_1 : decode cX10_has 1 = .ok (.aload_n 0, 1) := by decide +kernel
theorem dX10_has_2 : decode cX10_has 2 = .ok (.getfield 83, 3) := by decide +kernel
theorem dX10_has_5 : decode cX10_has 5 = .ok (.iconst 1, 1) := by decide +kernel
theorem dX10_has_6 : decode cX10_has 6 = .ok (.isub, 1) := by decide +kernel
theorem dX10_has_7 : decode cX10_has 7 = .ok (.iload_n 2, 1) := by decide +kernel
theorem dX10_has_8 : decode cX10_has 8 = .ok (.isub, 1) := by decide +kernel
theorem dX10_has_9 : decode cX10_has 9 = .ok (.ishr, 1) := by decide +kernel
theorem dX10_has_10 : decode cX10_has 10 = .ok (.iconst 1, 1) := by decide +kernel
theorem dX10_has_11 : decode cX10_has 11 = .ok (.iand, 1) := by decide +kernel
theorem dX10_has_12 : decode cX10_has 12 = .ok (.iconst 1, 1) := by decide +kernel
theorem dX10_has_13 : decode cX10_has 13 = .ok (.if_icmp .ne 7, 3) := by decide +kernel
theorem dX10_has_16 : decode cX10_has 16 = .ok (.iconst 1, 1) := by decide +kernel
theorem dX10_has_17 : decode cX10_has 17 = .ok (.goto 4, 3) := by decide +kernel
theorem dX10_has_20 : decode cX10_has 20 = .ok (.iconst 0, 1) := by decide +kernel
theorem dX10_has_21 : decode cX10_has 21 = .ok (.ireturn, 1) := by decide +kernel
theorem dX10_turned_0 : decode cX10_turned 0 = .ok (.iconst 0, 1) := by decide +kernel
theorem dX10_turned_1 : decode cX10_turned 1 = .ok (.istore_n 2, 1) := by decide +kernel
theorem dX10_turned_2 : decode cX10_turned 2 = .ok (.iconst 0, 1) := by decide +kernel
theorem dX10_turned_3 : decode cX10_turned 3 = .ok (.istore_n 3, 1) := by decide +kernel
theorem dX10_turned_4 : decode cX10_turned 4 = .ok (.iload_n 3, 1) := by decide +kernel
theorem dX10_turned_5 : decode cX10_turned 5 = .ok (.aload_n 0, 1) := by decide +kernel
theorem dX10_turned_6 : decode cX10_turned 6 = .ok (.getfield 83, 3) := by decide +kernel
theorem dX10_turned_9 : decode cX10_turned 9 = .ok (.if_icmp .ge 28, 3) := by decide +kernel
theorem dX10_turned_12 : decode cX10_turned 12 = .ok (.iload_n 2, 1) := by decide +kernel
theorem dX10_turned_13 : decode cX10_turned 13 = .ok (.aload_n 0, 1) := by decide +kernel
theorem dX10_turned_14 : decode cX10_turned 14 = .ok (.iload_n 1, 1) := by decide +kernel
theorem dX10_turned_15 : decode cX10_turned 15 = .ok (.iload_n 3, 1) := by decide +kernel
theorem dX10_turned_16 : decode cX10_turned 16 = .ok (.invokevirtual 143, 3) := by decide +kernel
theorem dX10_turned_19 : decode cX10_turned 19 = .ok (.ifCond .eq 9, 3) := by decide +kernel
theorem dX10_turned_22 : decode cX10_turned 22 = .ok (.iconst 1, 1) := by decide +kernel
theorem dX10_turned_23 : decode cX10_turned 23 = .ok (.iload_n 3, 1) := by decide +kernel
theorem dX10_turned_24 : decode cX10_turned 24 = .ok (.ishl, 1) := by decide +kernel
theorem dX10_turned_25 : decode cX10_turned 25 = .ok (.goto 4, 3) := by decide +kernel
theorem dX10_turned_28 : decode cX10_turned 28 = .ok (.iconst 0, 1) := by decide +kernel
theorem dX10_turned_29 : decode cX10_turned 29 = .ok (.ior, 1) := by decide +kernel
theorem dX10_turned_30 : decode cX10_turned 30 = .ok (.istore_n 2, 1) := by decide +kernel
theorem dX10_turned_31 : decode cX10_turned 31 = .ok (.iinc 3 1, 3) := by decide +kernel
theorem dX10_turned_34 : decode cX10_turned 34 = .ok (.goto (-30), 3) := by decide +kernel
theorem dX10_turned_37 : decode cX10_turned 37 = .ok (.iload_n 2, 1) := by decide +kernel
theorem dX10_turned_38 : decode cX10_turned 38 = .ok (.ireturn, 1) := by decide +kernel
theorem dX10_isAdmissible_0 : decode cX10_isAdmissible 0 = .ok (.aload_n 0, 1) := by decide +kernel
theorem dX10_isAdmissible_1 : decode cX10_isAdmissible 1 = .ok (.iload_n 1, 1) := by decide +kernel
theorem dX10_isAdmissible_2 : decode cX10_isAdmissible 2 = .ok (.invokevirtual 146, 3) := by decide +kernel
theorem dX10_isAdmissible_5 : decode cX10_isAdmissible 5 = .ok (.istore_n 2, 1) := by decide +kernel
theorem dX10_isAdmissible_6 : decode cX10_isAdmissible 6 = .ok (.iconst 0, 1) := by decide +kernel
theorem dX10_isAdmissible_7 : decode cX10_isAdmissible 7 = .ok (.istore_n 3, 1) := by decide +kernel
theorem dX10_isAdmissible_8 : decode cX10_isAdmissible 8 = .ok (.iconst 0, 1) := by decide +kernel
theorem dX10_isAdmissible_9 : decode cX10_isAdmissible 9 = .ok (.istore 4, 2) := by decide +kernel
theorem dX10_isAdmissible_11 : decode cX10_isAdmissible 11 = .ok (.iload 4, 2) := by decide +kernel
theorem dX10_isAdmissible_13 : decode cX10_isAdmissible 13 = .ok (.aload_n 0, 1) := by decide +kernel
theorem dX10_isAdmissible_14 : decode cX10_isAdmissible 14 = .ok (.getfield 83, 3) := by decide +kernel
theorem dX10_isAdmissible_17 : decode cX10_isAdmissible 17 = .ok (.if_icmp .ge 33, 3) := by decide +kernel
theorem dX10_isAdmissible_20 : decode cX10_isAdmissible 20 = .ok (.iload_n 3, 1) := by decide +kernel
theorem dX10_isAdmissible_21 : decode cX10_isAdmissible 21 = .ok (.aload_n 0, 1) := by decide +kernel
theorem dX10_isAdmissible_22 : decode cX10_isAdmissible 22 = .ok (.iload_n 1, 1) := by decide +kernel
theorem dX10_isAdmissible_23 : decode cX10_isAdmissible 23 = .ok (.iload 4, 2) := by decide +kernel
theorem dX10_isAdmissible_25 : decode cX10_isAdmissible 25 = .ok (.invokevirtual 143, 3) := by decide +kernel
theorem dX10_isAdmissible_28 : decode cX10_isAdmissible 28 = .ok (.ifCond .eq 13, 3) := by decide +kernel
theorem dX10_isAdmissible_31 : decode cX10_isAdmissible 31 = .ok (.aload_n 0, 1) := by decide +kernel
theorem dX10_isAdmissible_32 : decode cX10_isAdmissible 32 = .ok (.getfield 44, 3) := by decide +kernel
theorem dX10_isAdmissible_35 : decode cX10_isAdmissible 35 = .ok (.iload 4, 2) := by decide +kernel
theorem dX10_isAdmissible_37 : decode cX10_isAdmissible 37 = .ok (.iaload, 1) := by decide +kernel
theorem dX10_isAdmissible_38 : decode cX10_isAdmissible 38 = .ok (.goto 4, 3) := by decide +kernel
theorem dX10_isAdmissible_41 : decode cX10_isAdmissible 41 = .ok (.iconst 0, 1) := by decide +kernel
theorem dX10_isAdmissible_42 : decode cX10_isAdmissible 42 = .ok (.ior, 1) := by decide +kernel
theorem dX10_isAdmissible_43 : decode cX10_isAdmissible 43 = .ok (.istore_n 3, 1) := by decide +kernel
theorem dX10_isAdmissible_44 : decode cX10_isAdmissible 44 = .ok (.iinc 4 1, 3) := by decide +kernel
theorem dX10_isAdmissible_47 : decode cX10_isAdmissible 47 = .ok (.goto (-36), 3) := by decide +kernel
theorem dX10_isAdmissible_50 : decode cX10_isAdmissible 50 = .ok (.iload_n 3, 1) := by decide +kernel
theorem dX10_isAdmissible_51 : decode cX10_isAdmissible 51 = .ok (.iload_n 2, 1) := by decide +kernel
theorem dX10_isAdmissible_52 : decode cX10_isAdmissible 52 = .ok (.iand, 1) := by decide +kernel
theorem dX10_isAdmissible_53 : decode cX10_isAdmissible 53 = .ok (.ifCond .ne 7, 3) := by decide +kernel
theorem dX10_isAdmissible_56 : decode cX10_isAdmissible 56 = .ok (.iconst 1, 1) := by decide +kernel
theorem dX10_isAdmissible_57 : decode cX10_isAdmissible 57 = .ok (.goto 4, 3) := by decide +kernel
theorem dX10_isAdmissible_60 : decode cX10_isAdmissible 60 = .ok (.iconst 0, 1) := by decide +kernel
theorem dX10_isAdmissible_61 : decode cX10_isAdmissible 61 = .ok (.istore 4, 2) := by decide +kernel
theorem dX10_isAdmissible_63 : decode cX10_isAdmissible 63 = .ok (.iconst 0, 1) := by decide +kernel
theorem dX10_isAdmissible_64 : decode cX10_isAdmissible 64 = .ok (.istore 5, 2) := by decide +kernel
theorem dX10_isAdmissible_66 : decode cX10_isAdmissible 66 = .ok (.iload 5, 2) := by decide +kernel
theorem dX10_isAdmissible_68 : decode cX10_isAdmissible 68 = .ok (.aload_n 0, 1) := by decide +kernel
theorem dX10_isAdmissible_69 : decode cX10_isAdmissible 69 = .ok (.getfield 83, 3) := by decide +kernel
theorem dX10_isAdmissible_72 : decode cX10_isAdmissible 72 = .ok (.if_icmp .ge 42, 3) := by decide +kernel
theorem dX10_isAdmissible_75 : decode cX10_isAdmissible 75 = .ok (.iload 4, 2) := by decide +kernel
theorem dX10_isAdmissible_77 : decode cX10_isAdmissible 77 = .ok (.ifCond .eq 37, 3) := by decide +kernel
theorem dX10_isAdmissible_80 : decode cX10_isAdmissible 80 = .ok (.iload_n 3, 1) := by decide +kernel
theorem dX10_isAdmissible_81 : decode cX10_isAdmissible 81 = .ok (.iload 5, 2) := by decide +kernel
theorem dX10_isAdmissible_83 : decode cX10_isAdmissible 83 = .ok (.ishr, 1) := by decide +kernel
theorem dX10_isAdmissible_84 : decode cX10_isAdmissible 84 = .ok (.iconst 1, 1) := by decide +kernel
theorem dX10_isAdmissible_85 : decode cX10_isAdmissible 85 = .ok (.iand, 1) := by decide +kernel
theorem dX10_isAdmissible_86 : decode cX10_isAdmissible 86 = .ok (.ifCond .eq 15, 3) := by decide +kernel
theorem dX10_isAdmissible_89 : decode cX10_isAdmissible 89 = .ok (.aload_n 0, 1) := by decide +kernel
theorem dX10_isAdmissible_90 : decode cX10_isAdmissible 90 = .ok (.getfield 44, 3) := by decide +kernel
theorem dX10_isAdmissible_93 : decode cX10_isAdmissible 93 = .ok (.iload 5, 2) := by decide +kernel
theorem dX10_isAdmissible_95 : decode cX10_isAdmissible 95 = .ok (.iaload, 1) := by decide +kernel
theorem dX10_isAdmissible_96 : decode cX10_isAdmissible 96 = .ok (.iload_n 2, 1) := by decide +kernel
theorem dX10_isAdmissible_97 : decode cX10_isAdmissible 97 = .ok (.iand, 1) := by decide +kernel
theorem dX10_isAdmissible_98 : decode cX10_isAdmissible 98 = .ok (.ifCond .eq 7, 3) := by decide +kernel
theorem dX10_isAdmissible_101 : decode cX10_isAdmissible 101 = .ok (.iconst 1, 1) := by decide +kernel
theorem dX10_isAdmissible_102 : decode cX10_isAdmissible 102 = .ok (.goto 4, 3) := by decide +kernel
theorem dX10_isAdmissible_105 : decode cX10_isAdmissible 105 = .ok (.iconst 0, 1) := by decide +kernel
theorem dX10_isAdmissible_106 : decode cX10_isAdmissible 106 = .ok (.istore 4, 2) := by decide +kernel
theorem dX10_isAdmissible_108 : decode cX10_isAdmissible 108 = .ok (.iinc 5 1, 3) := by decide +kernel
theorem dX10_isAdmissible_111 : decode cX10_isAdmissible 111 = .ok (.goto (-45), 3) := by decide +kernel
theorem dX10_isAdmissible_114 : decode cX10_isAdmissible 114 = .ok (.iload 4, 2) := by decide +kernel
theorem dX10_isAdmissible_116 : decode cX10_isAdmissible 116 = .ok (.ireturn, 1) := by decide +kernel
theorem dX10_prefers_0 : decode cX10_prefers 0 = .ok (.iconst 0, 1) := by decide +kernel
theorem dX10_prefers_1 : decode cX10_prefers 1 = .ok (.istore_n 1, 1) := by decide +kernel
theorem dX10_prefers_2 : decode cX10_prefers 2 = .ok (.iconst 1, 1) := by decide +kernel
theorem dX10_prefers_3 : decode cX10_prefers 3 = .ok (.aload_n 0, 1) := by decide +kernel
theorem dX10_prefers_4 : decode cX10_prefers 4 = .ok (.getfield 83, 3) := by decide +kernel
theorem dX10_prefers_7 : decode cX10_prefers 7 = .ok (.ishl, 1) := by decide +kernel
theorem dX10_prefers_8 : decode cX10_prefers 8 = .ok (.iconst 1, 1) := by decide +kernel
theorem dX10_prefers_9 : decode cX10_prefers 9 = .ok (.isub, 1) := by decide +kernel
theorem dX10_prefers_10 : decode cX10_prefers 10 = .ok (.istore_n 2, 1) := by decide +kernel
theorem dX10_prefers_11 : decode cX10_prefers 11 = .ok (.iload_n 2, 1) := by decide +kernel
theorem dX10_prefers_12 : decode cX10_prefers 12 = .ok (.ifCond .lt 122, 3) := by decide +kernel
theorem dX10_prefers_15 : decode cX10_prefers 15 = .ok (.aload_n 0, 1) := by decide +kernel
theorem dX10_prefers_16 : decode cX10_prefers 16 = .ok (.getfield 53, 3) := by decide +kernel
theorem dX10_prefers_19 : decode cX10_prefers 19 = .ok (.iload_n 2, 1) := by decide +kernel
theorem dX10_prefers_20 : decode cX10_prefers 20 = .ok (.aload_n 0, 1) := by decide +kernel
theorem dX10_prefers_21 : decode cX10_prefers 21 = .ok (.iload_n 2, 1) := by decide +kernel
theorem dX10_prefers_22 : decode cX10_prefers 22 = .ok (.invokevirtual 149, 3) := by decide +kernel
theorem dX10_prefers_25 : decode cX10_prefers 25 = .ok (.bastore, 1) := by decide +kernel
theorem dX10_prefers_26 : decode cX10_prefers 26 = .ok (.aload_n 0, 1) := by decide +kernel
theorem dX10_prefers_27 : decode cX10_prefers 27 = .ok (.getfield 56, 3) := by decide +kernel
theorem dX10_prefers_30 : decode cX10_prefers 30 = .ok (.iload_n 2, 1) := by decide +kernel
theorem dX10_prefers_31 : decode cX10_prefers 31 = .ok (.iconst 0, 1) := by decide +kernel
theorem dX10_prefers_32 : decode cX10_prefers 32 = .ok (.bastore, 1) := by decide +kernel
theorem dX10_prefers_33 : decode cX10_prefers 33 = .ok (.iconst 0, 1) := by decide +kernel
theorem dX10_prefers_34 : decode cX10_prefers 34 = .ok (.istore_n 3, 1) := by decide +kernel
theorem dX10_prefers_35 : decode cX10_prefers 35 = .ok (.iload_n 3, 1) := by decide +kernel
theorem dX10_prefers_36 : decode cX10_prefers 36 = .ok (.aload_n 0, 1) := by decide +kernel
theorem dX10_prefers_37 : decode cX10_prefers 37 = .ok (.getfield 83, 3) := by decide +kernel
theorem dX10_prefers_40 : decode cX10_prefers 40 = .ok (.if_icmp .ge 62, 3) := by decide +kernel
theorem dX10_prefers_43 : decode cX10_prefers 43 = .ok (.iload_n 2, 1) := by decide +kernel
theorem dX10_prefers_44 : decode cX10_prefers 44 = .ok (.iconst 1, 1) := by decide +kernel
theorem dX10_prefers_45 : decode cX10_prefers 45 = .ok (.iload_n 3, 1) := by decide +kernel
theorem dX10_prefers_46 : decode cX10_prefers 46 = .ok (.ishl, 1) := by decide +kernel
theorem dX10_prefers_47 : decode cX10_prefers 47 = .ok (.ior, 1) := by decide +kernel
theorem dX10_prefers_48 : decode cX10_prefers 48 = .ok (.istore 4, 2) := by decide +kernel
theorem dX10_prefers_50 : decode cX10_prefers 50 = .ok (.aload_n 0, 1) := by decide +kernel
theorem dX10_prefers_51 : decode cX10_prefers 51 = .ok (.getfield 56, 3) := by decide +kernel
theorem dX10_prefers_54 : decode cX10_prefers 54 = .ok (.iload_n 2, 1) := by decide +kernel
theorem dX10_prefers_55 : decode cX10_prefers 55 = .ok (.aload_n 0, 1) := by decide +kernel
theorem dX10_prefers_56 : decode cX10_prefers 56 = .ok (.getfield 56, 3) := by decide +kernel
theorem dX10_prefers_59 : decode cX10_prefers 59 = .ok (.iload_n 2, 1) := by decide +kernel
theorem dX10_prefers_60 : decode cX10_prefers 60 = .ok (.baload, 1) := by decide +kernel
theorem dX10_prefers_61 : decode cX10_prefers 61 = .ok (.ifCond .ne 29, 3) := by decide +kernel
theorem dX10_prefers_64 : decode cX10_prefers 64 = .ok (.iload 4, 2) := by decide +kernel
theorem dX10_prefers_66 : decode cX10_prefers 66 = .ok (.iload_n 2, 1) := by decide +kernel
theorem dX10_prefers_67 : decode cX10_prefers 67 = .ok (.if_icmp .eq 27, 3) := by decide +kernel
theorem dX10_prefers_70 : decode cX10_prefers 70 = .ok (.aload_n 0, 1) := by decide +kernel
theorem dX10_prefers_71 : decode cX10_prefers 71 = .ok (.getfield 53, 3) := by decide +kernel
theorem dX10_prefers_74 : decode cX10_prefers 74 = .ok (.iload 4, 2) := by decide +kernel
theorem dX10_prefers_76 : decode cX10_prefers 76 = .ok (.baload, 1) := by decide +kernel
theorem dX10_prefers_77 : decode cX10_prefers 77 = .ok (.ifCond .ne 13, 3) := by decide +kernel
theorem dX10_prefers_80 : decode cX10_prefers 80 = .ok (.aload_n 0, 1) := by decide +kernel
theorem dX10_prefers_81 : decode cX10_prefers 81 = .ok (.getfield 56, 3) := by decide +kernel
theorem dX10_prefers_84 : decode cX10_prefers 84 = .ok (.iload 4, 2) := by decide +kernel
theorem dX10_prefers_86 : decode cX10_prefers 86 = .ok (.baload, 1) := by decide +kernel
theorem dX10_prefers_87 : decode cX10_prefers 87 = .ok (.ifCond .eq 7, 3) := by decide +kernel
theorem dX10_prefers_90 : decode cX10_prefers 90 = .ok (.iconst 1, 1) := by decide +kernel
theorem dX10_prefers_91 : decode cX10_prefers 91 = .ok (.goto 4, 3) := by decide +kernel
theorem dX10_prefers_94 : decode cX10_prefers 94 = .ok (.iconst 0, 1) := by decide +kernel
theorem dX10_prefers_95 : decode cX10_prefers 95 = .ok (.bastore, 1) := by decide +kernel
theorem dX10_prefers_96 : decode cX10_prefers 96 = .ok (.iinc 3 1, 3) := by decide +kernel
theorem dX10_prefers_99 : decode cX10_prefers 99 = .ok (.goto (-64), 3) := by decide +kernel
theorem dX10_prefers_102 : decode cX10_prefers 102 = .ok (.iload_n 1, 1) := by decide +kernel
theorem dX10_prefers_103 : decode cX10_prefers 103 = .ok (.aload_n 0, 1) := by decide +kernel
theorem dX10_prefers_104 : decode cX10_prefers 104 = .ok (.getfield 53, 3) := by decide +kernel
theorem dX10_prefers_107 : decode cX10_prefers 107 = .ok (.iload_n 2, 1) := by decide +kernel
theorem dX10_prefers_108 : decode cX10_prefers 108 = .ok (.baload, 1) := by decide +kernel
theorem dX10_prefers_109 : decode cX10_prefers 109 = .ok (.ifCond .eq 16, 3) := by decide +kernel
theorem dX10_prefers_112 : decode cX10_prefers 112 = .ok (.aload_n 0, 1) := by decide +kernel
theorem dX10_prefers_113 : decode cX10_prefers 113 = .ok (.getfield 56, 3) := by decide +kernel
theorem dX10_prefers_116 : decode cX10_prefers 116 = .ok (.iload_n 2, 1) := by decide +kernel
theorem dX10_prefers_117 : decode cX10_prefers 117 = .ok (.baload, 1) := by decide +kernel
theorem dX10_prefers_118 : decode cX10_prefers 118 = .ok (.ifCond .ne 7, 3) := by decide +kernel
theorem dX10_prefers_121 : decode cX10_prefers 121 = .ok (.iconst 1, 1) := by decide +kernel
theorem dX10_prefers_122 : decode cX10_prefers 122 = .ok (.goto 4, 3) := by decide +kernel
theorem dX10_prefers_125 : decode cX10_prefers 125 = .ok (.iconst 0, 1) := by decide +kernel
theorem dX10_prefers_126 : decode cX10_prefers 126 = .ok (.iadd, 1) := by decide +kernel
theorem dX10_prefers_127 : decode cX10_prefers 127 = .ok (.istore_n 1, 1) := by decide +kernel
theorem dX10_prefers_128 : decode cX10_prefers 128 = .ok (.iinc 2 (-1), 3) := by decide +kernel
theorem dX10_prefers_131 : decode cX10_prefers 131 = .ok (.goto (-120), 3) := by decide +kernel
theorem dX10_prefers_134 : decode cX10_prefers 134 = .ok (.iload_n 1, 1) := by decide +kernel
theorem dX10_prefers_135 : decode cX10_prefers 135 = .ok (.ireturn, 1) := by decide +kernel
theorem dX10_areFew_0 : decode cX10_areFew 0 = .ok (.aload_n 0, 1) := by decide +kernel
theorem dX10_areFew_1 : decode cX10_areFew 1 = .ok (.invokevirtual 119, 3) := by decide +kernel
theorem dX10_areFew_4 : decode cX10_areFew 4 = .ok (.aload_n 0, 1) := by decide +kernel
theorem dX10_areFew_5 : decode cX10_areFew 5 = .ok (.getfield 86, 3) := by decide +kernel
theorem dX10_areFew_8 : decode cX10_areFew 8 = .ok (.ifCond .ne 12, 3) := by decide +kernel
theorem dX10_areFew_11 : decode cX10_areFew 11 = .ok (.aload_n 0, 1) := by decide +kernel
theorem dX10_areFew_12 : decode cX10_areFew 12 = .ok (.getfield 83, 3) := by decide +kernel
theorem dX10_areFew_15 : decode cX10_areFew 15 = .ok (.bipush 14, 2) := by decide +kernel
theorem dX10_areFew_17 : decode cX10_areFew 17 = .ok (.if_icmp .le 10, 3) := by decide +kernel
theorem dX10_areFew_20 : decode cX10_areFew 20 = .ok (.aload_n 0, 1) := by decide +kernel
theorem dX10_areFew_21 : decode cX10_areFew 21 = .ok (.iload_n 1, 1) := by decide +kernel
theorem dX10_areFew_22 : decode cX10_areFew 22 = .ok (.putfield 59, 3) := by decide +kernel
theorem dX10_areFew_25 : decode cX10_areFew 25 = .ok (.iconst 0, 1) := by decide +kernel
theorem dX10_areFew_26 : decode cX10_areFew 26 = .ok (.ireturn, 1) := by decide +kernel
theorem dX10_areFew_27 : decode cX10_areFew 27 = .ok (.aload_n 0, 1) := by decide +kernel
theorem dX10_areFew_28 : decode cX10_areFew 28 = .ok (.invokevirtual 122, 3) := by decide +kernel
theorem dX10_areFew_31 : decode cX10_areFew 31 = .ok (.aload_n 0, 1) := by decide +kernel
theorem dX10_areFew_32 : decode cX10_areFew 32 = .ok (.iconst 0, 1) := by decide +kernel
theorem dX10_areFew_33 : decode cX10_areFew 33 = .ok (.putfield 59, 3) := by decide +kernel
theorem dX10_areFew_36 : decode cX10_areFew 36 = .ok (.iconst 1, 1) := by decide +kernel
theorem dX10_areFew_37 : decode cX10_areFew 37 = .ok (.ireturn, 1) := by decide +kernel
theorem dX10_preferred_0 : decode cX10_preferred 0 = .ok (.aload_n 0, 1) := by decide +kernel
theorem dX10_preferred_1 : decode cX10_preferred 1 = .ok (.iconst 1, 1) := by decide +kernel
theorem dX10_preferred_2 : decode cX10_preferred 2 = .ok (.invokevirtual 152, 3) := by decide +kernel
theorem dX10_preferred_5 : decode cX10_preferred 5 = .ok (.ifCond .eq 10, 3) := by decide +kernel
theorem dX10_preferred_8 : decode cX10_preferred 8 = .ok (.aload_n 0, 1) := by decide +kernel
theorem dX10_preferred_9 : decode cX10_preferred 9 = .ok (.invokevirtual 155, 3) := by decide +kernel
theorem dX10_preferred_12 : decode cX10_preferred 12 = .ok (.goto 4, 3) := by decide +kernel
theorem dX10_preferred_15 : decode cX10_preferred 15 = .ok (.iconst 0, 1) := by decide +kernel
theorem dX10_preferred_16 : decode cX10_preferred 16 = .ok (.ireturn, 1) := by decide +kernel
theorem dX10_preferredByAllSets_0 : decode cX10_preferredByAllSets 0 = .ok (.aload_n 0, 1) := by decide +kernel
theorem dX10_preferredByAllSets_1 : decode cX10_preferredByAllSets 1 = .ok (.iconst 1, 1) := by decide +kernel
theorem dX10_preferredByAllSets_2 : decode cX10_preferredByAllSets 2 = .ok (.invokevirtual 152, 3) := by decide +kernel
theorem dX10_preferredByAllSets_5 : decode cX10_preferredByAllSets 5 = .ok (.ifCond .eq 10, 3) := by decide +kernel
theorem dX10_preferredByAllSets_8 : decode cX10_preferredByAllSets 8 = .ok (.aload_n 0, 1) := by decide +kernel
theorem dX10_preferredByAllSets_9 : decode cX10_preferredByAllSets 9 = .ok (.invokevirtual 155, 3) := by decide +kernel
theorem dX10_preferredByAllSets_12 : decode cX10_preferredByAllSets 12 = .ok (.goto 4, 3) := by decide +kernel
theorem dX10_preferredByAllSets_15 : decode cX10_preferredByAllSets 15 = .ok (.iconst 0, 1) := by decide +kernel
theorem dX10_preferredByAllSets_16 : decode cX10_preferredByAllSets 16 = .ok (.ireturn, 1) := by decide +kernel
theorem dX10_setAt_0 : decode cX10_setAt 0 = .ok (.iload_n 1, 1) := by decide +kernel
theorem dX10_setAt_1 : decode cX10_setAt 1 = .ok (.istore_n 2, 1) := by decide +kernel
theorem dX10_setAt_2 : decode cX10_setAt 2 = .ok (.iconst 1, 1) := by decide +kernel
theorem dX10_setAt_3 : decode cX10_setAt 3 = .ok (.aload_n 0, 1) := by decide +kernel
theorem dX10_setAt_4 : decode cX10_setAt 4 = .ok (.getfield 83, 3) := by decide +kernel
theorem dX10_setAt_7 : decode cX10_setAt 7 = .ok (.ishl, 1) := by decide +kernel
theorem dX10_setAt_8 : decode cX10_setAt 8 = .ok (.istore_n 3, 1) := by decide +kernel
theorem dX10_setAt_9 : decode cX10_setAt 9 = .ok (.iload_n 2, 1) := by decide +kernel
theorem dX10_setAt_10 : decode cX10_setAt 10 = .ok (.ifCond .lt 35, 3) := by decide +kernel
theorem dX10_setAt_13 : decode cX10_setAt 13 = .ok (.iinc 3 (-1), 3) := by decide +kernel
theorem dX10_setAt_16 : decode cX10_setAt 16 = .ok (.iload_n 2, 1) := by decide +kernel
theorem dX10_setAt_17 : decode cX10_setAt 17 = .ok (.aload_n 0, 1) := by decide +kernel
theorem dX10_setAt_18 : decode cX10_setAt 18 = .ok (.getfield 53, 3) := by decide +kernel
theorem dX10_setAt_21 : decode cX10_setAt 21 = .ok (.iload_n 3, 1) := by decide +kernel
theorem dX10_setAt_22 : decode cX10_setAt 22 = .ok (.baload, 1) := by decide +kernel
theorem dX10_setAt_23 : decode cX10_setAt 23 = .ok (.ifCond .eq 16, 3) := by decide +kernel
theorem dX10_setAt_26 : decode cX10_setAt 26 = .ok (.aload_n 0, 1) := by decide +kernel
theorem dX10_setAt_27 : decode cX10_setAt 27 = .ok (.getfield 56, 3) := by decide +kernel
theorem dX10_setAt_30 : decode cX10_setAt 30 = .ok (.iload_n 3, 1) := by decide +kernel
theorem dX10_setAt_31 : decode cX10_setAt 31 = .ok (.baload, 1) := by decide +kernel
theorem dX10_setAt_32 : decode cX10_setAt 32 = .ok (.ifCond .ne 7, 3) := by decide +kernel
theorem dX10_setAt_35 : decode cX10_setAt 35 = .ok (.iconst 1, 1) := by decide +kernel
theorem dX10_setAt_36 : decode cX10_setAt 36 = .ok (.goto 4, 3) := by decide +kernel
theorem dX10_setAt_39 : decode cX10_setAt 39 = .ok (.iconst 0, 1) := by decide +kernel
theorem dX10_setAt_40 : decode cX10_setAt 40 = .ok (.isub, 1) := by decide +kernel
theorem dX10_setAt_41 : decode cX10_setAt 41 = .ok (.istore_n 2, 1) := by decide +kernel
theorem dX10_setAt_42 : decode cX10_setAt 42 = .ok (.goto (-33), 3) := by decide +kernel
theorem dX10_setAt_45 : decode cX10_setAt 45 = .ok (.iload_n 3, 1) := by decide +kernel
theorem dX10_setAt_46 : decode cX10_setAt 46 = .ok (.ireturn, 1) := by decide +kernel
theorem dX10_isInSet_0 : decode cX10_isInSet 0 = .ok (.aload_n 0, 1) := by decide +kernel
theorem dX10_isInSet_1 : decode cX10_isInSet 1 = .ok (.iconst 1, 1) := by decide +kernel
theorem dX10_isInSet_2 : decode cX10_isInSet 2 = .ok (.invokevirtual 152, 3) := by decide +kernel
theorem dX10_isInSet_5 : decode cX10_isInSet 5 = .ok (.ifCond .ne 5, 3) := by decide +kernel
theorem dX10_isInSet_8 : decode cX10_isInSet 8 = .ok (.iconst 0, 1) := by decide +kernel
theorem dX10_isInSet_9 : decode cX10_isInSet 9 = .ok (.ireturn, 1) := by decide +kernel
theorem dX10_isInSet_10 : decode cX10_isInSet 10 = .ok (.aload_n 0, 1) := by decide +kernel
theorem dX10_isInSet_11 : decode cX10_isInSet 11 = .ok (.invokevirtual 155, 3) := by decide +kernel
theorem dX10_isInSet_14 : decode cX10_isInSet 14 = .ok (.istore_n 3, 1) := by decide +kernel
theorem dX10_isInSet_15 : decode cX10_isInSet 15 = .ok (.aload_n 0, 1) := by decide +kernel
theorem dX10_isInSet_16 : decode cX10_isInSet 16 = .ok (.iload_n 1, 1) := by decide +kernel
theorem dX10_isInSet_17 : decode cX10_isInSet 17 = .ok (.ifCond .lt 24, 3) := by decide +kernel
theorem dX10_isInSet_20 : decode cX10_isInSet 20 = .ok (.iload_n 1, 1) := by decide +kernel
theorem dX10_isInSet_21 : decode cX10_isInSet 21 = .ok (.iload_n 3, 1) := by decide +kernel
theorem dX10_isInSet_22 : decode cX10_isInSet 22 = .ok (.if_icmp .ge 19, 3) := by decide +kernel
theorem dX10_isInSet_25 : decode cX10_isInSet 25 = .ok (.iload_n 2, 1) := by decide +kernel
theorem dX10_isInSet_26 : decode cX10_isInSet 26 = .ok (.ifCond .lt 15, 3) := by decide +kernel
theorem dX10_isInSet_29 : decode cX10_isInSet 29 = .ok (.iload_n 2, 1) := by decide +kernel
theorem dX10_isInSet_30 : decode cX10_isInSet 30 = .ok (.aload_n 0, 1) := by decide +kernel
theorem dX10_isInSet_31 : decode cX10_isInSet 31 = .ok (.getfield 83, 3) := by decide +kernel
theorem dX10_isInSet_34 : decode cX10_isInSet 34 = .ok (.if_icmp .ge 7, 3) := by decide +kernel
theorem dX10_isInSet_37 : decode cX10_isInSet 37 = .ok (.iconst 0, 1) := by decide +kernel
theorem dX10_isInSet_38 : decode cX10_isInSet 38 = .ok (.goto 4, 3) := by decide +kernel
theorem dX10_isInSet_41 : decode cX10_isInSet 41 = .ok (.iconst 2, 1) := by decide +kernel
theorem dX10_isInSet_42 : decode cX10_isInSet 42 = .ok (.invokevirtual 67, 3) := by decide +kernel
theorem dX10_isInSet_45 : decode cX10_isInSet 45 = .ok (.ifCond .eq 20, 3) := by decide +kernel
theorem dX10_isInSet_48 : decode cX10_isInSet 48 = .ok (.aload_n 0, 1) := by decide +kernel
theorem dX10_isInSet_49 : decode cX10_isInSet 49 = .ok (.aload_n 0, 1) := by decide +kernel
theorem dX10_isInSet_50 : decode cX10_isInSet 50 = .ok (.iload_n 1, 1) := by decide +kernel
theorem dX10_isInSet_51 : decode cX10_isInSet 51 = .ok (.invokevirtual 158, 3) := by decide +kernel
theorem dX10_isInSet_54 : decode cX10_isInSet 54 = .ok (.iload_n 2, 1) := by decide +kernel
theorem dX10_isInSet_55 : decode cX10_isInSet 55 = .ok (.invokevirtual 143, 3) := by decide +kernel
theorem dX10_isInSet_58 : decode cX10_isInSet 58 = .ok (.ifCond .eq 7, 3) := by decide +kernel
theorem dX10_isInSet_61 : decode cX10_isInSet 61 = .ok (.iconst 1, 1) := by decide +kernel
theorem dX10_isInSet_62 : decode cX10_isInSet 62 = .ok (.goto 4, 3) := by decide +kernel
theorem dX10_isInSet_65 : decode cX10_isInSet 65 = .ok (.iconst 0, 1) := by decide +kernel
theorem dX10_isInSet_66 : decode cX10_isInSet 66 = .ok (.ireturn, 1) := by decide +kernel
theorem dX10_setsFor_0 : decode cX10_setsFor 0 = .ok (.aload_n 0, 1) := by decide +kernel
theorem dX10_setsFor_1 : decode cX10_setsFor 1 = .ok (.iload_n 1, 1) := by decide +kernel
theorem dX10_setsFor_2 : decode cX10_setsFor 2 = .ok (.invokestatic 63, 3) := by decide +kernel
theorem dX10_setsFor_5 : decode cX10_setsFor 5 = .ok (.ifCond .eq 7, 3) := by decide +kernel
theorem dX10_setsFor_8 : decode cX10_setsFor 8 = .ok (.iconst 0, 1) := by decide +kernel
theorem dX10_setsFor_9 : decode cX10_setsFor 9 = .ok (.goto 4, 3) := by decide +kernel
theorem dX10_setsFor_12 : decode cX10_setsFor 12 = .ok (.iconst 1, 1) := by decide +kernel
theorem dX10_setsFor_13 : decode cX10_setsFor 13 = .ok (.invokevirtual 67, 3) := by decide +kernel
theorem dX10_setsFor_16 : decode cX10_setsFor 16 = .ok (.ifCond .eq 11, 3) := by decide +kernel
theorem dX10_setsFor_19 : decode cX10_setsFor 19 = .ok (.aload_n 0, 1) := by decide +kernel
theorem dX10_setsFor_20 : decode cX10_setsFor 20 = .ok (.iconst 2, 1) := by decide +kernel
theorem dX10_setsFor_21 : decode cX10_setsFor 21 = .ok (.invokevirtual 152, 3) := by decide +kernel
theorem dX10_setsFor_24 : decode cX10_setsFor 24 = .ok (.ifCond .ne 5, 3) := by decide +kernel
theorem dX10_setsFor_27 : decode cX10_setsFor 27 = .ok (.iconst 0, 1) := by decide +kernel
theorem dX10_setsFor_28 : decode cX10_setsFor 28 = .ok (.ireturn, 1) := by decide +kernel
theorem dX10_setsFor_29 : decode cX10_setsFor 29 = .ok (.aload_n 0, 1) := by decide +kernel
theorem dX10_setsFor_30 : decode cX10_setsFor 30 = .ok (.invokevirtual 155, 3) := by decide +kernel
theorem dX10_setsFor_33 : decode cX10_setsFor 33 = .ok (.istore_n 2, 1) := by decide +kernel
theorem dX10_setsFor_34 : decode cX10_setsFor 34 = .ok (.iconst 0, 1) := by decide +kernel
theorem dX10_setsFor_35 : decode cX10_setsFor 35 = .ok (.istore_n 3, 1) := by decide +kernel
theorem dX10_setsFor_36 : decode cX10_setsFor 36 = .ok (.iconst 0, 1) := by decide +kernel
theorem dX10_setsFor_37 : decode cX10_setsFor 37 = .ok (.istore 4, 2) := by decide +kernel
theorem dX10_setsFor_39 : decode cX10_setsFor 39 = .ok (.iload 4, 2) := by decide +kernel
theorem dX10_setsFor_41 : decode cX10_setsFor 41 = .ok (.iload_n 2, 1) := by decide +kernel
theorem dX10_setsFor_42 : decode cX10_setsFor 42 = .ok (.if_icmp .ge 85, 3) := by decide +kernel
theorem dX10_setsFor_45 : decode cX10_setsFor 45 = .ok (.aload_n 0, 1) := by decide +kernel
theorem dX10_setsFor_46 : decode cX10_setsFor 46 = .ok (.iload 4, 2) := by decide +kernel
theorem dX10_setsFor_48 : decode cX10_setsFor 48 = .ok (.invokevirtual 158, 3) := by decide +kernel
theorem dX10_setsFor_51 : decode cX10_setsFor 51 = .ok (.istore 5, 2) := by decide +kernel
theorem dX10_setsFor_53 : decode cX10_setsFor 53 = .ok (.iconst 0, 1) := by decide +kernel
theorem dX10_setsFor_54 : decode cX10_setsFor 54 = .ok (.istore 6, 2) := by decide +kernel
theorem dX10_setsFor_56 : decode cX10_setsFor 56 = .ok (.iconst 0, 1) := by decide +kernel
theorem dX10_setsFor_57 : decode cX10_setsFor 57 = .ok (.istore 7, 2) := by decide +kernel
theorem dX10_setsFor_59 : decode cX10_setsFor 59 = .ok (.iload 7, 2) := by decide +kernel
theorem dX10_setsFor_61 : decode cX10_setsFor 61 = .ok (.aload_n 0, 1) := by decide +kernel
theorem dX10_setsFor_62 : decode cX10_setsFor 62 = .ok (.getfield 83, 3) := by decide +kernel
theorem dX10_setsFor_65 : decode cX10_setsFor 65 = .ok (.if_icmp .ge 43, 3) := by decide +kernel
theorem dX10_setsFor_68 : decode cX10_setsFor 68 = .ok (.iload 6, 2) := by decide +kernel
theorem dX10_setsFor_70 : decode cX10_setsFor 70 = .ok (.ifCond .ne 25, 3) := by decide +kernel
theorem dX10_setsFor_73 : decode cX10_setsFor 73 = .ok (.aload_n 0, 1) := by decide +kernel
theorem dX10_setsFor_74 : decode cX10_setsFor 74 = .ok (.iload 5, 2) := by decide +kernel
theorem dX10_setsFor_76 : decode cX10_setsFor 76 = .ok (.iload 7, 2) := by decide +kernel
theorem dX10_setsFor_78 : decode cX10_setsFor 78 = .ok (.invokevirtual 143, 3) := by decide +kernel
theorem dX10_setsFor_81 : decode cX10_setsFor 81 = .ok (.ifCond .eq 18, 3) := by decide +kernel
theorem dX10_setsFor_84 : decode cX10_setsFor 84 = .ok (.aload_n 0, 1) := by decide +kernel
theorem dX10_setsFor_85 : decode cX10_setsFor 85 = .ok (.getfield 29, 3) := by decide +kernel
theorem dX10_setsFor_88 : decode cX10_setsFor 88 = .ok (.iload 7, 2) := by decide +kernel
theorem dX10_setsFor_90 : decode cX10_setsFor 90 = .ok (.iaload, 1) := by decide +kernel
theorem dX10_setsFor_91 : decode cX10_setsFor 91 = .ok (.iload_n 1, 1) := by decide +kernel
theorem dX10_setsFor_92 : decode cX10_setsFor 92 = .ok (.if_icmp .ne 7, 3) := by decide +kernel
theorem dX10_setsFor_95 : decode cX10_setsFor 95 = .ok (.iconst 1, 1) := by decide +kernel
theorem dX10_setsFor_96 : decode cX10_setsFor 96 = .ok (.goto 4, 3) := by decide +kernel
theorem dX10_setsFor_99 : decode cX10_setsFor 99 = .ok (.iconst 0, 1) := by decide +kernel
theorem dX10_setsFor_100 : decode cX10_setsFor 100 = .ok (.istore 6, 2) := by decide +kernel
theorem dX10_setsFor_102 : decode cX10_setsFor 102 = .ok (.iinc 7 1, 3) := by decide +kernel
theorem dX10_setsFor_105 : decode cX10_setsFor 105 = .ok (.goto (-46), 3) := by decide +kernel
theorem dX10_setsFor_108 : decode cX10_setsFor 108 = .ok (.iload_n 3, 1) := by decide +kernel
theorem dX10_setsFor_109 : decode cX10_setsFor 109 = .ok (.iload 6, 2) := by decide +kernel
theorem dX10_setsFor_111 : decode cX10_setsFor 111 = .ok (.ifCond .eq 7, 3) := by decide +kernel
theorem dX10_setsFor_114 : decode cX10_setsFor 114 = .ok (.iconst 1, 1) := by decide +kernel
theorem dX10_setsFor_115 : decode cX10_setsFor 115 = .ok (.goto 4, 3) := by decide +kernel
theorem dX10_setsFor_118 : decode cX10_setsFor 118 = .ok (.iconst 0, 1) := by decide +kernel
theorem dX10_setsFor_119 : decode cX10_setsFor 119 = .ok (.iadd, 1) := by decide +kernel
theorem dX10_setsFor_120 : decode cX10_setsFor 120 = .ok (.istore_n 3, 1) := by decide +kernel
theorem dX10_setsFor_121 : decode cX10_setsFor 121 = .ok (.iinc 4 1, 3) := by decide +kernel
theorem dX10_setsFor_124 : decode cX10_setsFor 124 = .ok (.goto (-85), 3) := by decide +kernel
theorem dX10_setsFor_127 : decode cX10_setsFor 127 = .ok (.iload_n 3, 1) := by decide +kernel
theorem dX10_setsFor_128 : decode cX10_setsFor 128 = .ok (.ireturn, 1) := by decide +kernel
