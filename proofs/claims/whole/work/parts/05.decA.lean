theorem dX0_init_0 : decode cX0_init 0 = .ok (.aload_n 0, 1) := by decide +kernel
theorem dX0_init_1 : decode cX0_init 1 = .ok (.invokespecial 3, 3) := by decide +kernel
theorem dX0_init_4 : decode cX0_init 4 = .ok (.aload_n 0, 1) := by decide +kernel
theorem dX0_init_5 : decode cX0_init 5 = .ok (.bipush 24, 2) := by decide +kernel
theorem dX0_init_7 : decode cX0_init 7 = .ok (.newarray .int, 2) := by decide +kernel
theorem dX0_init_9 : decode cX0_init 9 = .ok (.putfield 9, 3) := by decide +kernel
theorem dX0_init_12 : decode cX0_init 12 = .ok (.aload_n 0, 1) := by decide +kernel
theorem dX0_init_13 : decode cX0_init 13 = .ok (.bipush 24, 2) := by decide +kernel
theorem dX0_init_15 : decode cX0_init 15 = .ok (.newarray .int, 2) := by decide +kernel
theorem dX0_init_17 : decode cX0_init 17 = .ok (.putfield 15, 3) := by decide +kernel
theorem dX0_init_20 : decode cX0_init 20 = .ok (.aload_n 0, 1) := by decide +kernel
theorem dX0_init_21 : decode cX0_init 21 = .ok (.bipush 24, 2) := by decide +kernel
theorem dX0_init_23 : decode cX0_init 23 = .ok (.newarray .int, 2) := by decide +kernel
theorem dX0_init_25 : decode cX0_init 25 = .ok (.putfield 18, 3) := by decide +kernel
theorem dX0_init_28 : decode cX0_init 28 = .ok (.aload_n 0, 1) := by decide +kernel
theorem dX0_init_29 : decode cX0_init 29 = .ok (.bipush 72, 2) := by decide +kernel
theorem dX0_init_31 : decode cX0_init 31 = .ok (.newarray .int, 2) := by decide +kernel
theorem dX0_init_33 : decode cX0_init 33 = .ok (.putfield 21, 3) := by decide +kernel
theorem dX0_init_36 : decode cX0_init 36 = .ok (.aload_n 0, 1) := by decide +kernel
theorem dX0_init_37 : decode cX0_init 37 = .ok (.bipush 24, 2) := by decide +kernel
theorem dX0_init_39 : decode cX0_init 39 = .ok (.newarray .int, 2) := by decide +kernel
theorem dX0_init_41 : decode cX0_init 41 = .ok (.putfield 24, 3) := by decide +kernel
theorem dX0_init_44 : decode cX0_init 44 = .ok (.return_, 1) := by decide +kernel
theorem dX0_conclusionAt_0 : decode cX0_conclusionAt 0 = .ok (.iload_n 1, 1) := by decide +kernel
theorem dX0_conclusionAt_1 : decode cX0_conclusionAt 1 = .ok (.ifCond .lt 18, 3) := by decide +kernel
theorem dX0_conclusionAt_4 : decode cX0_conclusionAt 4 = .ok (.iload_n 1, 1) := by decide +kernel
theorem dX0_conclusionAt_5 : decode cX0_conclusionAt 5 = .ok (.bipush 24, 2) := by decide +kernel
theorem dX0_conclusionAt_7 : decode cX0_conclusionAt 7 = .ok (.if_icmp .ge 12, 3) := by decide +kernel
theorem dX0_conclusionAt_10 : decode cX0_conclusionAt 10 = .ok (.aload_n 0, 1) := by decide +kernel
theorem dX0_conclusionAt_11 : decode cX0_conclusionAt 11 = .ok (.getfield 9, 3) := by decide +kernel
theorem dX0_conclusionAt_14 : decode cX0_conclusionAt 14 = .ok (.iload_n 1, 1) := by decide +kernel
theorem dX0_conclusionAt_15 : decode cX0_conclusionAt 15 = .ok (.iaload, 1) := by decide +kernel
theorem dX0_conclusionAt_16 : decode cX0_conclusionAt 16 = .ok (.goto 4, 3) := by decide +kernel
theorem dX0_conclusionAt_19 : decode cX0_conclusionAt 19 = .ok (.iconst 0, 1) := by decide +kernel
theorem dX0_conclusionAt_20 : decode cX0_conclusionAt 20 = .ok (.ireturn, 1) := by decide +kernel
theorem dX0_makerAt_0 : decode cX0_makerAt 0 = .ok (.iload_n 1, 1) := by decide +kernel
theorem dX0_makerAt_1 : decode cX0_makerAt 1 = .ok (.ifCond .lt 18, 3) := by decide +kernel
theorem dX0_makerAt_4 : decode cX0_makerAt 4 = .ok (.iload_n 1, 1) := by decide +kernel
theorem dX0_makerAt_5 : decode cX0_makerAt 5 = .ok (.bipush 24, 2) := by decide +kernel
theorem dX0_makerAt_7 : decode cX0_makerAt 7 = .ok (.if_icmp .ge 12, 3) := by decide +kernel
theorem dX0_makerAt_10 : decode cX0_makerAt 10 = .ok (.aload_n 0, 1) := by decide +kernel
theorem dX0_makerAt_11 : decode cX0_makerAt 11 = .ok (.getfield 15, 3) := by decide +kernel
theorem dX0_makerAt_14 : decode cX0_makerAt 14 = .ok (.iload_n 1, 1) := by decide +kernel
theorem dX0_makerAt_15 : decode cX0_makerAt 15 = .ok (.iaload, 1) := by decide +kernel
theorem dX0_makerAt_16 : decode cX0_makerAt 16 = .ok (.goto 4, 3) := by decide +kernel
theorem dX0_makerAt_19 : decode cX0_makerAt 19 = .ok (.iconst (-1), 1) := by decide +kernel
theorem dX0_makerAt_20 : decode cX0_makerAt 20 = .ok (.ireturn, 1) := by decide +kernel
theorem dX0_depthAt_0 : decode cX0_depthAt 0 = .ok (.iload_n 1, 1) := by decide +kernel
theorem dX0_depthAt_1 : decode cX0_depthAt 1 = .ok (.ifCond .lt 18, 3) := by decide +kernel
theorem dX0_depthAt_4 : decode cX0_depthAt 4 = .ok (.iload_n 1, 1) := by decide +kernel
theorem dX0_depthAt_5 : decode cX0_depthAt 5 = .ok (.bipush 24, 2) := by decide +kernel
theorem dX0_depthAt_7 : decode cX0_depthAt 7 = .ok (.if_icmp .ge 12, 3) := by decide +kernel
theorem dX0_depthAt_10 : decode cX0_depthAt 10 = .ok (.aload_n 0, 1) := by decide +kernel
theorem dX0_depthAt_11 : decode cX0_depthAt 11 = .ok (.getfield 18, 3) := by decide +kernel
theorem dX0_depthAt_14 : decode cX0_depthAt 14 = .ok (.iload_n 1, 1) := by decide +kernel
theorem dX0_depthAt_15 : decode cX0_depthAt 15 = .ok (.iaload, 1) := by decide +kernel
theorem dX0_depthAt_16 : decode cX0_depthAt 16 = .ok (.goto 4, 3) := by decide +kernel
theorem dX0_depthAt_19 : decode cX0_depthAt 19 = .ok (.iconst 0, 1) := by decide +kernel
theorem dX0_depthAt_20 : decode cX0_depthAt 20 = .ok (.ireturn, 1) := by decide +kernel
theorem dX0_partAt_0 : decode cX0_partAt 0 = .ok (.iload_n 1, 1) := by decide +kernel
theorem dX0_partAt_1 : decode cX0_partAt 1 = .ok (.ifCond .lt 18, 3) := by decide +kernel
theorem dX0_partAt_4 : decode cX0_partAt 4 = .ok (.iload_n 1, 1) := by decide +kernel
theorem dX0_partAt_5 : decode cX0_partAt 5 = .ok (.bipush 24, 2) := by decide +kernel
theorem dX0_partAt_7 : decode cX0_partAt 7 = .ok (.if_icmp .ge 12, 3) := by decide +kernel
theorem dX0_partAt_10 : decode cX0_partAt 10 = .ok (.iload_n 2, 1) := by decide +kernel
theorem dX0_partAt_11 : decode cX0_partAt 11 = .ok (.ifCond .lt 8, 3) := by decide +kernel
theorem dX0_partAt_14 : decode cX0_partAt 14 = .ok (.iload_n 2, 1) := by decide +kernel
theorem dX0_partAt_15 : decode cX0_partAt 15 = .ok (.iconst 3, 1) := by decide +kernel
theorem dX0_partAt_16 : decode cX0_partAt 16 = .ok (.if_icmp .lt 5, 3) := by decide +kernel
theorem dX0_partAt_19 : decode cX0_partAt 19 = .ok (.iconst (-1), 1) := by decide +kernel
theorem dX0_partAt_20 : decode cX0_partAt 20 = .ok (.ireturn, 1) := by decide +kernel
theorem dX0_partAt_21 : decode cX0_partAt 21 = .ok (.aload_n 0, 1) := by decide +kernel
theorem dX0_partAt_22 : decode cX0_partAt 22 = .ok (.getfield 21, 3) := by decide +kernel
theorem dX0_partAt_25 : decode cX0_partAt 25 = .ok (.iload_n 1, 1) := by decide +kernel
theorem dX0_partAt_26 : decode cX0_partAt 26 = .ok (.iconst 3, 1) := by decide +kernel
theorem dX0_partAt_27 : decode cX0_partAt 27 = .ok (.imul, 1) := by decide +kernel
theorem dX0_partAt_28 : decode cX0_partAt 28 = .ok (.iload_n 2, 1) := by decide +kernel
theorem dX0_partAt_29 : decode cX0_partAt 29 = .ok (.iadd, 1) := by decide +kernel
theorem dX0_partAt_30 : decode cX0_partAt 30 = .ok (.iaload, 1) := by decide +kernel
theorem dX0_partAt_31 : decode cX0_partAt 31 = .ok (.ireturn, 1) := by decide +kernel
theorem dX0_reachedAt_0 : decode cX0_reachedAt 0 = .ok (.iload_n 1, 1) := by decide +kernel
theorem dX0_reachedAt_1 : decode cX0_reachedAt 1 = .ok (.ifCond .lt 18, 3) := by decide +kernel
theorem dX0_reachedAt_4 : decode cX0_reachedAt 4 = .ok (.iload_n 1, 1) := by decide +kernel
theorem dX0_reachedAt_5 : decode cX0_reachedAt 5 = .ok (.bipush 24, 2) := by decide +kernel
theorem dX0_reachedAt_7 : decode cX0_reachedAt 7 = .ok (.if_icmp .ge 12, 3) := by decide +kernel
theorem dX0_reachedAt_10 : decode cX0_reachedAt 10 = .ok (.aload_n 0, 1) := by decide +kernel
theorem dX0_reachedAt_11 : decode cX0_reachedAt 11 = .ok (.getfield 24, 3) := by decide +kernel
theorem dX0_reachedAt_14 : decode cX0_reachedAt 14 = .ok (.iload_n 1, 1) := by decide +kernel
theorem dX0_reachedAt_15 : decode cX0_reachedAt 15 = .ok (.iaload, 1) := by decide +kernel
theorem dX0_reachedAt_16 : decode cX0_reachedAt 16 = .ok (.goto 4, 3) := by decide +kernel
theorem dX0_reachedAt_19 : decode cX0_reachedAt 19 = .ok (.iconst 0, 1) := by decide +kernel
theorem dX0_reachedAt_20 : decode cX0_reachedAt 20 = .ok (.ireturn, 1) := by decide +kernel
theorem dX0_build_0 : decode cX0_build 0 = .ok (.aload_n 0, 1) := by decide +kernel
theorem dX0_build_1 : decode cX0_build 1 = .ok (.iconst 0, 1) := by decide +kernel
theorem dX0_build_2 : decode cX0_build 2 = .ok (.putfield 27, 3) := by decide +kernel
theorem dX0_build_5 : decode cX0_build 5 = .ok (.aload_n 0, 1) := by decide +kernel
theorem dX0_build_6 : decode cX0_build 6 = .ok (.iconst 0, 1) := by decide +kernel
theorem dX0_build_7 : decode cX0_build 7 = .ok (.putfield 31, 3) := by decide +kernel
theorem dX0_build_10 : decode cX0_build 10 = .ok (.bipush (-10), 2) := by decide +kernel
theorem dX0_build_12 : decode cX0_build 12 = .ok (.istore_n 3, 1) := by decide +kernel
theorem dX0_build_13 : decode cX0_build 13 = .ok (.iload_n 3, 1) := by decide +kernel
theorem dX0_build_14 : decode cX0_build 14 = .ok (.bipush 10, 2) := by decide +kernel
theorem dX0_build_16 : decode cX0_build 16 = .ok (.if_icmp .gt 27, 3) := by decide +kernel
theorem dX0_build_19 : decode cX0_build 19 = .ok (.aload_n 1, 1) := by decide +kernel
theorem dX0_build_20 : decode cX0_build 20 = .ok (.iload_n 3, 1) := by decide +kernel
theorem dX0_build_21 : decode cX0_build 21 = .ok (.invokevirtual 35, 3) := by decide +kernel
theorem dX0_build_24 : decode cX0_build 24 = .ok (.ifCond .eq 13, 3) := by decide +kernel
theorem dX0_build_27 : decode cX0_build 27 = .ok (.aload_n 0, 1) := by decide +kernel
theorem dX0_build_28 : decode cX0_build 28 = .ok (.iload_n 3, 1) := by decide +kernel
theorem dX0_build_29 : decode cX0_build 29 = .ok (.iconst (-1), 1) := by decide +kernel
theorem dX0_build_30 : decode cX0_build 30 = .ok (.iconst 0, 1) := by decide +kernel
theorem dX0_build_31 : decode cX0_build 31 = .ok (.iconst (-1), 1) := by decide +kernel
theorem dX0_build_32 : decode cX0_build 32 = .ok (.iconst (-1), 1) := by decide +kernel
theorem dX0_build_33 : decode cX0_build 33 = .ok (.iconst (-1), 1) := by decide +kernel
theorem dX0_build_34 : decode cX0_build 34 = .ok (.invokevirtual 41, 3) := by decide +kernel
theorem dX0_build_37 : decode cX0_build 37 = .ok (.iinc 3 1, 3) := by decide +kernel
theorem dX0_build_40 : decode cX0_build 40 = .ok (.goto (-27), 3) := by decide +kernel
theorem dX0_build_43 : decode cX0_build 43 = .ok (.iconst 1, 1) := by decide +kernel
theorem dX0_build_44 : decode cX0_build 44 = .ok (.istore_n 3, 1) := by decide +kernel
theorem dX0_build_45 : decode cX0_build 45 = .ok (.iload_n 3, 1) := by decide +kernel
theorem dX0_build_46 : decode cX0_build 46 = .ok (.bipush 12, 2) := by decide +kernel
theorem dX0_build_48 : decode cX0_build 48 = .ok (.if_icmp .gt 84, 3) := by decide +kernel
theorem dX0_build_51 : decode cX0_build 51 = .ok (.aload_n 0, 1) := by decide +kernel
theorem dX0_build_52 : decode cX0_build 52 = .ok (.getfield 31, 3) := by decide +kernel
theorem dX0_build_55 : decode cX0_build 55 = .ok (.ifCond .ne 77, 3) := by decide +kernel
theorem dX0_build_58 : decode cX0_build 58 = .ok (.aload_n 0, 1) := by decide +kernel
theorem dX0_build_59 : decode cX0_build 59 = .ok (.getfield 27, 3) := by decide +kernel
theorem dX0_build_62 : decode cX0_build 62 = .ok (.istore 4, 2) := by decide +kernel
theorem dX0_build_64 : decode cX0_build 64 = .ok (.iconst 0, 1) := by decide +kernel
theorem dX0_build_65 : decode cX0_build 65 = .ok (.istore 5, 2) := by decide +kernel
theorem dX0_build_67 : decode cX0_build 67 = .ok (.iload 5, 2) := by decide +kernel
theorem dX0_build_69 : decode cX0_build 69 = .ok (.aload_n 2, 1) := by decide +kernel
theorem dX0_build_70 : decode cX0_build 70 = .ok (.invokevirtual 45, 3) := by decide +kernel
theorem dX0_build_73 : decode cX0_build 73 = .ok (.if_icmp .ge 43, 3) := by decide +kernel
theorem dX0_build_76 : decode cX0_build 76 = .ok (.aload_n 0, 1) := by decide +kernel
theorem dX0_build_77 : decode cX0_build 77 = .ok (.getfield 31, 3) := by decide +kernel
theorem dX0_build_80 : decode cX0_build 80 = .ok (.ifCond .ne 36, 3) := by decide +kernel
theorem dX0_build_83 : decode cX0_build 83 = .ok (.aload_n 2, 1) := by decide +kernel
theorem dX0_build_84 : decode cX0_build 84 = .ok (.iload 5, 2) := by decide +kernel
theorem dX0_build_86 : decode cX0_build 86 = .ok (.invokevirtual 51, 3) := by decide +kernel
theorem dX0_build_89 : decode cX0_build 89 = .ok (.getfield 55, 3) := by decide +kernel
theorem dX0_build_92 : decode cX0_build 92 = .ok (.ifCond .eq 18, 3) := by decide +kernel
theorem dX0_build_95 : decode cX0_build 95 = .ok (.aload_n 0, 1) := by decide +kernel
theorem dX0_build_96 : decode cX0_build 96 = .ok (.iload 5, 2) := by decide +kernel
theorem dX0_build_98 : decode cX0_build 98 = .ok (.aload_n 2, 1) := by decide +kernel
theorem dX0_build_99 : decode cX0_build 99 = .ok (.iload 5, 2) := by decide +kernel
theorem dX0_build_101 : decode cX0_build 101 = .ok (.invokevirtual 51, 3) := by decide +kernel
theorem dX0_build_104 : decode cX0_build 104 = .ok (.iload_n 3, 1) := by decide +kernel
theorem dX0_build_105 : decode cX0_build 105 = .ok (.iload 4, 2) := by decide +kernel
theorem dX0_build_107 : decode cX0_build 107 = .ok (.invokevirtual 60, 3) := by decide +kernel
theorem dX0_build_110 : decode cX0_build 110 = .ok (.iinc 5 1, 3) := by decide +kernel
theorem dX0_build_113 : decode cX0_build 113 = .ok (.goto (-46), 3) := by decide +kernel
theorem dX0_build_116 : decode cX0_build 116 = .ok (.aload_n 0, 1) := by decide +kernel
theorem dX0_build_117 : decode cX0_build 117 = .ok (.getfield 27, 3) := by decide +kernel
theorem dX0_build_120 : decode cX0_build 120 = .ok (.iload 4, 2) := by decide +kernel
theorem dX0_build_122 : decode cX0_build 122 = .ok (.if_icmp .ne 4, 3) := by decide +kernel
theorem dX0_build_125 : decode cX0_build 125 = .ok (.return_, 1) := by decide +kernel
theorem dX0_build_126 : decode cX0_build 126 = .ok (.iinc 3 1, 3) := by decide +kernel
theorem dX0_build_129 : decode cX0_build 129 = .ok (.goto (-84), 3) := by decide +kernel
theorem dX0_build_132 : decode cX0_build 132 = .ok (.return_, 1) := by decide +kernel
theorem dX0_addMadeBy_0 : decode cX0_addMadeBy 0 = .ok (.aload_n 2, 1) := by decide +kernel
theorem dX0_addMadeBy_1 : decode cX0_addMadeBy 1 = .ok (.getfield 64, 3) := by decide +kernel
theorem dX0_addMadeBy_4 : decode cX0_addMadeBy 4 = .ok (.iload 4, 2) := by decide +kernel
theorem dX0_addMadeBy_6 : decode cX0_addMadeBy 6 = .ok (.invokestatic 67, 3) := by decide +kernel
theorem dX0_addMadeBy_9 : decode cX0_addMadeBy 9 = .ok (.istore 5, 2) := by decide +kernel
theorem dX0_addMadeBy_11 : decode cX0_addMadeBy 11 = .ok (.aload_n 2, 1) := by decide +kernel
theorem dX0_addMadeBy_12 : decode cX0_addMadeBy 12 = .ok (.getfield 71, 3) := by decide +kernel
theorem dX0_addMadeBy_15 : decode cX0_addMadeBy 15 = .ok (.iload 4, 2) := by decide +kernel
theorem dX0_addMadeBy_17 : decode cX0_addMadeBy 17 = .ok (.invokestatic 67, 3) := by decide +kernel
theorem dX0_addMadeBy_20 : decode cX0_addMadeBy 20 = .ok (.istore 6, 2) := by decide +kernel
theorem dX0_addMadeBy_22 : decode cX0_addMadeBy 22 = .ok (.aload_n 2, 1) := by decide +kernel
theorem dX0_addMadeBy_23 : decode cX0_addMadeBy 23 = .ok (.getfield 74, 3) := by decide +kernel
theorem dX0_addMadeBy_26 : decode cX0_addMadeBy 26 = .ok (.iload 4, 2) := by decide +kernel
theorem dX0_addMadeBy_28 : decode cX0_addMadeBy 28 = .ok (.invokestatic 67, 3) := by decide +kernel
theorem dX0_addMadeBy_31 : decode cX0_addMadeBy 31 = .ok (.istore 7, 2) := by decide +kernel
theorem dX0_addMadeBy_33 : decode cX0_addMadeBy 33 = .ok (.aload_n 2, 1) := by decide +kernel
theorem dX0_addMadeBy_34 : decode cX0_addMadeBy 34 = .ok (.getfield 64, 3) := by decide +kernel
theorem dX0_addMadeBy_37 : decode cX0_addMadeBy 37 = .ok (.invokestatic 77, 3) := by decide +kernel
theorem dX0_addMadeBy_40 : decode cX0_addMadeBy 40 = .ok (.istore 8, 2) := by decide +kernel
theorem dX0_addMadeBy_42 : decode cX0_addMadeBy 42 = .ok (.iload 8, 2) := by decide +kernel
theorem dX0_addMadeBy_44 : decode cX0_addMadeBy 44 = .ok (.iload 5, 2) := by decide +kernel
theorem dX0_addMadeBy_46 : decode cX0_addMadeBy 46 = .ok (.if_icmp .ge 132, 3) := by decide +kernel
theorem dX0_addMadeBy_49 : decode cX0_addMadeBy 49 = .ok (.aload_n 0, 1) := by decide +kernel
theorem dX0_addMadeBy_50 : decode cX0_addMadeBy 50 = .ok (.iload 8, 2) := by decide +kernel
theorem dX0_addMadeBy_52 : decode cX0_addMadeBy 52 = .ok (.invokevirtual 81, 3) := by decide +kernel
theorem dX0_addMadeBy_55 : decode cX0_addMadeBy 55 = .ok (.aload_n 2, 1) := by decide +kernel
theorem dX0_addMadeBy_56 : decode cX0_addMadeBy 56 = .ok (.getfield 64, 3) := by decide +kernel
theorem dX0_addMadeBy_59 : decode cX0_addMadeBy 59 = .ok (.if_icmp .eq 6, 3) := by decide +kernel
theorem dX0_addMadeBy_62 : decode cX0_addMadeBy 62 = .ok (.goto 110, 3) := by decide +kernel
theorem dX0_addMadeBy_65 : decode cX0_addMadeBy 65 = .ok (.aload_n 2, 1) := by decide +kernel
theorem dX0_addMadeBy_66 : decode cX0_addMadeBy 66 = .ok (.getfield 71, 3) := by decide +kernel
theorem dX0_addMadeBy_69 : decode cX0_addMadeBy 69 = .ok (.invokestatic 77, 3) := by decide +kernel
theorem dX0_addMadeBy_72 : decode cX0_addMadeBy 72 = .ok (.istore 9, 2) := by decide +kernel
theorem dX0_addMadeBy_74 : decode cX0_addMadeBy 74 = .ok (.iload 9, 2) := by decide +kernel
theorem dX0_addMadeBy_76 : decode cX0_addMadeBy 76 = .ok (.iload 6, 2) := by decide +kernel
theorem dX0_addMadeBy_78 : decode cX0_addMadeBy 78 = .ok (.if_icmp .ge 94, 3) := by decide +kernel
theorem dX0_addMadeBy_81 : decode cX0_addMadeBy 81 = .ok (.aload_n 0, 1) := by decide +kernel
theorem dX0_addMadeBy_82 : decode cX0_addMadeBy 82 = .ok (.iload 9, 2) := by decide +kernel
theorem dX0_addMadeBy_84 : decode cX0_addMadeBy 84 = .ok (.invokevirtual 81, 3) := by decide +kernel
theorem dX0_addMadeBy_87 : decode cX0_addMadeBy 87 = .ok (.aload_n 2, 1) := by decide +kernel
theorem dX0_addMadeBy_88 : decode cX0_addMadeBy 88 = .ok (.getfield 71, 3) := by decide +kernel
theorem dX0_addMadeBy_91 : decode cX0_addMadeBy 91 = .ok (.if_icmp .eq 6, 3) := by decide +kernel
theorem dX0_addMadeBy_94 : decode cX0_addMadeBy 94 = .ok (.goto 72, 3) := by decide +kernel
theorem dX0_addMadeBy_97 : decode cX0_addMadeBy 97 = .ok (.aload_n 2, 1) := by decide +kernel
theorem dX0_addMadeBy_98 : decode cX0_addMadeBy 98 = .ok (.getfield 74, 3) := by decide +kernel
theorem dX0_addMadeBy_101 : decode cX0_addMadeBy 101 = .ok (.invokestatic 77, 3) := by decide +kernel
theorem dX0_addMadeBy_104 : decode cX0_addMadeBy 104 = .ok (.istore 10, 2) := by decide +kernel
theorem dX0_addMadeBy_106 : decode cX0_addMadeBy 106 = .ok (.iload 10, 2) := by decide +kernel
theorem dX0_addMadeBy_108 : decode cX0_addMadeBy 108 = .ok (.iload 7, 2) := by decide +kernel
theorem dX0_addMadeBy_110 : decode cX0_addMadeBy 110 = .ok (.if_icmp .ge 56, 3) := by decide +kernel
theorem dX0_addMadeBy_113 : decode cX0_addMadeBy 113 = .ok (.aload_n 0, 1) := by decide +kernel
theorem dX0_addMadeBy_114 : decode cX0_addMadeBy 114 = .ok (.iload 10, 2) := by decide +kernel
theorem dX0_addMadeBy_116 : decode cX0_addMadeBy 116 = .ok (.invokevirtual 81, 3) := by decide +kernel
theorem dX0_addMadeBy_119 : decode cX0_addMadeBy 119 = .ok (.aload_n 2, 1) := by decide +kernel
theorem dX0_addMadeBy_120 : decode cX0_addMadeBy 120 = .ok (.getfield 74, 3) := by decide +kernel
theorem dX0_addMadeBy_123 : decode cX0_addMadeBy 123 = .ok (.if_icmp .ne 37, 3) := by decide +kernel
theorem dX0_addMadeBy_126 : decode cX0_addMadeBy 126 = .ok (.aload_n 0, 1) := by decide +kernel
theorem dX0_addMadeBy_127 : decode cX0_addMadeBy 127 = .ok (.aload_n 2, 1) := by decide +kernel
theorem dX0_addMadeBy_128 : decode cX0_addMadeBy 128 = .ok (.getfield 84, 3) := by decide +kernel
theorem dX0_addMadeBy_131 : decode cX0_addMadeBy 131 = .ok (.iload 8, 2) := by decide +kernel
theorem dX0_addMadeBy_133 : decode cX0_addMadeBy 133 = .ok (.iload 9, 2) := by decide +kernel
theorem dX0_addMadeBy_135 : decode cX0_addMadeBy 135 = .ok (.iload 10, 2) := by decide +kernel
theorem dX0_addMadeBy_137 : decode cX0_addMadeBy 137 = .ok (.iload_n 3, 1) := by decide +kernel
theorem dX0_addMadeBy_138 : decode cX0_addMadeBy 138 = .ok (.invokevirtual 87, 3) := by decide +kernel
theorem dX0_addMadeBy_141 : decode cX0_addMadeBy 141 = .ok (.ifCond .eq 19, 3) := by decide +kernel
theorem dX0_addMadeBy_144 : decode cX0_addMadeBy 144 = .ok (.aload_n 0, 1) := by decide +kernel
theorem dX0_addMadeBy_145 : decode cX0_addMadeBy 145 = .ok (.aload_n 2, 1) := by decide +kernel
theorem dX0_addMadeBy_146 : decode cX0_addMadeBy 146 = .ok (.getfield 84, 3) := by decide +kernel
theorem dX0_addMadeBy_149 : decode cX0_addMadeBy 149 = .ok (.iload_n 1, 1) := by decide +kernel
theorem dX0_addMadeBy_150 : decode cX0_addMadeBy 150 = .ok (.iload_n 3, 1) := by decide +kernel
theorem dX0_addMadeBy_151 : decode cX0_addMadeBy 151 = .ok (.iload 8, 2) := by decide +kernel
theorem dX0_addMadeBy_153 : decode cX0_addMadeBy 153 = .ok (.iload 9, 2) := by decide +kernel
theorem dX0_addMadeBy_155 : decode cX0_addMadeBy 155 = .ok (.iload 10, 2) := by decide +kernel
theorem dX0_addMadeBy_157 : decode cX0_addMadeBy 157 = .ok (.invokevirtual 41, 3) := by decide +kernel
theorem dX0_addMadeBy_160 : decode cX0_addMadeBy 160 = .ok (.iinc 10 1, 3) := by decide +kernel
theorem dX0_addMadeBy_163 : decode cX0_addMadeBy 163 = .ok (.goto (-57), 3) := by decide +kernel
theorem dX0_addMadeBy_166 : decode cX0_addMadeBy 166 = .ok (.iinc 9 1, 3) := by decide +kernel
theorem dX0_addMadeBy_169 : decode cX0_addMadeBy 169 = .ok (.goto (-95), 3) := by decide +kernel
theorem dX0_addMadeBy_172 : decode cX0_addMadeBy 172 = .ok (.iinc 8 1, 3) := by decide +kernel
theorem dX0_addMadeBy_175 : decode cX0_addMadeBy 175 = .ok (.goto (-133), 3) := by decide +kernel
theorem dX0_addMadeBy_178 : decode cX0_addMadeBy 178 = .ok (.return_, 1) := by decide +kernel
theorem dX0_choicesStart_0 : decode cX0_choicesStart 0 = .ok (.iload_n 0, 1) := by decide +kernel
theorem dX0_choicesStart_1 : decode cX0_choicesStart 1 = .ok (.ifCond .ne 7, 3) := by decide +kernel
theorem dX0_choicesStart_4 : decode cX0_choicesStart 4 = .ok (.iconst (-1), 1) := by decide +kernel
theorem dX0_choicesStart_5 : decode cX0_choicesStart 5 = .ok (.goto 4, 3) := by decide +kernel
theorem dX0_choicesStart_8 : decode cX0_choicesStart 8 = .ok (.iconst 0, 1) := by decide +kernel
theorem dX0_choicesStart_9 : decode cX0_choicesStart 9 = .ok (.ireturn, 1) := by decide +kernel
theorem dX0_choicesEnd_0 : decode cX0_choicesEnd 0 = .ok (.iload_n 0, 1) := by decide +kernel
theorem dX0_choicesEnd_1 : decode cX0_choicesEnd 1 = .ok (.ifCond .ne 7, 3) := by decide +kernel
theorem dX0_choicesEnd_4 : decode cX0_choicesEnd 4 = .ok (.iconst 0, 1) := by decide +kernel
theorem dX0_choicesEnd_5 : decode cX0_choicesEnd 5 = .ok (.goto 4, 3) := by decide +kernel
theorem dX0_choicesEnd_8 : decode cX0_choicesEnd 8 = .ok (.iload_n 1, 1) := by decide +kernel
theorem dX0_choicesEnd_9 : decode cX0_choicesEnd 9 = .ok (.ireturn, 1) := by decide +kernel
theorem dX0_fits_0 : decode cX0_fits 0 = .ok (.aload_n 0, 1) := by decide +kernel
theorem dX0_fits_1 : decode cX0_fits 1 = .ok (.iload_n 2, 1) := by decide +kernel
theorem dX0_fits_2 : decode cX0_fits 2 = .ok (.invokevirtual 91, 3) := by decide +kernel
theorem dX0_fits_5 : decode cX0_fits 5 = .ok (.aload_n 0, 1) := by decide +kernel
theorem dX0_fits_6 : decode cX0_fits 6 = .ok (.iload_n 3, 1) := by decide +kernel
theorem dX0_fits_7 : decode cX0_fits 7 = .ok (.invokevirtual 91, 3) := by decide +kernel
theorem dX0_fits_10 : decode cX0_fits 10 = .ok (.aload_n 0, 1) := by decide +kernel
theorem dX0_fits_11 : decode cX0_fits 11 = .ok (.iload 4, 2) := by decide +kernel
theorem dX0_fits_13 : decode cX0_fits 13 = .ok (.invokevirtual 91, 3) := by decide +kernel
theorem dX0_fits_16 : decode cX0_fits 16 = .ok (.invokestatic 94, 3) := by decide +kernel
theorem dX0_fits_19 : decode cX0_fits 19 = .ok (.invokestatic 94, 3) := by decide +kernel
theorem dX0_fits_22 : decode cX0_fits 22 = .ok (.istore 6, 2) := by decide +kernel
theorem dX0_fits_24 : decode cX0_fits 24 = .ok (.aload_n 0, 1) := by decide +kernel
theorem dX0_fits_25 : decode cX0_fits 25 = .ok (.iload_n 2, 1) := by decide +kernel
theorem dX0_fits_26 : decode cX0_fits 26 = .ok (.invokevirtual 99, 3) := by decide +kernel
theorem dX0_fits_29 : decode cX0_fits 29 = .ok (.aload_n 0, 1) := by decide +kernel
theorem dX0_fits_30 : decode cX0_fits 30 = .ok (.iload_n 3, 1) := by decide +kernel
theorem dX0_fits_31 : decode cX0_fits 31 = .ok (.invokevirtual 99, 3) := by decide +kernel
theorem dX0_fits_34 : decode cX0_fits 34 = .ok (.ior, 1) := by decide +kernel
theorem dX0_fits_35 : decode cX0_fits 35 = .ok (.aload_n 0, 1) := by decide +kernel
theorem dX0_fits_36 : decode cX0_fits 36 = .ok (.iload 4, 2) := by decide +kernel
theorem dX0_fits_38 : decode cX0_fits 38 = .ok (.invokevirtual 99, 3) := by decide +kernel
theorem dX0_fits_41 : decode cX0_fits 41 = .ok (.ior, 1) := by decide +kernel
theorem dX0_fits_42 : decode cX0_fits 42 = .ok (.istore 7, 2) := by decide +kernel
theorem dX0_fits_44 : decode cX0_fits 44 = .ok (.iload 6, 2) := by decide +kernel
theorem dX0_fits_46 : decode cX0_fits 46 = .ok (.iconst 1, 1) := by decide +kernel
theorem dX0_fits_47 : decode cX0_fits 47 = .ok (.iadd, 1) := by decide +kernel
theorem dX0_fits_48 : decode cX0_fits 48 = .ok (.iload 5, 2) := by decide +kernel
theorem dX0_fits_50 : decode cX0_fits 50 = .ok (.if_icmp .ne 17, 3) := by decide +kernel
theorem dX0_fits_53 : decode cX0_fits 53 = .ok (.iload 7, 2) := by decide +kernel
theorem dX0_fits_55 : decode cX0_fits 55 = .ok (.iload_n 1, 1) := by decide +kernel
theorem dX0_fits_56 : decode cX0_fits 56 = .ok (.invokestatic 102, 3) := by decide +kernel
theorem dX0_fits_59 : decode cX0_fits 59 = .ok (.iand, 1) := by decide +kernel
theorem dX0_fits_60 : decode cX0_fits 60 = .ok (.ifCond .ne 7, 3) := by decide +kernel
theorem dX0_fits_63 : decode cX0_fits 63 = .ok (.iconst 1, 1) := by decide +kernel
theorem dX0_fits_64 : decode cX0_fits 64 = .ok (.goto 4, 3) := by decide +kernel
theorem dX0_fits_67 : decode cX0_fits 67 = .ok (.iconst 0, 1) := by decide +kernel
theorem dX0_fits_68 : decode cX0_fits 68 = .ok (.ireturn, 1) := by decide +kernel
theorem dX0_literalBit_0 : decode cX0_literalBit 0 = .ok (.iconst 1, 1) := by decide +kernel
theorem dX0_literalBit_1 : decode cX0_literalBit 1 = .ok (.iload_n 0, 1) := by decide +kernel
theorem dX0_literalBit_2 : decode cX0_literalBit 2 = .ok (.bipush 10, 2) := by decide +kernel
theorem dX0_literalBit_4 : decode cX0_literalBit 4 = .ok (.iadd, 1) := by decide +kernel
theorem dX0_literalBit_5 : decode cX0_literalBit 5 = .ok (.ishl, 1) := by decide +kernel
theorem dX0_literalBit_6 : decode cX0_literalBit 6 = .ok (.ireturn, 1) := by decide +kernel
theorem dX0_add_0 : decode cX0_add 0 = .ok (.aload_n 0, 1) := by decide +kernel
theorem dX0_add_1 : decode cX0_add 1 = .ok (.getfield 27, 3) := by decide +kernel
theorem dX0_add_4 : decode cX0_add 4 = .ok (.bipush 24, 2) := by decide +kernel
theorem dX0_add_6 : decode cX0_add 6 = .ok (.if_icmp .lt 9, 3) := by decide +kernel
theorem dX0_add_9 : decode cX0_add 9 = .ok (.aload_n 0, 1) := by decide +kernel
theorem dX0_add_10 : decode cX0_add 10 = .ok (.iconst 1, 1) := by decide +kernel
theorem dX0_add_11 : decode cX0_add 11 = .ok (.putfield 31, 3) := by decide +kernel
theorem dX0_add_14 : decode cX0_add 14 = .ok (.return_, 1) := by decide +kernel
theorem dX0_add_15 : decode cX0_add 15 = .ok (.aload_n 0, 1) := by decide +kernel
theorem dX0_add_16 : decode cX0_add 16 = .ok (.getfield 9, 3) := by decide +kernel
theorem dX0_add_19 : decode cX0_add 19 = .ok (.aload_n 0, 1) := by decide +kernel
theorem dX0_add_20 : decode cX0_add 20 = .ok (.getfield 27, 3) := by decide +kernel
theorem dX0_add_23 : decode cX0_add 23 = .ok (.iload_n 1, 1) := by decide +kernel
theorem dX0_add_24 : decode cX0_add 24 = .ok (.iastore, 1) := by decide +kernel
theorem dX0_add_25 : decode cX0_add 25 = .ok (.aload_n 0, 1) := by decide +kernel
theorem dX0_add_26 : decode cX0_add 26 = .ok (.getfield 15, 3) := by decide +kernel
theorem dX0_add_29 : decode cX0_add 29 = .ok (.aload_n 0, 1) := by decide +kernel
theorem dX0_add_30 : decode cX0_add 30 = .ok (.getfield 27, 3) := by decide +kernel
theorem dX0_add_33 : decode cX0_add 33 = .ok (.iload_n 2, 1) := by decide +kernel
theorem dX0_add_34 : decode cX0_add 34 = .ok (.iastore, 1) := by decide +kernel
theorem dX0_add_35 : decode cX0_add 35 = .ok (.aload_n 0, 1) := by decide +kernel
theorem dX0_add_36 : decode cX0_add 36 = .ok (.getfield 18, 3) := by decide +kernel
theorem dX0_add_39 : decode cX0_add 39 = .ok (.aload_n 0, 1) := by decide +kernel
theorem dX0_add_40 : decode cX0_add 40 = .ok (.getfield 27, 3) := by decide +kernel
theorem dX0_add_43 : decode cX0_add 43 = .ok (.iload_n 3, 1) := by decide +kernel
theorem dX0_add_44 : decode cX0_add 44 = .ok (.iastore, 1) := by decide +kernel
theorem dX0_add_45 : decode cX0_add 45 = .ok (.aload_n 0, 1) := by decide +kernel
theorem dX0_add_46 : decode cX0_add 46 = .ok (.getfield 21, 3) := by decide +kernel
theorem dX0_add_49 : decode cX0_add 49 = .ok (.aload_n 0, 1) := by decide +kernel
theorem dX0_add_50 : decode cX0_add 50 = .ok (.getfield 27, 3) := by decide +kernel
theorem dX0_add_53 : decode cX0_add 53 = .ok (.iconst 3, 1) := by decide +kernel
theorem dX0_add_54 : decode cX0_add 54 = .ok (.imul, 1) := by decide +kernel
theorem dX0_add_55 : decode cX0_add 55 = .ok (.iload 4, 2) := by decide +kernel
theorem dX0_add_57 : decode cX0_add 57 = .ok (.iastore, 1) := by decide +kernel
theorem dX0_add_58 : decode cX0_add 58 = .ok (.aload_n 0, 1) := by decide +kernel
theorem dX0_add_59 : decode cX0_add 59 = .ok (.getfield 21, 3) := by decide +kernel
theorem dX0_add_62 : decode cX0_add 62 = .ok (.aload_n 0, 1) := by decide +kernel
theorem dX0_add_63 : decode cX0_add 63 = .ok (.getfield 27, 3) := by decide +kernel
theorem dX0_add_66 : decode cX0_add 66 = .ok (.iconst 3, 1) := by decide +kernel
theorem dX0_add_67 : decode cX0_add 67 = .ok (.imul, 1) := by decide +kernel
theorem dX0_add_68 : decode cX0_add 68 = .ok (.iconst 1, 1) := by decide +kernel
theorem dX0_add_69 : decode cX0_add 69 = .ok (.iadd, 1) := by decide +kernel
theorem dX0_add_70 : decode cX0_add 70 = .ok (.iload 5, 2) := by decide +kernel
theorem dX0_add_72 : decode cX0_add 72 = .ok (.iastore, 1) := by decide +kernel
theorem dX0_add_73 : decode cX0_add 73 = .ok (.aload_n 0, 1) := by decide +kernel
theorem dX0_add_74 : decode cX0_add 74 = .ok (.getfield 21, 3) := by decide +kernel
theorem dX0_add_77 : decode cX0_add 77 = .ok (.aload_n 0, 1) := by decide +kernel
theorem dX0_add_78 : decode cX0_add 78 = .ok (.getfield 27, 3) := by decide +kernel
theorem dX0_add_81 : decode cX0_add 81 = .ok (.iconst 3, 1) := by decide +kernel
theorem dX0_add_82 : decode cX0_add 82 = .ok (.imul, 1) := by decide +kernel
theorem dX0_add_83 : decode cX0_add 83 = .ok (.iconst 2, 1) := by decide +kernel
theorem dX0_add_84 : decode cX0_add 84 = .ok (.iadd, 1) := by decide +kernel
theorem dX0_add_85 : decode cX0_add 85 = .ok (.iload 6, 2) := by decide +kernel
theorem dX0_add_87 : decode cX0_add 87 = .ok (.iastore, 1) := by decide +kernel
theorem dX0_add_88 : decode cX0_add 88 = .ok (.aload_n 0, 1) := by decide +kernel
theorem dX0_add_89 : decode cX0_add 89 = .ok (.getfield 24, 3) := by decide +kernel
theorem dX0_add_92 : decode cX0_add 92 = .ok (.aload_n 0, 1) := by decide +kernel
theorem dX0_add_93 : decode cX0_add 93 = .ok (.getfield 27, 3) := by decide +kernel
theorem dX0_add_96 : decode cX0_add 96 = .ok (.iload_n 1, 1) := by decide +kernel
theorem dX0_add_97 : decode cX0_add 97 = .ok (.invokestatic 102, 3) := by decide +kernel
theorem dX0_add_100 : decode cX0_add 100 = .ok (.aload_n 0, 1) := by decide +kernel
theorem dX0_add_101 : decode cX0_add 101 = .ok (.iload 4, 2) := by decide +kernel
theorem dX0_add_103 : decode cX0_add 103 = .ok (.invokevirtual 99, 3) := by decide +kernel
theorem dX0_add_106 : decode cX0_add 106 = .ok (.ior, 1) := by decide +kernel
theorem dX0_add_107 : decode cX0_add 107 = .ok (.aload_n 0, 1) := by decide +kernel
theorem dX0_add_108 : decode cX0_add 108 = .ok (.iload 5, 2) := by decide +kernel
theorem dX0_add_110 : decode cX0_add 110 = .ok (.invokevirtual 99, 3) := by decide +kernel
theorem dX0_add_113 : decode cX0_add 113 = .ok (.ior, 1) := by decide +kernel
theorem dX0_add_114 : decode cX0_add 114 = .ok (.aload_n 0, 1) := by decide +kernel
theorem dX0_add_115 : decode cX0_add 115 = .ok (.iload 6, 2) := by decide +kernel
theorem dX0_add_117 : decode cX0_add 117 = .ok (.invokevirtual 99, 3) := by decide +kernel
theorem dX0_add_120 : decode cX0_add 120 = .ok (.ior, 1) := by decide +kernel
theorem dX0_add_121 : decode cX0_add 121 = .ok (.iastore, 1) := by decide +kernel
theorem dX0_add_122 : decode cX0_add 122 = .ok (.aload_n 0, 1) := by decide +kernel
theorem dX0_add_123 : decode cX0_add 123 = .ok (.dup, 1) := by decide +kernel
theorem dX0_add_124 : decode cX0_add 124 = .ok (.getfield 27, 3) := by decide +kernel
theorem dX0_add_127 : decode cX0_add 127 = .ok (.iconst 1, 1) := by decide +kernel
theorem dX0_add_128 : decode cX0_add 128 = .ok (.iadd, 1) := by decide +kernel
theorem dX0_add_129 : decode cX0_add 129 = .ok (.putfield 27, 3) := by decide +kernel
theorem dX0_add_132 : decode cX0_add 132 = .ok (.return_, 1) := by decide +kernel
theorem dX1_init_0 : decode cX1_init 0 = .ok (.aload_n 0, 1) := by decide +kernel
theorem dX1_init_1 : decode cX1_init 1 = .ok (.invokespecial 3, 3) := by decide +kernel
theorem dX1_init_4 : decode cX1_init 4 = .ok (.aload_n 0, 1) := by decide +kernel
theorem dX1_init_5 : decode cX1_init 5 = .ok (.bipush 24, 2) := by decide +kernel
theorem dX1_init_7 : decode cX1_init 7 = .ok (.newarray .int, 2) := by decide +kernel
theorem dX1_init_9 : decode cX1_init 9 = .ok (.putfield 9, 3) := by decide +kernel
theorem dX1_init_12 : decode cX1_init 12 = .ok (.return_, 1) := by decide +kernel
theorem dX1_attackersOf_0 : decode cX1_attackersOf 0 = .ok (.iload_n 1, 1) := by decide +kernel
theorem dX1_attackersOf_1 : decode cX1_attackersOf 1 = .ok (.ifCond .lt 18, 3) := by decide +kernel
theorem dX1_attackersOf_4 : decode cX1_attackersOf 4 = .ok (.iload_n 1, 1) := by decide +kernel
theorem dX1_attackersOf_5 : decode cX1_attackersOf 5 = .ok (.bipush 24, 2) := by decide +kernel
theorem dX1_attackersOf_7 : decode cX1_attackersOf 7 = .ok (.if_icmp .ge 12, 3) := by decide +kernel
theorem dX1_attackersOf_10 : decode cX1_attackersOf 10 = .ok (.aload_n 0, 1) := by decide +kernel
theorem dX1_attackersOf_11 : decode cX1_attackersOf 11 = .ok (.getfield 9, 3) := by decide +kernel
theorem dX1_attackersOf_14 : decode cX1_attackersOf 14 = .ok (.iload_n 1, 1) := by decide +kernel
theorem dX1_attackersOf_15 : decode cX1_attackersOf 15 = .ok (.iaload, 1) := by decide +kernel
theorem dX1_attackersOf_16 : decode cX1_attackersOf 16 = .ok (.goto 4, 3) := by decide +kernel
theorem dX1_attackersOf_19 : decode cX1_attackersOf 19 = .ok (.iconst 0, 1) := by decide +kernel
theorem dX1_attackersOf_20 : decode cX1_attackersOf 20 = .ok (.ireturn, 1) := by decide +kernel
theorem dX1_leads_0 : decode cX1_leads 0 = .ok (.aload_n 0, 1) := by decide +kernel
theorem dX1_leads_1 : decode cX1_leads 1 = .ok (.iload_n 2, 1) := by decide +kernel
theorem dX1_leads_2 : decode cX1_leads 2 = .ok (.invokevirtual 15, 3) := by decide +kernel
theorem dX1_leads_5 : decode cX1_leads 5 = .ok (.iload_n 1, 1) := by decide +kernel
theorem dX1_leads_6 : decode cX1_leads 6 = .ok (.ishr, 1) := by decide +kernel
theorem dX1_leads_7 : decode cX1_leads 7 = .ok (.iconst 1, 1) := by decide +kernel
theorem dX1_leads_8 : decode cX1_leads 8 = .ok (.iand, 1) := by decide +kernel
theorem dX1_leads_9 : decode cX1_leads 9 = .ok (.ifCond .eq 7, 3) := by decide +kernel
theorem dX1_leads_12 : decode cX1_leads 12 = .ok (.iconst 1, 1) := by decide +kernel
theorem dX1_leads_13 : decode cX1_leads 13 = .ok (.goto 4, 3) := by decide +kernel
theorem dX1_leads_16 : decode cX1_leads 16 = .ok (.iconst 0, 1) := by decide +kernel
theorem dX1_leads_17 : decode cX1_leads 17 = .ok (.ireturn, 1) := by decide +kernel
theorem dX1_build_0 : decode cX1_build 0 = .ok (.iconst 0, 1) := by decide +kernel
theorem dX1_build_1 : decode cX1_build 1 = .ok (.istore_n 3, 1) := by decide +kernel
theorem dX1_build_2 : decode cX1_build 2 = .ok (.iload_n 3, 1) := by decide +kernel
theorem dX1_build_3 : decode cX1_build 3 = .ok (.aload_n 1, 1) := by decide +kernel
theorem dX1_build_4 : decode cX1_build 4 = .ok (.getfield 19, 3) := by decide +kernel
theorem dX1_build_7 : decode cX1_build 7 = .ok (.if_icmp .ge 82, 3) := by decide +kernel
theorem dX1_build_10 : decode cX1_build 10 = .ok (.iload_n 3, 1) := by decide +kernel
theorem dX1_build_11 : decode cX1_build 11 = .ok (.bipush 24, 2) := by decide +kernel
theorem dX1_build_13 : decode cX1_build 13 = .ok (.if_icmp .ge 76, 3) := by decide +kernel
theorem dX1_build_16 : decode cX1_build 16 = .ok (.iconst 0, 1) := by decide +kernel
theorem dX1_build_17 : decode cX1_build 17 = .ok (.istore 4, 2) := by decide +kernel
theorem dX1_build_19 : decode cX1_build 19 = .ok (.aload_n 1, 1) := by decide +kernel
theorem dX1_build_20 : decode cX1_build 20 = .ok (.iload_n 3, 1) := by decide +kernel
theorem dX1_build_21 : decode cX1_build 21 = .ok (.invokevirtual 25, 3) := by decide +kernel
theorem dX1_build_24 : decode cX1_build 24 = .ok (.iconst (-1), 1) := by decide +kernel
theorem dX1_build_25 : decode cX1_build 25 = .ok (.if_icmp .eq 19, 3) := by decide +kernel
theorem dX1_build_28 : decode cX1_build 28 = .ok (.aload_n 1, 1) := by decide +kernel
theorem dX1_build_29 : decode cX1_build 29 = .ok (.aload_n 2, 1) := by decide +kernel
theorem dX1_build_30 : decode cX1_build 30 = .ok (.aload_n 2, 1) := by decide +kernel
theorem dX1_build_31 : decode cX1_build 31 = .ok (.aload_n 1, 1) := by decide +kernel
theorem dX1_build_32 : decode cX1_build 32 = .ok (.iload_n 3, 1) := by decide +kernel
theorem dX1_build_33 : decode cX1_build 33 = .ok (.invokevirtual 25, 3) := by decide +kernel
theorem dX1_build_36 : decode cX1_build 36 = .ok (.invokevirtual 28, 3) := by decide +kernel
theorem dX1_build_39 : decode cX1_build 39 = .ok (.invokestatic 34, 3) := by decide +kernel
theorem dX1_build_42 : decode cX1_build 42 = .ok (.istore 4, 2) := by decide +kernel
theorem dX1_build_44 : decode cX1_build 44 = .ok (.iconst 0, 1) := by decide +kernel
theorem dX1_build_45 : decode cX1_build 45 = .ok (.istore 5, 2) := by decide +kernel
theorem dX1_build_47 : decode cX1_build 47 = .ok (.iload 5, 2) := by decide +kernel
theorem dX1_build_49 : decode cX1_build 49 = .ok (.iconst 3, 1) := by decide +kernel
theorem dX1_build_50 : decode cX1_build 50 = .ok (.if_icmp .ge 25, 3) := by decide +kernel
theorem dX1_build_53 : decode cX1_build 53 = .ok (.iload 4, 2) := by decide +kernel
theorem dX1_build_55 : decode cX1_build 55 = .ok (.aload_n 0, 1) := by decide +kernel
theorem dX1_build_56 : decode cX1_build 56 = .ok (.aload_n 1, 1) := by decide +kernel
theorem dX1_build_57 : decode cX1_build 57 = .ok (.iload_n 3, 1) := by decide +kernel
theorem dX1_build_58 : decode cX1_build 58 = .ok (.iload 5, 2) := by decide +kernel
theorem dX1_build_60 : decode cX1_build 60 = .ok (.invokevirtual 38, 3) := by decide +kernel
theorem dX1_build_63 : decode cX1_build 63 = .ok (.invokevirtual 15, 3) := by decide +kernel
theorem dX1_build_66 : decode cX1_build 66 = .ok (.ior, 1) := by decide +kernel
theorem dX1_build_67 : decode cX1_build 67 = .ok (.istore 4, 2) := by decide +kernel
theorem dX1_build_69 : decode cX1_build 69 = .ok (.iinc 5 1, 3) := by decide +kernel
theorem dX1_build_72 : decode cX1_build 72 = .ok (.goto (-25), 3) := by decide +kernel
theorem dX1_build_75 : decode cX1_build 75 = .ok (.aload_n 0, 1) := by decide +kernel
theorem dX1_build_76 : decode cX1_build 76 = .ok (.getfield 9, 3) := by decide +kernel
theorem dX1_build_79 : decode cX1_build 79 = .ok (.iload_n 3, 1) := by decide +kernel
theorem dX1_build_80 : decode cX1_build 80 = .ok (.iload 4, 2) := by decide +kernel
theorem dX1_build_82 : decode cX1_build 82 = .ok (.iastore, 1) := by decide +kernel
theorem dX1_build_83 : decode cX1_build 83 = .ok (.iinc 3 1, 3) := by decide +kernel
theorem dX1_build_86 : decode cX1_build 86 = .ok (.goto (-84), 3) := by decide +kernel
theorem dX1_build_89 : decode cX1_build 89 = .ok (.return_, 1) := by decide +kernel
theorem dX1_attackersOfRule_0 : decode cX1_attackersOfRule 0 = .ok (.iconst 0, 1) := by decide +kernel
theorem dX1_attackersOfRule_1 : decode cX1_attackersOfRule 1 = .ok (.istore_n 3, 1) := by decide +kernel
theorem dX1_attackersOfRule_2 : decode cX1_attackersOfRule 2 = .ok (.iconst 0, 1) := by decide +kernel
theorem dX1_attackersOfRule_3 : decode cX1_attackersOfRule 3 = .ok (.istore 4, 2) := by decide +kernel
theorem dX1_attackersOfRule_5 : decode cX1_attackersOfRule 5 = .ok (.iload 4, 2) := by decide +kernel
theorem dX1_attackersOfRule_7 : decode cX1_attackersOfRule 7 = .ok (.aload_n 0, 1) := by decide +kernel
theorem dX1_attackersOfRule_8 : decode cX1_attackersOfRule 8 = .ok (.getfield 19, 3) := by decide +kernel
theorem dX1_attackersOfRule_11 : decode cX1_attackersOfRule 11 = .ok (.if_icmp .ge 69, 3) := by decide +kernel
theorem dX1_attackersOfRule_14 : decode cX1_attackersOfRule 14 = .ok (.aload_n 0, 1) := by decide +kernel
theorem dX1_attackersOfRule_15 : decode cX1_attackersOfRule 15 = .ok (.iload 4, 2) := by decide +kernel
theorem dX1_attackersOfRule_17 : decode cX1_attackersOfRule 17 = .ok (.invokevirtual 42, 3) := by decide +kernel
theorem dX1_attackersOfRule_20 : decode cX1_attackersOfRule 20 = .ok (.istore 5, 2) := by decide +kernel
theorem dX1_attackersOfRule_22 : decode cX1_attackersOfRule 22 = .ok (.iload 5, 2) := by decide +kernel
theorem dX1_attackersOfRule_24 : decode cX1_attackersOfRule 24 = .ok (.aload_n 2, 1) := by decide +kernel
theorem dX1_attackersOfRule_25 : decode cX1_attackersOfRule 25 = .ok (.getfield 45, 3) := by decide +kernel
theorem dX1_attackersOfRule_28 : decode cX1_attackersOfRule 28 = .ok (.ineg, 1) := by decide +kernel
theorem dX1_attackersOfRule_29 : decode cX1_attackersOfRule 29 = .ok (.if_icmp .ne 21, 3) := by decide +kernel
theorem dX1_attackersOfRule_32 : decode cX1_attackersOfRule 32 = .ok (.aload_n 0, 1) := by decide +kernel
theorem dX1_attackersOfRule_33 : decode cX1_attackersOfRule 33 = .ok (.aload_n 1, 1) := by decide +kernel
theorem dX1_attackersOfRule_34 : decode cX1_attackersOfRule 34 = .ok (.iload 4, 2) := by decide +kernel
theorem dX1_attackersOfRule_36 : decode cX1_attackersOfRule 36 = .ok (.invokestatic 50, 3) := by decide +kernel
theorem dX1_attackersOfRule_39 : decode cX1_attackersOfRule 39 = .ok (.aload_n 2, 1) := by decide +kernel
theorem dX1_attackersOfRule_40 : decode cX1_attackersOfRule 40 = .ok (.getfield 54, 3) := by decide +kernel
theorem dX1_attackersOfRule_43 : decode cX1_attackersOfRule 43 = .ok (.if_icmp .lt 7, 3) := by decide +kernel
theorem dX1_attackersOfRule_46 : decode cX1_attackersOfRule 46 = .ok (.iconst 1, 1) := by decide +kernel
theorem dX1_attackersOfRule_47 : decode cX1_attackersOfRule 47 = .ok (.goto 4, 3) := by decide +kernel
theorem dX1_attackersOfRule_50 : decode cX1_attackersOfRule 50 = .ok (.iconst 0, 1) := by decide +kernel
theorem dX1_attackersOfRule_51 : decode cX1_attackersOfRule 51 = .ok (.istore 6, 2) := by decide +kernel
theorem dX1_attackersOfRule_53 : decode cX1_attackersOfRule 53 = .ok (.iload 6, 2) := by decide +kernel
theorem dX1_attackersOfRule_55 : decode cX1_attackersOfRule 55 = .ok (.ifCond .ne 12, 3) := by decide +kernel
theorem dX1_attackersOfRule_58 : decode cX1_attackersOfRule 58 = .ok (.iload 5, 2) := by decide +kernel
theorem dX1_attackersOfRule_60 : decode cX1_attackersOfRule 60 = .ok (.aload_n 2, 1) := by decide +kernel
theorem dX1_attackersOfRule_61 : decode cX1_attackersOfRule 61 = .ok (.getfield 57, 3) := by decide +kernel
theorem dX1_attackersOfRule_64 : decode cX1_attackersOfRule 64 = .ok (.if_icmp .ne 10, 3) := by decide +kernel
theorem dX1_attackersOfRule_67 : decode cX1_attackersOfRule 67 = .ok (.iload_n 3, 1) := by decide +kernel
theorem dX1_attackersOfRule_68 : decode cX1_attackersOfRule 68 = .ok (.iconst 1, 1) := by decide +kernel
theorem dX1_attackersOfRule_69 : decode cX1_attackersOfRule 69 = .ok (.iload 4, 2) := by decide +kernel
theorem dX1_attackersOfRule_71 : decode cX1_attackersOfRule 71 = .ok (.ishl, 1) := by decide +kernel
theorem dX1_attackersOfRule_72 : decode cX1_attackersOfRule 72 = .ok (.ior, 1) := by decide +kernel
theorem dX1_attackersOfRule_73 : decode cX1_attackersOfRule 73 = .ok (.istore_n 3, 1) := by decide +kernel
theorem dX1_attackersOfRule_74 : decode cX1_attackersOfRule 74 = .ok (.iinc 4 1, 3) := by decide +kernel
theorem dX1_attackersOfRule_77 : decode cX1_attackersOfRule 77 = .ok (.goto (-72), 3) := by decide +kernel
theorem dX1_attackersOfRule_80 : decode cX1_attackersOfRule 80 = .ok (.iload_n 3, 1) := by decide +kernel
theorem dX1_attackersOfRule_81 : decode cX1_attackersOfRule 81 = .ok (.ireturn, 1) := by decide +kernel
theorem dX1_strength_0 : decode cX1_strength 0 = .ok (.aload_n 0, 1) := by decide +kernel
theorem dX1_strength_1 : decode cX1_strength 1 = .ok (.iload_n 2, 1) := by decide +kernel
theorem dX1_strength_2 : decode cX1_strength 2 = .ok (.invokevirtual 25, 3) := by decide +kernel
theorem dX1_strength_5 : decode cX1_strength 5 = .ok (.istore_n 3, 1) := by decide +kernel
theorem dX1_strength_6 : decode cX1_strength 6 = .ok (.iload_n 3, 1) := by decide +kernel
theorem dX1_strength_7 : decode cX1_strength 7 = .ok (.iconst (-1), 1) := by decide +kernel
theorem dX1_strength_8 : decode cX1_strength 8 = .ok (.if_icmp .ne 8, 3) := by decide +kernel
theorem dX1_strength_11 : decode cX1_strength 11 = .ok (.bipush 10, 2) := by decide +kernel
theorem dX1_strength_13 : decode cX1_strength 13 = .ok (.goto 11, 3) := by decide +kernel
theorem dX1_strength_16 : decode cX1_strength 16 = .ok (.aload_n 1, 1) := by decide +kernel
theorem dX1_strength_17 : decode cX1_strength 17 = .ok (.iload_n 3, 1) := by decide +kernel
theorem dX1_strength_18 : decode cX1_strength 18 = .ok (.invokevirtual 28, 3) := by decide +kernel
theorem dX1_strength_21 : decode cX1_strength 21 = .ok (.getfield 54, 3) := by decide +kernel
theorem dX1_strength_24 : decode cX1_strength 24 = .ok (.ireturn, 1) := by decide +kernel
theorem dX2_init_0 : decode cX2_init 0 = .ok (.aload_n 0, 1) := by decide +kernel
theorem dX2_init_1 : decode cX2_init 1 = .ok (.invokespecial 3, 3) := by decide +kernel
theorem dX2_init_4 : decode cX2_init 4 = .ok (.aload_n 0, 1) := by decide +kernel
theorem dX2_init_5 : decode cX2_init 5 = .ok (.bipush 21, 2) := by decide +kernel
theorem dX2_init_7 : decode cX2_init 7 = .ok (.newarray .boolean, 2) := by decide +kernel
theorem dX2_init_9 : decode cX2_init 9 = .ok (.putfield 9, 3) := by decide +kernel
theorem dX2_init_12 : decode cX2_init 12 = .ok (.return_, 1) := by decide +kernel
theorem dX2_has_0 : decode cX2_has 0 = .ok (.iload_n 1, 1) := by decide +kernel
theorem dX2_has_1 : decode cX2_has 1 = .ok (.invokestatic 15, 3) := by decide +kernel
theorem dX2_has_4 : decode cX2_has 4 = .ok (.ifCond .eq 19, 3) := by decide +kernel
theorem dX2_has_7 : decode cX2_has 7 = .ok (.aload_n 0, 1) := by decide +kernel
theorem dX2_has_8 : decode cX2_has 8 = .ok (.getfield 9, 3) := by decide +kernel
theorem dX2_has_11 : decode cX2_has 11 = .ok (.iload_n 1, 1) := by decide +kernel
theorem dX2_has_12 : decode cX2_has 12 = .ok (.bipush 10, 2) := by decide +kernel
theorem dX2_has_14 : decode cX2_has 14 = .ok (.iadd, 1) := by decide +kernel
theorem dX2_has_15 : decode cX2_has 15 = .ok (.baload, 1) := by decide +kernel
theorem dX2_has_16 : decode cX2_has 16 = .ok (.ifCond .eq 7, 3) := by decide +kernel
theorem dX2_has_19 : decode cX2_has 19 = .ok (.iconst 1, 1) := by decide +kernel
theorem dX2_has_20 : decode cX2_has 20 = .ok (.goto 4, 3) := by decide +kernel
theorem dX2_has_23 : decode cX2_has 23 = .ok (.iconst 0, 1) := by decide +kernel
theorem dX2_has_24 : decode cX2_has 24 = .ok (.ireturn, 1) := by decide +kernel
theorem dX2_put_0 : decode cX2_put 0 = .ok (.iload_n 1, 1) := by decide +kernel
theorem dX2_put_1 : decode cX2_put 1 = .ok (.invokestatic 15, 3) := by decide +kernel
theorem dX2_put_4 : decode cX2_put 4 = .ok (.ifCond .eq 31, 3) := by decide +kernel
theorem dX2_put_7 : decode cX2_put 7 = .ok (.aload_n 0, 1) := by decide +kernel
theorem dX2_put_8 : decode cX2_put 8 = .ok (.iload_n 1, 1) := by decide +kernel
theorem dX2_put_9 : decode cX2_put 9 = .ok (.invokevirtual 19, 3) := by decide +kernel
theorem dX2_put_12 : decode cX2_put 12 = .ok (.ifCond .ne 23, 3) := by decide +kernel
theorem dX2_put_15 : decode cX2_put 15 = .ok (.aload_n 0, 1) := by decide +kernel
theorem dX2_put_16 : decode cX2_put 16 = .ok (.getfield 9, 3) := by decide +kernel
theorem dX2_put_19 : decode cX2_put 19 = .ok (.iload_n 1, 1) := by decide +kernel
theorem dX2_put_20 : decode cX2_put 20 = .ok (.bipush 10, 2) := by decide +kernel
theorem dX2_put_22 : decode cX2_put 22 = .ok (.iadd, 1) := by decide +kernel
theorem dX2_put_23 : decode cX2_put 23 = .ok (.iconst 1, 1) := by decide +kernel
theorem dX2_put_24 : decode cX2_put 24 = .ok (.bastore, 1) := by decide +kernel
theorem dX2_put_25 : decode cX2_put 25 = .ok (.aload_n 0, 1) := by decide +kernel
theorem dX2_put_26 : decode cX2_put 26 = .ok (.dup, 1) := by decide +kernel
theorem dX2_put_27 : decode cX2_put 27 = .ok (.getfield 22, 3) := by decide +kernel
theorem dX2_put_30 : decode cX2_put 30 = .ok (.iconst 1, 1) := by decide +kernel
theorem dX2_put_31 : decode cX2_put 31 = .ok (.iadd, 1) := by decide +kernel
theorem dX2_put_32 : decode cX2_put 32 = .ok (.putfield 22, 3) := by decide +kernel
theorem dX2_put_35 : decode cX2_put 35 = .ok (.return_, 1) := by decide +kernel
theorem dX2_drop_0 : decode cX2_drop 0 = .ok (.aload_n 0, 1) := by decide +kernel
theorem dX2_drop_1 : decode cX2_drop 1 = .ok (.iload_n 1, 1) := by decide +kernel
theorem dX2_drop_2 : decode cX2_drop 2 = .ok (.invokevirtual 19, 3) := by decide +kernel
theorem dX2_drop_5 : decode cX2_drop 5 = .ok (.ifCond .eq 23, 3) := by decide +kernel
theorem dX2_drop_8 : decode cX2_drop 8 = .ok (.aload_n 0, 1) := by decide +kernel
theorem dX2_drop_9 : decode cX2_drop 9 = .ok (.getfield 9, 3) := by decide +kernel
theorem dX2_drop_12 : decode cX2_drop 12 = .ok (.iload_n 1, 1) := by decide +kernel
theorem dX2_drop_13 : decode cX2_drop 13 = .ok (.bipush 10, 2) := by decide +kernel
theorem dX2_drop_15 : decode cX2_drop 15 = .ok (.iadd, 1) := by decide +kernel
theorem dX2_drop_16 : decode cX2_drop 16 = .ok (.iconst 0, 1) := by decide +kernel
theorem dX2_drop_17 : decode cX2_drop 17 = .ok (.bastore, 1) := by decide +kernel
theorem dX2_drop_18 : decode cX2_drop 18 = .ok (.aload_n 0, 1) := by decide +kernel
theorem dX2_drop_19 : decode cX2_drop 19 = .ok (.dup, 1) := by decide +kernel
theorem dX2_drop_20 : decode cX2_drop 20 = .ok (.getfield 22, 3) := by decide +kernel
theorem dX2_drop_23 : decode cX2_drop 23 = .ok (.iconst 1, 1) := by decide +kernel
theorem dX2_drop_24 : decode cX2_drop 24 = .ok (.isub, 1) := by decide +kernel
theorem dX2_drop_25 : decode cX2_drop 25 = .ok (.putfield 22, 3) := by decide +kernel
theorem dX2_drop_28 : decode cX2_drop 28 = .ok (.return_, 1) := by decide +kernel
theorem dX3_init_0 : decode cX3_init 0 = .ok (.aload_n 0, 1) := by decide +kernel
theorem dX3_init_1 : decode cX3_init 1 = .ok (.invokespecial 3, 3) := by decide +kernel
theorem dX3_init_4 : decode cX3_init 4 = .ok (.aload_n 0, 1) := by decide +kernel
theorem dX3_init_5 : decode cX3_init 5 = .ok (.bipush 24, 2) := by decide +kernel
theorem dX3_init_7 : decode cX3_init 7 = .ok (.newarray .int, 2) := by decide +kernel
theorem dX3_init_9 : decode cX3_init 9 = .ok (.putfield 9, 3) := by decide +kernel
theorem dX3_init_12 : decode cX3_init 12 = .ok (.return_, 1) := by decide +kernel
theorem dX3_labelAt_0 : decode cX3_labelAt 0 = .ok (.aload_n 0, 1) := by decide +kernel
theorem dX3_labelAt_1 : decode cX3_labelAt 1 = .ok (.getfield 15, 3) := by decide +kernel
theorem dX3_labelAt_4 : decode cX3_labelAt 4 = .ok (.iload_n 1, 1) := by decide +kernel
theorem dX3_labelAt_5 : decode cX3_labelAt 5 = .ok (.ishr, 1) := by decide +kernel
theorem dX3_labelAt_6 : decode cX3_labelAt 6 = .ok (.iconst 1, 1) := by decide +kernel
theorem dX3_labelAt_7 : decode cX3_labelAt 7 = .ok (.iand, 1) := by decide +kernel
theorem dX3_labelAt_8 : decode cX3_labelAt 8 = .ok (.ifCond .eq 5, 3) := by decide +kernel
theorem dX3_labelAt_11 : decode cX3_labelAt 11 = .ok (.iconst 2, 1) := by decide +kernel
theorem dX3_labelAt_12 : decode cX3_labelAt 12 = .ok (.ireturn, 1) := by decide +kernel
theorem dX3_labelAt_13 : decode cX3_labelAt 13 = .ok (.aload_n 0, 1) := by decide +kernel
theorem dX3_labelAt_14 : decode cX3_labelAt 14 = .ok (.getfield 19, 3) := by decide +kernel
theorem dX3_labelAt_17 : decode cX3_labelAt 17 = .ok (.iload_n 1, 1) := by decide +kernel
theorem dX3_labelAt_18 : decode cX3_labelAt 18 = .ok (.ishr, 1) := by decide +kernel
theorem dX3_labelAt_19 : decode cX3_labelAt 19 = .ok (.iconst 1, 1) := by decide +kernel
theorem dX3_labelAt_20 : decode cX3_labelAt 20 = .ok (.iand, 1) := by decide +kernel
theorem dX3_labelAt_21 : decode cX3_labelAt 21 = .ok (.ifCond .eq 7, 3) := by decide +kernel
theorem dX3_labelAt_24 : decode cX3_labelAt 24 = .ok (.iconst 0, 1) := by decide +kernel
theorem dX3_labelAt_25 : decode cX3_labelAt 25 = .ok (.goto 4, 3) := by decide +kernel
theorem dX3_labelAt_28 : decode cX3_labelAt 28 = .ok (.iconst 1, 1) := by decide +kernel
theorem dX3_labelAt_29 : decode cX3_labelAt 29 = .ok (.ireturn, 1) := by decide +kernel
theorem dX3_roundAt_0 : decode cX3_roundAt 0 = .ok (.iload_n 1, 1) := by decide +kernel
theorem dX3_roundAt_1 : decode cX3_roundAt 1 = .ok (.ifCond .lt 18, 3) := by decide +kernel
theorem dX3_roundAt_4 : decode cX3_roundAt 4 = .ok (.iload_n 1, 1) := by decide +kernel
theorem dX3_roundAt_5 : decode cX3_roundAt 5 = .ok (.bipush 24, 2) := by decide +kernel
theorem dX3_roundAt_7 : decode cX3_roundAt 7 = .ok (.if_icmp .ge 12, 3) := by decide +kernel
theorem dX3_roundAt_10 : decode cX3_roundAt 10 = .ok (.aload_n 0, 1) := by decide +kernel
theorem dX3_roundAt_11 : decode cX3_roundAt 11 = .ok (.getfield 9, 3) := by decide +kernel
theorem dX3_roundAt_14 : decode cX3_roundAt 14 = .ok (.iload_n 1, 1) := by decide +kernel
theorem dX3_roundAt_15 : decode cX3_roundAt 15 = .ok (.iaload, 1) := by decide +kernel
theorem dX3_roundAt_16 : decode cX3_roundAt 16 = .ok (.goto 4, 3) := by decide +kernel
theorem dX3_roundAt_19 : decode cX3_roundAt 19 = .ok (.iconst 0, 1) := by decide +kernel
theorem dX3_roundAt_20 : decode cX3_roundAt 20 = .ok (.ireturn, 1) := by decide +kernel
theorem dX3_build_0 : decode cX3_build 0 = .ok (.aload_n 0, 1) := by decide +kernel
theorem dX3_build_1 : decode cX3_build 1 = .ok (.iconst 0, 1) := by decide +kernel
theorem dX3_build_2 : decode cX3_build 2 = .ok (.putfield 15, 3) := by decide +kernel
theorem dX3_build_5 : decode cX3_build 5 = .ok (.aload_n 0, 1) := by decide +kernel
theorem dX3_build_6 : decode cX3_build 6 = .ok (.iconst 0, 1) := by decide +kernel
theorem dX3_build_7 : decode cX3_build 7 = .ok (.putfield 19, 3) := by decide +kernel
theorem dX3_build_10 : decode cX3_build 10 = .ok (.iconst 0, 1) := by decide +kernel
theorem dX3_build_11 : decode cX3_build 11 = .ok (.istore_n 3, 1) := by decide +kernel
theorem dX3_build_12 : decode cX3_build 12 = .ok (.iload_n 3, 1) := by decide +kernel
theorem dX3_build_13 : decode cX3_build 13 = .ok (.bipush 24, 2) := by decide +kernel
theorem dX3_build_15 : decode cX3_build 15 = .ok (.if_icmp .ge 16, 3) := by decide +kernel
theorem dX3_build_18 : decode cX3_build 18 = .ok (.aload_n 0, 1) := by decide +kernel
theorem dX3_build_19 : decode cX3_build 19 = .ok (.getfield 9, 3) := by decide +kernel
theorem dX3_build_22 : decode cX3_build 22 = .ok (.iload_n 3, 1) := by decide +kernel
theorem dX3_build_23 : decode cX3_build 23 = .ok (.iconst 0, 1) := by decide +kernel
theorem dX3_build_24 : decode cX3_build 24 = .ok (.iastore, 1) := by decide +kernel
theorem dX3_build_25 : decode cX3_build 25 = .ok (.iinc 3 1, 3) := by decide +kernel
theorem dX3_build_28 : decode cX3_build 28 = .ok (.goto (-16), 3) := by decide +kernel
theorem dX3_build_31 : decode cX3_build 31 = .ok (.iconst 1, 1) := by decide +kernel
theorem dX3_build_32 : decode cX3_build 32 = .ok (.istore_n 3, 1) := by decide +kernel
theorem dX3_build_33 : decode cX3_build 33 = .ok (.iload_n 3, 1) := by decide +kernel
theorem dX3_build_34 : decode cX3_build 34 = .ok (.bipush 24, 2) := by decide +kernel
theorem dX3_build_36 : decode cX3_build 36 = .ok (.if_icmp .gt 79, 3) := by decide +kernel
theorem dX3_build_39 : decode cX3_build 39 = .ok (.aload_n 0, 1) := by decide +kernel
theorem dX3_build_40 : decode cX3_build 40 = .ok (.getfield 15, 3) := by decide +kernel
theorem dX3_build_43 : decode cX3_build 43 = .ok (.aload_n 0, 1) := by decide +kernel
theorem dX3_build_44 : decode cX3_build 44 = .ok (.getfield 19, 3) := by decide +kernel
theorem dX3_build_47 : decode cX3_build 47 = .ok (.ior, 1) := by decide +kernel
theorem dX3_build_48 : decode cX3_build 48 = .ok (.istore 4, 2) := by decide +kernel
theorem dX3_build_50 : decode cX3_build 50 = .ok (.aload_n 0, 1) := by decide +kernel
theorem dX3_build_51 : decode cX3_build 51 = .ok (.dup, 1) := by decide +kernel
theorem dX3_build_52 : decode cX3_build 52 = .ok (.getfield 15, 3) := by decide +kernel
theorem dX3_build_55 : decode cX3_build 55 = .ok (.aload_n 0, 1) := by decide +kernel
theorem dX3_build_56 : decode cX3_build 56 = .ok (.aload_n 1, 1) := by decide +kernel
theorem dX3_build_57 : decode cX3_build 57 = .ok (.iload_n 2, 1) := by decide +kernel
theorem dX3_build_58 : decode cX3_build 58 = .ok (.invokevirtual 22, 3) := by decide +kernel
theorem dX3_build_61 : decode cX3_build 61 = .ok (.ior, 1) := by decide +kernel
theorem dX3_build_62 : decode cX3_build 62 = .ok (.putfield 15, 3) := by decide +kernel
theorem dX3_build_65 : decode cX3_build 65 = .ok (.aload_n 0, 1) := by decide +kernel
theorem dX3_build_66 : decode cX3_build 66 = .ok (.dup, 1) := by decide +kernel
theorem dX3_build_67 : decode cX3_build 67 = .ok (.getfield 19, 3) := by decide +kernel
theorem dX3_build_70 : decode cX3_build 70 = .ok (.aload_n 0, 1) := by decide +kernel
theorem dX3_build_71 : decode cX3_build 71 = .ok (.aload_n 1, 1) := by decide +kernel
theorem dX3_build_72 : decode cX3_build 72 = .ok (.iload_n 2, 1) := by decide +kernel
theorem dX3_build_73 : decode cX3_build 73 = .ok (.invokevirtual 26, 3) := by decide +kernel
theorem dX3_build_76 : decode cX3_build 76 = .ok (.ior, 1) := by decide +kernel
theorem dX3_build_77 : decode cX3_build 77 = .ok (.putfield 19, 3) := by decide +kernel
theorem dX3_build_80 : decode cX3_build 80 = .ok (.aload_n 0, 1) := by decide +kernel
theorem dX3_build_81 : decode cX3_build 81 = .ok (.getfield 15, 3) := by decide +kernel
theorem dX3_build_84 : decode cX3_build 84 = .ok (.aload_n 0, 1) := by decide +kernel
theorem dX3_build_85 : decode cX3_build 85 = .ok (.getfield 19, 3) := by decide +kernel
theorem dX3_build_88 : decode cX3_build 88 = .ok (.ior, 1) := by decide +kernel
theorem dX3_build_89 : decode cX3_build 89 = .ok (.iload 4, 2) := by decide +kernel
theorem dX3_build_91 : decode cX3_build 91 = .ok (.iconst (-1), 1) := by decide +kernel
theorem dX3_build_92 : decode cX3_build 92 = .ok (.ixor, 1) := by decide +kernel
theorem dX3_build_93 : decode cX3_build 93 = .ok (.iand, 1) := by decide +kernel
theorem dX3_build_94 : decode cX3_build 94 = .ok (.istore 5, 2) := by decide +kernel
theorem dX3_build_96 : decode cX3_build 96 = .ok (.iload 5, 2) := by decide +kernel
theorem dX3_build_98 : decode cX3_build 98 = .ok (.ifCond .ne 4, 3) := by decide +kernel
theorem dX3_build_101 : decode cX3_build 101 = .ok (.return_, 1) := by decide +kernel
theorem dX3_build_102 : decode cX3_build 102 = .ok (.aload_n 0, 1) := by decide +kernel
theorem dX3_build_103 : decode cX3_build 103 = .ok (.iload_n 3, 1) := by decide +kernel
theorem dX3_build_104 : decode cX3_build 104 = .ok (.iload 5, 2) := by decide +kernel
theorem dX3_build_106 : decode cX3_build 106 = .ok (.invokevirtual 29, 3) := by decide +kernel
theorem dX3_build_109 : decode cX3_build 109 = .ok (.iinc 3 1, 3) := by decide +kernel
theorem dX3_build_112 : decode cX3_build 112 = .ok (.goto (-79), 3) := by decide +kernel
theorem dX3_build_115 : decode cX3_build 115 = .ok (.return_, 1) := by decide +kernel
theorem dX3_unattacked_0 : decode cX3_unattacked 0 = .ok (.iconst 0, 1) := by decide +kernel
theorem dX3_unattacked_1 : decode cX3_unattacked 1 = .ok (.istore_n 3, 1) := by decide +kernel
theorem dX3_unattacked_2 : decode cX3_unattacked 2 = .ok (.iconst 0, 1) := by decide +kernel
theorem dX3_unattacked_3 : decode cX3_unattacked 3 = .ok (.istore 4, 2) := by decide +kernel
theorem dX3_unattacked_5 : decode cX3_unattacked 5 = .ok (.iload 4, 2) := by decide +kernel
theorem dX3_unattacked_7 : decode cX3_unattacked 7 = .ok (.iload_n 2, 1) := by decide +kernel
theorem dX3_unattacked_8 : decode cX3_unattacked 8 = .ok (.if_icmp .ge 42, 3) := by decide +kernel
theorem dX3_unattacked_11 : decode cX3_unattacked 11 = .ok (.aload_n 0, 1) := by decide +kernel
theorem dX3_unattacked_12 : decode cX3_unattacked 12 = .ok (.iload 4, 2) := by decide +kernel
theorem dX3_unattacked_14 : decode cX3_unattacked 14 = .ok (.invokevirtual 33, 3) := by decide +kernel
theorem dX3_unattacked_17 : decode cX3_unattacked 17 = .ok (.iconst 1, 1) := by decide +kernel
theorem dX3_unattacked_18 : decode cX3_unattacked 18 = .ok (.if_icmp .ne 26, 3) := by decide +kernel
theorem dX3_unattacked_21 : decode cX3_unattacked 21 = .ok (.aload_n 1, 1) := by decide +kernel
theorem dX3_unattacked_22 : decode cX3_unattacked 22 = .ok (.iload 4, 2) := by decide +kernel
theorem dX3_unattacked_24 : decode cX3_unattacked 24 = .ok (.invokevirtual 37, 3) := by decide +kernel
theorem dX3_unattacked_27 : decode cX3_unattacked 27 = .ok (.aload_n 0, 1) := by decide +kernel
theorem dX3_unattacked_28 : decode cX3_unattacked 28 = .ok (.getfield 19, 3) := by decide +kernel
theorem dX3_unattacked_31 : decode cX3_unattacked 31 = .ok (.iconst (-1), 1) := by decide +kernel
theorem dX3_unattacked_32 : decode cX3_unattacked 32 = .ok (.ixor, 1) := by decide +kernel
theorem dX3_unattacked_33 : decode cX3_unattacked 33 = .ok (.iand, 1) := by decide +kernel
theorem dX3_unattacked_34 : decode cX3_unattacked 34 = .ok (.ifCond .ne 10, 3) := by decide +kernel
theorem dX3_unattacked_37 : decode cX3_unattacked 37 = .ok (.iload_n 3, 1) := by decide +kernel
theorem dX3_unattacked_38 : decode cX3_unattacked 38 = .ok (.iconst 1, 1) := by decide +kernel
theorem dX3_unattacked_39 : decode cX3_unattacked 39 = .ok (.iload 4, 2) := by decide +kernel
theorem dX3_unattacked_41 : decode cX3_unattacked 41 = .ok (.ishl, 1) := by decide +kernel
theorem dX3_unattacked_42 : decode cX3_unattacked 42 = .ok (.ior, 1) := by decide +kernel
theorem dX3_unattacked_43 : decode cX3_unattacked 43 = .ok (.istore_n 3, 1) := by decide +kernel
theorem dX3_unattacked_44 : decode cX3_unattacked 44 = .ok (.iinc 4 1, 3) := by decide +kernel
theorem dX3_unattacked_47 : decode cX3_unattacked 47 = .ok (.goto (-42), 3) := by decide +kernel
theorem dX3_unattacked_50 : decode cX3_unattacked 50 = .ok (.iload_n 3, 1) := by decide +kernel
theorem dX3_unattacked_51 : decode cX3_unattacked 51 = .ok (.ireturn, 1) := by decide +kernel
theorem dX3_defeated_0 : decode cX3_defeated 0 = .ok (.iconst 0, 1) := by decide +kernel
theorem dX3_defeated_1 : decode cX3_defeated 1 = .ok (.istore_n 3, 1) := by decide +kernel
theorem dX3_defeated_2 : decode cX3_defeated 2 = .ok (.iconst 0, 1) := by decide +kernel
theorem dX3_defeated_3 : decode cX3_defeated 3 = .ok (.istore 4, 2) := by decide +kernel
theorem dX3_defeated_5 : decode cX3_defeated 5 = .ok (.iload 4, 2) := by decide +kernel
theorem dX3_defeated_7 : decode cX3_defeated 7 = .ok (.iload_n 2, 1) := by decide +kernel
theorem dX3_defeated_8 : decode cX3_defeated 8 = .ok (.if_icmp .ge 40, 3) := by decide +kernel
theorem dX3_defeated_11 : decode cX3_defeated 11 = .ok (.aload_n 0, 1) := by decide +kernel
theorem dX3_defeated_12 : decode cX3_defeated 12 = .ok (.iload 4, 2) := by decide +kernel
theorem dX3_defeated_14 : decode cX3_defeated 14 = .ok (.invokevirtual 33, 3) := by decide +kernel
theorem dX3_defeated_17 : decode cX3_defeated 17 = .ok (.iconst 1, 1) := by decide +kernel
theorem dX3_defeated_18 : decode cX3_defeated 18 = .ok (.if_icmp .ne 24, 3) := by decide +kernel
theorem dX3_defeated_21 : decode cX3_defeated 21 = .ok (.aload_n 1, 1) := by decide +kernel
theorem dX3_defeated_22 : decode cX3_defeated 22 = .ok (.iload 4, 2) := by decide +kernel
theorem dX3_defeated_24 : decode cX3_defeated 24 = .ok (.invokevirtual 37, 3) := by decide +kernel
theorem dX3_defeated_27 : decode cX3_defeated 27 = .ok (.aload_n 0, 1) := by decide +kernel
theorem dX3_defeated_28 : decode cX3_defeated 28 = .ok (.getfield 15, 3) := by decide +kernel
theorem dX3_defeated_31 : decode cX3_defeated 31 = .ok (.iand, 1) := by decide +kernel
theorem dX3_defeated_32 : decode cX3_defeated 32 = .ok (.ifCond .eq 10, 3) := by decide +kernel
theorem dX3_defeated_35 : decode cX3_defeated 35 = .ok (.iload_n 3, 1) := by decide +kernel
theorem dX3_defeated_36 : decode cX3_defeated 36 = .ok (.iconst 1, 1) := by decide +kernel
theorem dX3_defeated_37 : decode cX3_defeated 37 = .ok (.iload 4, 2) := by decide +kernel
theorem dX3_defeated_39 : decode cX3_defeated 39 = .ok (.ishl, 1) := by decide +kernel
theorem dX3_defeated_40 : decode cX3_defeated 40 = .ok (.ior, 1) := by decide +kernel
theorem dX3_defeated_41 : decode cX3_defeated 41 = .ok (.istore_n 3, 1) := by decide +kernel
theorem dX3_defeated_42 : decode cX3_defeated 42 = .ok (.iinc 4 1, 3) := by decide +kernel
theorem dX3_defeated_45 : decode cX3_defeated 45 = .ok (.goto (-40), 3) := by decide +kernel
theorem dX3_defeated_48 : decode cX3_defeated 48 = .ok (.iload_n 3, 1) := by decide +kernel
theorem dX3_defeated_49 : decode cX3_defeated 49 = .ok (.ireturn, 1) := by decide +kernel
theorem dX3_noteRound_0 : decode cX3_noteRound 0 = .ok (.iconst 0, 1) := by decide +kernel
theorem dX3_noteRound_1 : decode cX3_noteRound 1 = .ok (.istore_n 3, 1) := by decide +kernel
theorem dX3_noteRound_2 : decode cX3_noteRound 2 = .ok (.iload_n 3, 1) := by decide +kernel
theorem dX3_noteRound_3 : decode cX3_noteRound 3 = .ok (.bipush 24, 2) := by decide +kernel
theorem dX3_noteRound_5 : decode cX3_noteRound 5 = .ok (.if_icmp .ge 24, 3) := by decide +kernel
theorem dX3_noteRound_8 : decode cX3_noteRound 8 = .ok (.iload_n 2, 1) := by decide +kernel
theorem dX3_noteRound_9 : decode cX3_noteRound 9 = .ok (.iload_n 3, 1) := by decide +kernel
theorem dX3_noteRound_10 : decode cX3_noteRound 10 = .ok (.ishr, 1) := by decide +kernel
theorem dX3_noteRound_11 : decode cX3_noteRound 11 = .ok (.iconst 1, 1) := by decide +kernel
theorem dX3_noteRound_12 : decode cX3_noteRound 12 = .ok (.iand, 1) := by decide +kernel
theorem dX3_noteRound_13 : decode cX3_noteRound 13 = .ok (.ifCond .eq 10, 3) := by decide +kernel
theorem dX3_noteRound_16 : decode cX3_noteRound 16 = .ok (.aload_n 0, 1) := by decide +kernel
theorem dX3_noteRound_17 : decode cX3_noteRound 17 = .ok (.getfield 9, 3) := by decide +kernel
theorem dX3_noteRound_20 : decode cX3_noteRound 20 = .ok (.iload_n 3, 1) := by decide +kernel
theorem dX3_noteRound_21 : decode cX3_noteRound 21 = .ok (.iload_n 1, 1) := by decide +kernel
theorem dX3_noteRound_22 : decode cX3_noteRound 22 = .ok (.iastore, 1) := by decide +kernel
theorem dX3_noteRound_23 : decode cX3_noteRound 23 = .ok (.iinc 3 1, 3) := by decide +kernel
theorem dX3_noteRound_26 : decode cX3_noteRound 26 = .ok (.goto (-24), 3) := by decide +kernel
theorem dX3_noteRound_29 : decode cX3_noteRound 29 = .ok (.return_, 1) := by decide +kernel
theorem dX4_init_0 : decode cX4_init 0 = .ok (.aload_n 0, 1) := by decide +kernel
theorem dX4_init_1 : decode cX4_init 1 = .ok (.invokespecial 1, 3) := by decide +kernel
theorem dX4_init_4 : decode cX4_init 4 = .ok (.aload_n 0, 1) := by decide +kernel
theorem dX4_init_5 : decode cX4_init 5 = .ok (.iload_n 1, 1) := by decide +kernel
theorem dX4_init_6 : decode cX4_init 6 = .ok (.putfield 7, 3) := by decide +kernel
theorem dX4_init_9 : decode cX4_init 9 = .ok (.aload_n 0, 1) := by decide +kernel
theorem dX4_init_10 : decode cX4_init 10 = .ok (.iload_n 2, 1) := by decide +kernel
theorem dX4_init_11 : decode cX4_init 11 = .ok (.putfield 13, 3) := by decide +kernel
theorem dX4_init_14 : decode cX4_init 14 = .ok (.aload_n 0, 1) := by decide +kernel
theorem dX4_init_15 : decode cX4_init 15 = .ok (.iload_n 3, 1) := by decide +kernel
theorem dX4_init_16 : decode cX4_init 16 = .ok (.putfield 16, 3) := by decide +kernel
theorem dX4_init_19 : decode cX4_init 19 = .ok (.aload_n 0, 1) := by decide +kernel
theorem dX4_init_20 : decode cX4_init 20 = .ok (.iload 4, 2) := by decide +kernel
theorem dX4_init_22 : decode cX4_init 22 = .ok (.putfield 19, 3) := by decide +kernel
theorem dX4_init_25 : decode cX4_init 25 = .ok (.aload_n 0, 1) := by decide +kernel
theorem dX4_init_26 : decode cX4_init 26 = .ok (.iload 5, 2) := by decide +kernel
theorem dX4_init_28 : decode cX4_init 28 = .ok (.putfield 22, 3) := by decide +kernel
theorem dX4_init_31 : decode cX4_init 31 = .ok (.aload_n 0, 1) := by decide +kernel
theorem dX4_init_32 : decode cX4_init 32 = .ok (.iconst 1, 1) := by decide +kernel
theorem dX4_init_33 : decode cX4_init 33 = .ok (.putfield 25, 3) := by decide +kernel
theorem dX4_init_36 : decode cX4_init 36 = .ok (.return_, 1) := by decide +kernel
theorem dX5_init_0 : decode cX5_init 0 = .ok (.aload_n 0, 1) := by decide +kernel
theorem dX5_init_1 : decode cX5_init 1 = .ok (.invokespecial 3, 3) := by decide +kernel
theorem dX5_init_4 : decode cX5_init 4 = .ok (.aload_n 0, 1) := by decide +kernel
theorem dX5_init_5 : decode cX5_init 5 = .ok (.new 9, 3) := by decide +kernel
theorem dX5_init_8 : decode cX5_init 8 = .ok (.dup, 1) := by decide +kernel
theorem dX5_init_9 : decode cX5_init 9 = .ok (.invokespecial 11, 3) := by decide +kernel
theorem dX5_init_12 : decode cX5_init 12 = .ok (.putfield 12, 3) := by decide +kernel
theorem dX5_init_15 : decode cX5_init 15 = .ok (.aload_n 0, 1) := by decide +kernel
theorem dX5_init_16 : decode cX5_init 16 = .ok (.new 18, 3) := by decide +kernel
theorem dX5_init_19 : decode cX5_init 19 = .ok (.dup, 1) := by decide +kernel
theorem dX5_init_20 : decode cX5_init 20 = .ok (.iconst 0, 1) := by decide +kernel
theorem dX5_init_21 : decode cX5_init 21 = .ok (.iconst 0, 1) := by decide +kernel
theorem dX5_init_22 : decode cX5_init 22 = .ok (.iconst 0, 1) := by decide +kernel
theorem dX5_init_23 : decode cX5_init 23 = .ok (.iconst 0, 1) := by decide +kernel
theorem dX5_init_24 : decode cX5_init 24 = .ok (.iconst 0, 1) := by decide +kernel
theorem dX5_init_25 : decode cX5_init 25 = .ok (.invokespecial 20, 3) := by decide +kernel
theorem dX5_init_28 : decode cX5_init 28 = .ok (.putfield 23, 3) := by decide +kernel
theorem dX5_init_31 : decode cX5_init 31 = .ok (.aload_n 0, 1) := by decide +kernel
theorem dX5_init_32 : decode cX5_init 32 = .ok (.getfield 23, 3) := by decide +kernel
theorem dX5_init_35 : decode cX5_init 35 = .ok (.iconst 0, 1) := by decide +kernel
theorem dX5_init_36 : decode cX5_init 36 = .ok (.putfield 27, 3) := by decide +kernel
theorem dX5_init_39 : decode cX5_init 39 = .ok (.return_, 1) := by decide +kernel
theorem dX5_size_0 : decode cX5_size 0 = .ok (.aload_n 0, 1) := by decide +kernel
theorem dX5_size_1 : decode cX5_size 1 = .ok (.getfield 12, 3) := by decide +kernel
theorem dX5_size_4 : decode cX5_size 4 = .ok (.invokevirtual 31, 3) := by decide +kernel
theorem dX5_size_7 : decode cX5_size 7 = .ok (.ireturn, 1) := by decide +kernel
theorem dX5_at_0 : decode cX5_at 0 = .ok (.iload_n 1, 1) := by decide +kernel
theorem dX5_at_1 : decode cX5_at 1 = .ok (.ifCond .lt 28, 3) := by decide +kernel
theorem dX5_at_4 : decode cX5_at 4 = .ok (.iload_n 1, 1) := by decide +kernel
theorem dX5_at_5 : decode cX5_at 5 = .ok (.aload_n 0, 1) := by decide +kernel
theorem dX5_at_6 : decode cX5_at 6 = .ok (.getfield 12, 3) := by decide +kernel
theorem dX5_at_9 : decode cX5_at 9 = .ok (.invokevirtual 31, 3) := by decide +kernel
theorem dX5_at_12 : decode cX5_at 12 = .ok (.if_icmp .ge 17, 3) := by decide +kernel
theorem dX5_at_15 : decode cX5_at 15 = .ok (.aload_n 0, 1) := by decide +kernel
theorem dX5_at_16 : decode cX5_at 16 = .ok (.getfield 12, 3) := by decide +kernel
theorem dX5_at_19 : decode cX5_at 19 = .ok (.iload_n 1, 1) := by decide +kernel
theorem dX5_at_20 : decode cX5_at 20 = .ok (.invokevirtual 35, 3) := by decide +kernel
theorem dX5_at_23 : decode cX5_at 23 = .ok (.checkcast 18, 3) := by decide +kernel
theorem dX5_at_26 : decode cX5_at 26 = .ok (.goto 7, 3) := by decide +kernel
theorem dX5_at_29 : decode cX5_at 29 = .ok (.aload_n 0, 1) := by decide +kernel
theorem dX5_at_30 : decode cX5_at 30 = .ok (.getfield 23, 3) := by decide +kernel
theorem dX5_at_33 : decode cX5_at 33 = .ok (.areturn, 1) := by decide +kernel
theorem dX5_put_0 : decode cX5_put 0 = .ok (.aload_n 0, 1) := by decide +kernel
theorem dX5_put_1 : decode cX5_put 1 = .ok (.getfield 12, 3) := by decide +kernel
theorem dX5_put_4 : decode cX5_put 4 = .ok (.invokevirtual 31, 3) := by decide +kernel
theorem dX5_put_7 : decode cX5_put 7 = .ok (.bipush 12, 2) := by decide +kernel
theorem dX5_put_9 : decode cX5_put 9 = .ok (.if_icmp .ge 12, 3) := by decide +kernel
theorem dX5_put_12 : decode cX5_put 12 = .ok (.aload_n 0, 1) := by decide +kernel
theorem dX5_put_13 : decode cX5_put 13 = .ok (.getfield 12, 3) := by decide +kernel
theorem dX5_put_16 : decode cX5_put 16 = .ok (.aload_n 1, 1) := by decide +kernel
theorem dX5_put_17 : decode cX5_put 17 = .ok (.invokevirtual 39, 3) := by decide +kernel
theorem dX5_put_20 : decode cX5_put 20 = .ok (.pop, 1) := by decide +kernel
theorem dX5_put_21 : decode cX5_put 21 = .ok (.return_, 1) := by decide +kernel
theorem dX6_init_0 : decode cX6_init 0 = .ok (.aload_n 0, 1) := by decide +kernel
theorem dX6_init_1 : decode cX6_init 1 = .ok (.invokespecial 3, 3) := by decide +kernel
theorem dX6_init_4 : decode cX6_init 4 = .ok (.aload_n 0, 1) := by decide +kernel
theorem dX6_init_5 : decode cX6_init 5 = .ok (.sipush 162, 3) := by decide +kernel
theorem dX6_init_8 : decode cX6_init 8 = .ok (.newarray .int, 2) := by decide +kernel
theorem dX6_init_10 : decode cX6_init 10 = .ok (.putfield 9, 3) := by decide +kernel
theorem dX6_init_13 : decode cX6_init 13 = .ok (.return_, 1) := by decide +kernel
theorem dX6_clear_0 : decode cX6_clear 0 = .ok (.aload_n 0, 1) := by decide +kernel
theorem dX6_clear_1 : decode cX6_clear 1 = .ok (.iconst 0, 1) := by decide +kernel
theorem dX6_clear_2 : decode cX6_clear 2 = .ok (.putfield 15, 3) := by decide +kernel
theorem dX6_clear_5 : decode cX6_clear 5 = .ok (.return_, 1) := by decide +kernel
theorem dX6_keep_0 : decode cX6_keep 0 = .ok (.aload_n 0, 1) := by decide +kernel
theorem dX6_keep_1 : decode cX6_keep 1 = .ok (.getfield 15, 3) := by decide +kernel
theorem dX6_keep_4 : decode cX6_keep 4 = .ok (.sipush 162, 3) := by decide +kernel
theorem dX6_keep_7 : decode cX6_keep 7 = .ok (.if_icmp .ge 23, 3) := by decide +kernel
theorem dX6_keep_10 : decode cX6_keep 10 = .ok (.aload_n 0, 1) := by decide +kernel
theorem dX6_keep_11 : decode cX6_keep 11 = .ok (.getfield 9, 3) := by decide +kernel
theorem dX6_keep_14 : decode cX6_keep 14 = .ok (.aload_n 0, 1) := by decide +kernel
theorem dX6_keep_15 : decode cX6_keep 15 = .ok (.getfield 15, 3) := by decide +kernel
theorem dX6_keep_18 : decode cX6_keep 18 = .ok (.iload_n 1, 1) := by decide +kernel
theorem dX6_keep_19 : decode cX6_keep 19 = .ok (.iastore, 1) := by decide +kernel
theorem dX6_keep_20 : decode cX6_keep 20 = .ok (.aload_n 0, 1) := by decide +kernel
theorem dX6_keep_21 : decode cX6_keep 21 = .ok (.dup, 1) := by decide +kernel
theorem dX6_keep_22 : decode cX6_keep 22 = .ok (.getfield 15, 3) := by decide +kernel
theorem dX6_keep_25 : decode cX6_keep 25 = .ok (.iconst 1, 1) := by decide +kernel
theorem dX6_keep_26 : decode cX6_keep 26 = .ok (.iadd, 1) := by decide +kernel
theorem dX6_keep_27 : decode cX6_keep 27 = .ok (.putfield 15, 3) := by decide +kernel
theorem dX6_keep_30 : decode cX6_keep 30 = .ok (.return_, 1) := by decide +kernel
theorem dX6_covers_0 : decode cX6_covers 0 = .ok (.iconst 0, 1) := by decide +kernel
theorem dX6_covers_1 : decode cX6_covers 1 = .ok (.istore_n 2, 1) := by decide +kernel
theorem dX6_covers_2 : decode cX6_covers 2 = .ok (.iload_n 2, 1) := by decide +kernel
theorem dX6_covers_3 : decode cX6_covers 3 = .ok (.aload_n 0, 1) := by decide +kernel
theorem dX6_covers_4 : decode cX6_covers 4 = .ok (.getfield 15, 3) := by decide +kernel
theorem dX6_covers_7 : decode cX6_covers 7 = .ok (.if_icmp .ge 31, 3) := by decide +kernel
theorem dX6_covers_10 : decode cX6_covers 10 = .ok (.iload_n 2, 1) := by decide +kernel
theorem dX6_covers_11 : decode cX6_covers 11 = .ok (.sipush 162, 3) := by decide +kernel
theorem dX6_covers_14 : decode cX6_covers 14 = .ok (.if_icmp .ge 24, 3) := by decide +kernel
theorem dX6_covers_17 : decode cX6_covers 17 = .ok (.iload_n 1, 1) := by decide +kernel
theorem dX6_covers_18 : decode cX6_covers 18 = .ok (.aload_n 0, 1) := by decide +kernel
theorem dX6_covers_19 : decode cX6_covers 19 = .ok (.getfield 9, 3) := by decide +kernel
theorem dX6_covers_22 : decode cX6_covers 22 = .ok (.iload_n 2, 1) := by decide +kernel
theorem dX6_covers_23 : decode cX6_covers 23 = .ok (.iaload, 1) := by decide +kernel
theorem dX6_covers_24 : decode cX6_covers 24 = .ok (.iconst (-1), 1) := by decide +kernel
theorem dX6_covers_25 : decode cX6_covers 25 = .ok (.ixor, 1) := by decide +kernel
theorem dX6_covers_26 : decode cX6_covers 26 = .ok (.iand, 1) := by decide +kernel
theorem dX6_covers_27 : decode cX6_covers 27 = .ok (.ifCond .ne 5, 3) := by decide +kernel
theorem dX6_covers_30 : decode cX6_covers 30 = .ok (.iconst 1, 1) := by decide +kernel
theorem dX6_covers_31 : decode cX6_covers 31 = .ok (.ireturn, 1) := by decide +kernel
theorem dX6_covers_32 : decode cX6_covers 32 = .ok (.iinc 2 1, 3) := by decide +kernel
theorem dX6_covers_35 : decode cX6_covers 35 = .ok (.goto (-33), 3) := by decide +kernel
theorem dX6_covers_38 : decode cX6_covers 38 = .ok (.iconst 0, 1) := by decide +kernel
theorem dX6_covers_39 : decode cX6_covers 39 = .ok (.ireturn, 1) := by decide +kernel
theorem dX6_contains_0 : decode cX6_contains 0 = .ok (.iload_n 1, 1) := by decide +kernel
theorem dX6_contains_1 : decode cX6_contains 1 = .ok (.ifCond .lt 22, 3) := by decide +kernel
theorem dX6_contains_4 : decode cX6_contains 4 = .ok (.iload_n 1, 1) := by decide +kernel
theorem dX6_contains_5 : decode cX6_contains 5 = .ok (.aload_n 0, 1) := by decide +kernel
theorem dX6_contains_6 : decode cX6_contains 6 = .ok (.getfield 15, 3) := by decide +kernel
theorem dX6_contains_9 : decode cX6_contains 9 = .ok (.if_icmp .ge 14, 3) := by decide +kernel
theorem dX6_contains_12 : decode cX6_contains 12 = .ok (.iload_n 1, 1) := by decide +kernel
theorem dX6_contains_13 : decode cX6_contains 13 = .ok (.sipush 162, 3) := by decide +kernel
theorem dX6_contains_16 : decode cX6_contains 16 = .ok (.if_icmp .ge 7, 3) := by decide +kernel
theorem dX6_contains_19 : decode cX6_contains 19 = .ok (.iconst 1, 1) := by decide +kernel
theorem dX6_contains_20 : decode cX6_contains 20 = .ok (.goto 4, 3) := by decide +kernel
theorem dX6_contains_23 : decode cX6_contains 23 = .ok (.iconst 0, 1) := by decide +kernel
theorem dX6_contains_24 : decode cX6_contains 24 = .ok (.istore_n 3, 1) := by decide +kernel
theorem dX6_contains_25 : decode cX6_contains 25 = .ok (.iload_n 3, 1) := by decide +kernel
theorem dX6_contains_26 : decode cX6_contains 26 = .ok (.ifCond .eq 21, 3) := by decide +kernel
theorem dX6_contains_29 : decode cX6_contains 29 = .ok (.aload_n 0, 1) := by decide +kernel
theorem dX6_contains_30 : decode cX6_contains 30 = .ok (.getfield 9, 3) := by decide +kernel
theorem dX6_contains_33 : decode cX6_contains 33 = .ok (.iload_n 1, 1) := by decide +kernel
theorem dX6_contains_34 : decode cX6_contains 34 = .ok (.iaload, 1) := by decide +kernel
theorem dX6_contains_35 : decode cX6_contains 35 = .ok (.iload_n 2, 1) := by decide +kernel
theorem dX6_contains_36 : decode cX6_contains 36 = .ok (.invokestatic 19, 3) := by decide +kernel
theorem dX6_contains_39 : decode cX6_contains 39 = .ok (.iand, 1) := by decide +kernel
theorem dX6_contains_40 : decode cX6_contains 40 = .ok (.ifCond .eq 7, 3) := by decide +kernel
theorem dX6_contains_43 : decode cX6_contains 43 = .ok (.iconst 1, 1) := by decide +kernel
theorem dX6_contains_44 : decode cX6_contains 44 = .ok (.goto 4, 3) := by decide +kernel
theorem dX6_contains_47 : decode cX6_contains 47 = .ok (.iconst 0, 1) := by decide +kernel
theorem dX6_contains_48 : decode cX6_contains 48 = .ok (.ireturn, 1) := by decide +kernel
theorem dX7_init_0 : decode cX7_init 0 = .ok (.aload_n 0, 1) := by decide +kernel
theorem dX7_init_1 : decode cX7_init 1 = .ok (.invokespecial 3, 3) := by decide +kernel
theorem dX7_init_4 : decode cX7_init 4 = .ok (.aload_n 0, 1) := by decide +kernel
theorem dX7_init_5 : decode cX7_init 5 = .ok (.new 9, 3) := by decide +kernel
theorem dX7_init_8 : decode cX7_init 8 = .ok (.dup, 1) := by decide +kernel
theorem dX7_init_9 : decode cX7_init 9 = .ok (.invokespecial 11, 3) := by decide +kernel
theorem dX7_init_12 : decode cX7_init 12 = .ok (.putfield 12, 3) := by decide +kernel
theorem dX7_init_15 : decode cX7_init 15 = .ok (.aload_n 0, 1) := by decide +kernel
theorem dX7_init_16 : decode cX7_init 16 = .ok (.new 9, 3) := by decide +kernel
theorem dX7_init_19 : decode cX7_init 19 = .ok (.dup, 1) := by decide +kernel
theorem dX7_init_20 : decode cX7_init 20 = .ok (.invokespecial 11, 3) := by decide +kernel
theorem dX7_init_23 : decode cX7_init 23 = .ok (.putfield 18, 3) := by decide +kernel
theorem dX7_init_26 : decode cX7_init 26 = .ok (.aload_n 0, 1) := by decide +kernel
theorem dX7_init_27 : decode cX7_init 27 = .ok (.new 21, 3) := by decide +kernel
theorem dX7_init_30 : decode cX7_init 30 = .ok (.dup, 1) := by decide +kernel
theorem dX7_init_31 : decode cX7_init 31 = .ok (.invokespecial 23, 3) := by decide +kernel
theorem dX7_init_34 : decode cX7_init 34 = .ok (.putfield 24, 3) := by decide +kernel
theorem dX7_init_37 : decode cX7_init 37 = .ok (.aload_n 0, 1) := by decide +kernel
theorem dX7_init_38 : decode cX7_init 38 = .ok (.new 21, 3) := by decide +kernel
theorem dX7_init_41 : decode cX7_init 41 = .ok (.dup, 1) := by decide +kernel
theorem dX7_init_42 : decode cX7_init 42 = .ok (.invokespecial 23, 3) := by decide +kernel
theorem dX7_init_45 : decode cX7_init 45 = .ok (.putfield 28, 3) := by decide +kernel
theorem dX7_init_48 : decode cX7_init 48 = .ok (.return_, 1) := by decide +kernel
theorem dX7_prepare_0 : decode cX7_prepare 0 = .ok (.aload_n 0, 1) := by decide +kernel
theorem dX7_prepare_1 : decode cX7_prepare 1 = .ok (.iload_n 2, 1) := by decide +kernel
theorem dX7_prepare_2 : decode cX7_prepare 2 = .ok (.bipush 14, 2) := by decide +kernel
theorem dX7_prepare_4 : decode cX7_prepare 4 = .ok (.invokestatic 31, 3) := by decide +kernel
theorem dX7_prepare_7 : decode cX7_prepare 7 = .ok (.putfield 37, 3) := by decide +kernel
theorem dX7_prepare_10 : decode cX7_prepare 10 = .ok (.aload_n 0, 1) := by decide +kernel
theorem dX7_prepare_11 : decode cX7_prepare 11 = .ok (.getfield 12, 3) := by decide +kernel
theorem dX7_prepare_14 : decode cX7_prepare 14 = .ok (.invokevirtual 41, 3) := by decide +kernel
theorem dX7_prepare_17 : decode cX7_prepare 17 = .ok (.aload_n 0, 1) := by decide +kernel
theorem dX7_prepare_18 : decode cX7_prepare 18 = .ok (.getfield 18, 3) := by decide +kernel
theorem dX7_prepare_21 : decode cX7_prepare 21 = .ok (.invokevirtual 41, 3) := by decide +kernel
theorem dX7_prepare_24 : decode cX7_prepare 24 = .ok (.iconst 0, 1) := by decide +kernel
theorem dX7_prepare_25 : decode cX7_prepare 25 = .ok (.istore_n 3, 1) := by decide +kernel
theorem dX7_prepare_26 : decode cX7_prepare 26 = .ok (.iload_n 3, 1) := by decide +kernel
theorem dX7_prepare_27 : decode cX7_prepare 27 = .ok (.aload_n 0, 1) := by decide +kernel
theorem dX7_prepare_28 : decode cX7_prepare 28 = .ok (.getfield 37, 3) := by decide +kernel
theorem dX7_prepare_31 : decode cX7_prepare 31 = .ok (.if_icmp .ge 63, 3) := by decide +kernel
theorem dX7_prepare_34 : decode cX7_prepare 34 = .ok (.iconst 0, 1) := by decide +kernel
theorem dX7_prepare_35 : decode cX7_prepare 35 = .ok (.istore 4, 2) := by decide +kernel
theorem dX7_prepare_37 : decode cX7_prepare 37 = .ok (.iload 4, 2) := by decide +kernel
theorem dX7_prepare_39 : decode cX7_prepare 39 = .ok (.aload_n 0, 1) := by decide +kernel
theorem dX7_prepare_40 : decode cX7_prepare 40 = .ok (.getfield 37, 3) := by decide +kernel
theorem dX7_prepare_43 : decode cX7_prepare 43 = .ok (.if_icmp .ge 45, 3) := by decide +kernel
theorem dX7_prepare_46 : decode cX7_prepare 46 = .ok (.aload_n 1, 1) := by decide +kernel
theorem dX7_prepare_47 : decode cX7_prepare 47 = .ok (.iload_n 3, 1) := by decide +kernel
theorem dX7_prepare_48 : decode cX7_prepare 48 = .ok (.iload 4, 2) := by decide +kernel
theorem dX7_prepare_50 : decode cX7_prepare 50 = .ok (.invokevirtual 44, 3) := by decide +kernel
theorem dX7_prepare_53 : decode cX7_prepare 53 = .ok (.ifCond .eq 29, 3) := by decide +kernel
theorem dX7_prepare_56 : decode cX7_prepare 56 = .ok (.aload_n 0, 1) := by decide +kernel
theorem dX7_prepare_57 : decode cX7_prepare 57 = .ok (.getfield 12, 3) := by decide +kernel
theorem dX7_prepare_60 : decode cX7_prepare 60 = .ok (.iload 4, 2) := by decide +kernel
theorem dX7_prepare_62 : decode cX7_prepare 62 = .ok (.iload_n 3, 1) := by decide +kernel
theorem dX7_prepare_63 : decode cX7_prepare 63 = .ok (.invokestatic 50, 3) := by decide +kernel
theorem dX7_prepare_66 : decode cX7_prepare 66 = .ok (.invokevirtual 54, 3) := by decide +kernel
theorem dX7_prepare_69 : decode cX7_prepare 69 = .ok (.aload_n 0, 1) := by decide +kernel
theorem dX7_prepare_70 : decode cX7_prepare 70 = .ok (.getfield 18, 3) := by decide +kernel
theorem dX7_prepare_73 : decode cX7_prepare 73 = .ok (.iload_n 3, 1) := by decide +kernel
theorem dX7_prepare_74 : decode cX7_prepare 74 = .ok (.iload 4, 2) := by decide +kernel
theorem dX7_prepare_76 : decode cX7_prepare 76 = .ok (.invokestatic 50, 3) := by decide +kernel
theorem dX7_prepare_79 : decode cX7_prepare 79 = .ok (.invokevirtual 54, 3) := by decide +kernel
theorem dX7_prepare_82 : decode cX7_prepare 82 = .ok (.iinc 4 1, 3) := by decide +kernel
theorem dX7_prepare_85 : decode cX7_prepare 85 = .ok (.goto (-48), 3) := by decide +kernel
theorem dX7_prepare_88 : decode cX7_prepare 88 = .ok (.iinc 3 1, 3) := by decide +kernel
theorem dX7_prepare_91 : decode cX7_prepare 91 = .ok (.goto (-65), 3) := by decide +kernel
theorem dX7_prepare_94 : decode cX7_prepare 94 = .ok (.aload_n 0, 1) := by decide +kernel
theorem dX7_prepare_95 : decode cX7_prepare 95 = .ok (.getfield 12, 3) := by decide +kernel
theorem dX7_prepare_98 : decode cX7_prepare 98 = .ok (.invokevirtual 58, 3) := by decide +kernel
theorem dX7_prepare_101 : decode cX7_prepare 101 = .ok (.aload_n 0, 1) := by decide +kernel
theorem dX7_prepare_102 : decode cX7_prepare 102 = .ok (.getfield 18, 3) := by decide +kernel
theorem dX7_prepare_105 : decode cX7_prepare 105 = .ok (.invokevirtual 58, 3) := by decide +kernel
theorem dX7_prepare_108 : decode cX7_prepare 108 = .ok (.return_, 1) := by decide +kernel
theorem dX7_tryAll_0 : decode cX7_tryAll 0 = .ok (.aload_n 0, 1) := by decide +kernel
theorem dX7_tryAll_1 : decode cX7_tryAll 1 = .ok (.getfield 24, 3) := by decide +kernel
theorem dX7_tryAll_4 : decode cX7_tryAll 4 = .ok (.invokevirtual 61, 3) := by decide +kernel
theorem dX7_tryAll_7 : decode cX7_tryAll 7 = .ok (.aload_n 0, 1) := by decide +kernel
theorem dX7_tryAll_8 : decode cX7_tryAll 8 = .ok (.iconst 0, 1) := by decide +kernel
theorem dX7_tryAll_9 : decode cX7_tryAll 9 = .ok (.iconst 0, 1) := by decide +kernel
theorem dX7_tryAll_10 : decode cX7_tryAll 10 = .ok (.invokestatic 64, 3) := by decide +kernel
theorem dX7_tryAll_13 : decode cX7_tryAll 13 = .ok (.return_, 1) := by decide +kernel
theorem dX7_tryFrom_0 : decode cX7_tryFrom 0 = .ok (.iload_n 1, 1) := by decide +kernel
theorem dX7_tryFrom_1 : decode cX7_tryFrom 1 = .ok (.aload_n 0, 1) := by decide +kernel
theorem dX7_tryFrom_2 : decode cX7_tryFrom 2 = .ok (.getfield 37, 3) := by decide +kernel
theorem dX7_tryFrom_5 : decode cX7_tryFrom 5 = .ok (.if_icmp .gt 9, 3) := by decide +kernel
theorem dX7_tryFrom_8 : decode cX7_tryFrom 8 = .ok (.iload_n 1, 1) := by decide +kernel
theorem dX7_tryFrom_9 : decode cX7_tryFrom 9 = .ok (.bipush 14, 2) := by decide +kernel
theorem dX7_tryFrom_11 : decode cX7_tryFrom 11 = .ok (.if_icmp .le 4, 3) := by decide +kernel
theorem dX7_tryFrom_14 : decode cX7_tryFrom 14 = .ok (.return_, 1) := by decide +kernel
theorem dX7_tryFrom_15 : decode cX7_tryFrom 15 = .ok (.iload_n 2, 1) := by decide +kernel
theorem dX7_tryFrom_16 : decode cX7_tryFrom 16 = .ok (.aload_n 0, 1) := by decide +kernel
theorem dX7_tryFrom_17 : decode cX7_tryFrom 17 = .ok (.iload_n 1, 1) := by decide +kernel
theorem dX7_tryFrom_18 : decode cX7_tryFrom 18 = .ok (.invokevirtual 68, 3) := by decide +kernel
theorem dX7_tryFrom_21 : decode cX7_tryFrom 21 = .ok (.ior, 1) := by decide +kernel
theorem dX7_tryFrom_22 : decode cX7_tryFrom 22 = .ok (.istore_n 3, 1) := by decide +kernel
theorem dX7_tryFrom_23 : decode cX7_tryFrom 23 = .ok (.aload_n 0, 1) := by decide +kernel
theorem dX7_tryFrom_24 : decode cX7_tryFrom 24 = .ok (.getfield 24, 3) := by decide +kernel
theorem dX7_tryFrom_27 : decode cX7_tryFrom 27 = .ok (.iload_n 3, 1) := by decide +kernel
theorem dX7_tryFrom_28 : decode cX7_tryFrom 28 = .ok (.invokevirtual 71, 3) := by decide +kernel
theorem dX7_tryFrom_31 : decode cX7_tryFrom 31 = .ok (.ifCond .ne 12, 3) := by decide +kernel
theorem dX7_tryFrom_34 : decode cX7_tryFrom 34 = .ok (.aload_n 0, 1) := by decide +kernel
theorem dX7_tryFrom_35 : decode cX7_tryFrom 35 = .ok (.iload_n 2, 1) := by decide +kernel
theorem dX7_tryFrom_36 : decode cX7_tryFrom 36 = .ok (.iload_n 3, 1) := by decide +kernel
theorem dX7_tryFrom_37 : decode cX7_tryFrom 37 = .ok (.invokevirtual 75, 3) := by decide +kernel
theorem dX7_tryFrom_40 : decode cX7_tryFrom 40 = .ok (.ifCond .ne 4, 3) := by decide +kernel
theorem dX7_tryFrom_43 : decode cX7_tryFrom 43 = .ok (.return_, 1) := by decide +kernel
theorem dX7_tryFrom_44 : decode cX7_tryFrom 44 = .ok (.iload_n 1, 1) := by decide +kernel
theorem dX7_tryFrom_45 : decode cX7_tryFrom 45 = .ok (.aload_n 0, 1) := by decide +kernel
theorem dX7_tryFrom_46 : decode cX7_tryFrom 46 = .ok (.getfield 37, 3) := by decide +kernel
theorem dX7_tryFrom_49 : decode cX7_tryFrom 49 = .ok (.if_icmp .ne 12, 3) := by decide +kernel
theorem dX7_tryFrom_52 : decode cX7_tryFrom 52 = .ok (.aload_n 0, 1) := by decide +kernel
theorem dX7_tryFrom_53 : decode cX7_tryFrom 53 = .ok (.getfield 24, 3) := by decide +kernel
theorem dX7_tryFrom_56 : decode cX7_tryFrom 56 = .ok (.iload_n 2, 1) := by decide +kernel
theorem dX7_tryFrom_57 : decode cX7_tryFrom 57 = .ok (.invokevirtual 78, 3) := by decide +kernel
theorem dX7_tryFrom_60 : decode cX7_tryFrom 60 = .ok (.return_, 1) := by decide +kernel
theorem dX7_tryFrom_61 : decode cX7_tryFrom 61 = .ok (.iload_n 2, 1) := by decide +kernel
theorem dX7_tryFrom_62 : decode cX7_tryFrom 62 = .ok (.iload_n 1, 1) := by decide +kernel
theorem dX7_tryFrom_63 : decode cX7_tryFrom 63 = .ok (.invokestatic 50, 3) := by decide +kernel
theorem dX7_tryFrom_66 : decode cX7_tryFrom 66 = .ok (.ior, 1) := by decide +kernel
theorem dX7_tryFrom_67 : decode cX7_tryFrom 67 = .ok (.istore 4, 2) := by decide +kernel
theorem dX7_tryFrom_69 : decode cX7_tryFrom 69 = .ok (.aload_n 0, 1) := by decide +kernel
theorem dX7_tryFrom_70 : decode cX7_tryFrom 70 = .ok (.iload 4, 2) := by decide +kernel
theorem dX7_tryFrom_72 : decode cX7_tryFrom 72 = .ok (.invokevirtual 82, 3) := by decide +kernel
theorem dX7_tryFrom_75 : decode cX7_tryFrom 75 = .ok (.ifCond .eq 12, 3) := by decide +kernel
theorem dX7_tryFrom_78 : decode cX7_tryFrom 78 = .ok (.aload_n 0, 1) := by decide +kernel
theorem dX7_tryFrom_79 : decode cX7_tryFrom 79 = .ok (.iload_n 1, 1) := by decide +kernel
theorem dX7_tryFrom_80 : decode cX7_tryFrom 80 = .ok (.iconst 1, 1) := by decide +kernel
theorem dX7_tryFrom_81 : decode cX7_tryFrom 81 = .ok (.iadd, 1) := by decide +kernel
theorem dX7_tryFrom_82 : decode cX7_tryFrom 82 = .ok (.iload 4, 2) := by decide +kernel
theorem dX7_tryFrom_84 : decode cX7_tryFrom 84 = .ok (.invokestatic 64, 3) := by decide +kernel
theorem dX7_tryFrom_87 : decode cX7_tryFrom 87 = .ok (.aload_n 0, 1) := by decide +kernel
theorem dX7_tryFrom_88 : decode cX7_tryFrom 88 = .ok (.iload_n 1, 1) := by decide +kernel
theorem dX7_tryFrom_89 : decode cX7_tryFrom 89 = .ok (.iconst 1, 1) := by decide +kernel
theorem dX7_tryFrom_90 : decode cX7_tryFrom 90 = .ok (.iadd, 1) := by decide +kernel
theorem dX7_tryFrom_91 : decode cX7_tryFrom 91 = .ok (.iload_n 2, 1) := by decide +kernel
theorem dX7_tryFrom_92 : decode cX7_tryFrom 92 = .ok (.invokestatic 64, 3) := by decide +kernel
theorem dX7_tryFrom_95 : decode cX7_tryFrom 95 = .ok (.return_, 1) := by decide +kernel
theorem dX7_sweep_0 : decode cX7_sweep 0 = .ok (.aload_n 0, 1) := by decide +kernel
theorem dX7_sweep_1 : decode cX7_sweep 1 = .ok (.getfield 28, 3) := by decide +kernel
theorem dX7_sweep_4 : decode cX7_sweep 4 = .ok (.invokevirtual 61, 3) := by decide +kernel
theorem dX7_sweep_7 : decode cX7_sweep 7 = .ok (.iconst 1, 1) := by decide +kernel
theorem dX7_sweep_8 : decode cX7_sweep 8 = .ok (.aload_n 0, 1) := by decide +kernel
theorem dX7_sweep_9 : decode cX7_sweep 9 = .ok (.getfield 37, 3) := by decide +kernel
theorem dX7_sweep_12 : decode cX7_sweep 12 = .ok (.ishl, 1) := by decide +kernel
theorem dX7_sweep_13 : decode cX7_sweep 13 = .ok (.iconst 1, 1) := by decide +kernel
theorem dX7_sweep_14 : decode cX7_sweep 14 = .ok (.isub, 1) := by decide +kernel
theorem dX7_sweep_15 : decode cX7_sweep 15 = .ok (.istore_n 1, 1) := by decide +kernel
theorem dX7_sweep_16 : decode cX7_sweep 16 = .ok (.iload_n 1, 1) := by decide +kernel
theorem dX7_sweep_17 : decode cX7_sweep 17 = .ok (.ifCond .lt 55, 3) := by decide +kernel
theorem dX7_sweep_20 : decode cX7_sweep 20 = .ok (.iload_n 1, 1) := by decide +kernel
theorem dX7_sweep_21 : decode cX7_sweep 21 = .ok (.bipush 14, 2) := by decide +kernel
theorem dX7_sweep_23 : decode cX7_sweep 23 = .ok (.aload_n 0, 1) := by decide +kernel
theorem dX7_sweep_24 : decode cX7_sweep 24 = .ok (.getfield 37, 3) := by decide +kernel
theorem dX7_sweep_27 : decode cX7_sweep 27 = .ok (.isub, 1) := by decide +kernel
theorem dX7_sweep_28 : decode cX7_sweep 28 = .ok (.ishl, 1) := by decide +kernel
theorem dX7_sweep_29 : decode cX7_sweep 29 = .ok (.istore_n 2, 1) := by decide +kernel
theorem dX7_sweep_30 : decode cX7_sweep 30 = .ok (.aload_n 0, 1) := by decide +kernel
theorem dX7_sweep_31 : decode cX7_sweep 31 = .ok (.iload_n 2, 1) := by decide +kernel
theorem dX7_sweep_32 : decode cX7_sweep 32 = .ok (.invokevirtual 82, 3) := by decide +kernel
theorem dX7_sweep_35 : decode cX7_sweep 35 = .ok (.ifCond .eq 31, 3) := by decide +kernel
theorem dX7_sweep_38 : decode cX7_sweep 38 = .ok (.aload_n 0, 1) := by decide +kernel
theorem dX7_sweep_39 : decode cX7_sweep 39 = .ok (.iload_n 2, 1) := by decide +kernel
theorem dX7_sweep_40 : decode cX7_sweep 40 = .ok (.iload_n 2, 1) := by decide +kernel
theorem dX7_sweep_41 : decode cX7_sweep 41 = .ok (.invokevirtual 75, 3) := by decide +kernel
theorem dX7_sweep_44 : decode cX7_sweep 44 = .ok (.ifCond .eq 22, 3) := by decide +kernel
theorem dX7_sweep_47 : decode cX7_sweep 47 = .ok (.aload_n 0, 1) := by decide +kernel
theorem dX7_sweep_48 : decode cX7_sweep 48 = .ok (.getfield 28, 3) := by decide +kernel
theorem dX7_sweep_51 : decode cX7_sweep 51 = .ok (.iload_n 2, 1) := by decide +kernel
theorem dX7_sweep_52 : decode cX7_sweep 52 = .ok (.invokevirtual 71, 3) := by decide +kernel
theorem dX7_sweep_55 : decode cX7_sweep 55 = .ok (.ifCond .ne 11, 3) := by decide +kernel
theorem dX7_sweep_58 : decode cX7_sweep 58 = .ok (.aload_n 0, 1) := by decide +kernel
theorem dX7_sweep_59 : decode cX7_sweep 59 = .ok (.getfield 28, 3) := by decide +kernel
theorem dX7_sweep_62 : decode cX7_sweep 62 = .ok (.iload_n 2, 1) := by decide +kernel
theorem dX7_sweep_63 : decode cX7_sweep 63 = .ok (.invokevirtual 78, 3) := by decide +kernel
theorem dX7_sweep_66 : decode cX7_sweep 66 = .ok (.iinc 1 (-1), 3) := by decide +kernel
theorem dX7_sweep_69 : decode cX7_sweep 69 = .ok (.goto (-53), 3) := by decide +kernel
theorem dX7_sweep_72 : decode cX7_sweep 72 = .ok (.return_, 1) := by decide +kernel
theorem dX7_restFrom_0 : decode cX7_restFrom 0 = .ok (.iconst 1, 1) := by decide +kernel
theorem dX7_restFrom_1 : decode cX7_restFrom 1 = .ok (.aload_n 0, 1) := by decide +kernel
theorem dX7_restFrom_2 : decode cX7_restFrom 2 = .ok (.getfield 37, 3) := by decide +kernel
theorem dX7_restFrom_5 : decode cX7_restFrom 5 = .ok (.ishl, 1) := by decide +kernel
theorem dX7_restFrom_6 : decode cX7_restFrom 6 = .ok (.iconst 1, 1) := by decide +kernel
theorem dX7_restFrom_7 : decode cX7_restFrom 7 = .ok (.isub, 1) := by decide +kernel
theorem dX7_restFrom_8 : decode cX7_restFrom 8 = .ok (.bipush 14, 2) := by decide +kernel
theorem dX7_restFrom_10 : decode cX7_restFrom 10 = .ok (.aload_n 0, 1) := by decide +kernel
theorem dX7_restFrom_11 : decode cX7_restFrom 11 = .ok (.getfield 37, 3) := by decide +kernel
theorem dX7_restFrom_14 : decode cX7_restFrom 14 = .ok (.isub, 1) := by decide +kernel
theorem dX7_restFrom_15 : decode cX7_restFrom 15 = .ok (.ishl, 1) := by decide +kernel
theorem dX7_restFrom_16 : decode cX7_restFrom 16 = .ok (.istore_n 2, 1) := by decide +kernel
theorem dX7_restFrom_17 : decode cX7_restFrom 17 = .ok (.iload_n 2, 1) := by decide +kernel
theorem dX7_restFrom_18 : decode cX7_restFrom 18 = .ok (.iconst 1, 1) := by decide +kernel
theorem dX7_restFrom_19 : decode cX7_restFrom 19 = .ok (.bipush 14, 2) := by decide +kernel
theorem dX7_restFrom_21 : decode cX7_restFrom 21 = .ok (.iload_n 1, 1) := by decide +kernel
theorem dX7_restFrom_22 : decode cX7_restFrom 22 = .ok (.isub, 1) := by decide +kernel
theorem dX7_restFrom_23 : decode cX7_restFrom 23 = .ok (.ishl, 1) := by decide +kernel
theorem dX7_restFrom_24 : decode cX7_restFrom 24 = .ok (.iconst 1, 1) := by decide +kernel
theorem dX7_restFrom_25 : decode cX7_restFrom 25 = .ok (.isub, 1) := by decide +kernel
theorem dX7_restFrom_26 : decode cX7_restFrom 26 = .ok (.iand, 1) := by decide +kernel
theorem dX7_restFrom_27 : decode cX7_restFrom 27 = .ok (.ireturn, 1) := by decide +kernel
theorem dX7_isPeaceful_0 : decode cX7_isPeaceful 0 = .ok (.aload_n 0, 1) := by decide +kernel
theorem dX7_isPeaceful_1 : decode cX7_isPeaceful 1 = .ok (.getfield 12, 3) := by decide +kernel
theorem dX7_isPeaceful_4 : decode cX7_isPeaceful 4 = .ok (.iload_n 1, 1) := by decide +kernel
theorem dX7_isPeaceful_5 : decode cX7_isPeaceful 5 = .ok (.invokevirtual 85, 3) := by decide +kernel
theorem dX7_isPeaceful_8 : decode cX7_isPeaceful 8 = .ok (.iload_n 1, 1) := by decide +kernel
theorem dX7_isPeaceful_9 : decode cX7_isPeaceful 9 = .ok (.iand, 1) := by decide +kernel
theorem dX7_isPeaceful_10 : decode cX7_isPeaceful 10 = .ok (.ifCond .ne 7, 3) := by decide +kernel
theorem dX7_isPeaceful_13 : decode cX7_isPeaceful 13 = .ok (.iconst 1, 1) := by decide +kernel
theorem dX7_isPeaceful_14 : decode cX7_isPeaceful 14 = .ok (.goto 4, 3) := by decide +kernel
theorem dX7_isPeaceful_17 : decode cX7_isPeaceful 17 = .ok (.iconst 0, 1) := by decide +kernel
theorem dX7_isPeaceful_18 : decode cX7_isPeaceful 18 = .ok (.ireturn, 1) := by decide +kernel
theorem dX7_canDefend_0 : decode cX7_canDefend 0 = .ok (.aload_n 0, 1) := by decide +kernel
theorem dX7_canDefend_1 : decode cX7_canDefend 1 = .ok (.getfield 12, 3) := by decide +kernel
theorem dX7_canDefend_4 : decode cX7_canDefend 4 = .ok (.iload_n 1, 1) := by decide +kernel
theorem dX7_canDefend_5 : decode cX7_canDefend 5 = .ok (.invokevirtual 85, 3) := by decide +kernel
theorem dX7_canDefend_8 : decode cX7_canDefend 8 = .ok (.aload_n 0, 1) := by decide +kernel
theorem dX7_canDefend_9 : decode cX7_canDefend 9 = .ok (.getfield 18, 3) := by decide +kernel
theorem dX7_canDefend_12 : decode cX7_canDefend 12 = .ok (.iload_n 2, 1) := by decide +kernel
theorem dX7_canDefend_13 : decode cX7_canDefend 13 = .ok (.invokevirtual 85, 3) := by decide +kernel
theorem dX7_canDefend_16 : decode cX7_canDefend 16 = .ok (.iconst (-1), 1) := by decide +kernel
theorem dX7_canDefend_17 : decode cX7_canDefend 17 = .ok (.ixor, 1) := by decide +kernel
theorem dX7_canDefend_18 : decode cX7_canDefend 18 = .ok (.iand, 1) := by decide +kernel
theorem dX7_canDefend_19 : decode cX7_canDefend 19 = .ok (.ifCond .ne 7, 3) := by decide +kernel
theorem dX7_canDefend_22 : decode cX7_canDefend 22 = .ok (.iconst 1, 1) := by decide +kernel
theorem dX7_canDefend_23 : decode cX7_canDefend 23 = .ok (.goto 4, 3) := by decide +kernel
theorem dX7_canDefend_26 : decode cX7_canDefend 26 = .ok (.iconst 0, 1) := by decide +kernel
theorem dX7_canDefend_27 : decode cX7_canDefend 27 = .ok (.ireturn, 1) := by decide +kernel
theorem dX8_init_0 : decode cX8_init 0 = .ok (.aload_n 0, 1) := by decide +kernel
theorem dX8_init_1 : decode cX8_init 1 = .ok (.invokespecial 3, 3) := by decide +kernel
theorem dX8_init_4 : decode cX8_init 4 = .ok (.aload_n 0, 1) := by decide +kernel
theorem dX8_init_5 : decode cX8_init 5 = .ok (.bipush 14, 2) := by decide +kernel
theorem dX8_init_7 : decode cX8_init 7 = .ok (.newarray .int, 2) := by decide +kernel
theorem dX8_init_9 : decode cX8_init 9 = .ok (.putfield 9, 3) := by decide +kernel
theorem dX8_init_12 : decode cX8_init 12 = .ok (.aload_n 0, 1) := by decide +kernel
theorem dX8_init_13 : decode cX8_init 13 = .ok (.sipush 128, 3) := by decide +kernel
theorem dX8_init_16 : decode cX8_init 16 = .ok (.newarray .int, 2) := by decide +kernel
theorem dX8_init_18 : decode cX8_init 18 = .ok (.putfield 15, 3) := by decide +kernel
theorem dX8_init_21 : decode cX8_init 21 = .ok (.aload_n 0, 1) := by decide +kernel
theorem dX8_init_22 : decode cX8_init 22 = .ok (.sipush 128, 3) := by decide +kernel
theorem dX8_init_25 : decode cX8_init 25 = .ok (.newarray .int, 2) := by decide +kernel
theorem dX8_init_27 : decode cX8_init 27 = .ok (.putfield 18, 3) := by decide +kernel
theorem dX8_init_30 : decode cX8_init 30 = .ok (.return_, 1) := by decide +kernel
theorem dX8_clearRows_0 : decode cX8_clearRows 0 = .ok (.iconst 0, 1) := by decide +kernel
theorem dX8_clearRows_1 : decode cX8_clearRows 1 = .ok (.istore_n 1, 1) := by decide +kernel
theorem dX8_clearRows_2 : decode cX8_clearRows 2 = .ok (.iload_n 1, 1) := by decide +kernel
theorem dX8_clearRows_3 : decode cX8_clearRows 3 = .ok (.bipush 14, 2) := by decide +kernel
theorem dX8_clearRows_5 : decode cX8_clearRows 5 = .ok (.if_icmp .ge 16, 3) := by decide +kernel
theorem dX8_clearRows_8 : decode cX8_clearRows 8 = .ok (.aload_n 0, 1) := by decide +kernel
theorem dX8_clearRows_9 : decode cX8_clearRows 9 = .ok (.getfield 9, 3) := by decide +kernel
theorem dX8_clearRows_12 : decode cX8_clearRows 12 = .ok (.iload_n 1, 1) := by decide +kernel
theorem dX8_clearRows_13 : decode cX8_clearRows 13 = .ok (.iconst 0, 1) := by decide +kernel
theorem dX8_clearRows_14 : decode cX8_clearRows 14 = .ok (.iastore, 1) := by decide +kernel
theorem dX8_clearRows_15 : decode cX8_clearRows 15 = .ok (.iinc 1 1, 3) := by decide +kernel
theorem dX8_clearRows_18 : decode cX8_clearRows 18 = .ok (.goto (-16), 3) := by decide +kernel
theorem dX8_clearRows_21 : decode cX8_clearRows 21 = .ok (.return_, 1) := by decide +kernel
theorem dX8_addToRow_0 : decode cX8_addToRow 0 = .ok (.iload_n 1, 1) := by decide +kernel
theorem dX8_addToRow_1 : decode cX8_addToRow 1 = .ok (.ifCond .lt 22, 3) := by decide +kernel
theorem dX8_addToRow_4 : decode cX8_addToRow 4 = .ok (.iload_n 1, 1) := by decide +kernel
theorem dX8_addToRow_5 : decode cX8_addToRow 5 = .ok (.bipush 14, 2) := by decide +kernel
theorem dX8_addToRow_7 : decode cX8_addToRow 7 = .ok (.if_icmp .ge 16, 3) := by decide +kernel
theorem dX8_addToRow_10 : decode cX8_addToRow 10 = .ok (.aload_n 0, 1) := by decide +kernel
theorem dX8_addToRow_11 : decode cX8_addToRow 11 = .ok (.getfield 9, 3) := by decide +kernel
theorem dX8_addToRow_14 : decode cX8_addToRow 14 = .ok (.bipush 13, 2) := by decide +kernel
theorem dX8_addToRow_16 : decode cX8_addToRow 16 = .ok (.iload_n 1, 1) := by decide +kernel
theorem dX8_addToRow_17 : decode cX8_addToRow 17 = .ok (.isub, 1) := by decide +kernel
theorem dX8_addToRow_18 : decode cX8_addToRow 18 = .ok (.dup2, 1) := by decide +kernel
theorem dX8_addToRow_19 : decode cX8_addToRow 19 = .ok (.iaload, 1) := by decide +kernel
theorem dX8_addToRow_20 : decode cX8_addToRow 20 = .ok (.iload_n 2, 1) := by decide +kernel
theorem dX8_addToRow_21 : decode cX8_addToRow 21 = .ok (.ior, 1) := by decide +kernel
theorem dX8_addToRow_22 : decode cX8_addToRow 22 = .ok (.iastore, 1) := by decide +kernel
theorem dX8_addToRow_23 : decode cX8_addToRow 23 = .ok (.return_, 1) := by decide +kernel
theorem dX8_fillHalves_0 : decode cX8_fillHalves 0 = .ok (.iconst 0, 1) := by decide +kernel
theorem dX8_fillHalves_1 : decode cX8_fillHalves 1 = .ok (.istore_n 1, 1) := by decide +kernel
theorem dX8_fillHalves_2 : decode cX8_fillHalves 2 = .ok (.iload_n 1, 1) := by decide +kernel
theorem dX8_fillHalves_3 : decode cX8_fillHalves 3 = .ok (.bipush 7, 2) := by decide +kernel
theorem dX8_fillHalves_5 : decode cX8_fillHalves 5 = .ok (.if_icmp .ge 71, 3) := by decide +kernel
theorem dX8_fillHalves_8 : decode cX8_fillHalves 8 = .ok (.iconst 1, 1) := by decide +kernel
theorem dX8_fillHalves_9 : decode cX8_fillHalves 9 = .ok (.iload_n 1, 1) := by decide +kernel
theorem dX8_fillHalves_10 : decode cX8_fillHalves 10 = .ok (.ishl, 1) := by decide +kernel
theorem dX8_fillHalves_11 : decode cX8_fillHalves 11 = .ok (.istore_n 2, 1) := by decide +kernel
theorem dX8_fillHalves_12 : decode cX8_fillHalves 12 = .ok (.iconst 0, 1) := by decide +kernel
theorem dX8_fillHalves_13 : decode cX8_fillHalves 13 = .ok (.istore_n 3, 1) := by decide +kernel
theorem dX8_fillHalves_14 : decode cX8_fillHalves 14 = .ok (.iload_n 3, 1) := by decide +kernel
theorem dX8_fillHalves_15 : decode cX8_fillHalves 15 = .ok (.iload_n 2, 1) := by decide +kernel
theorem dX8_fillHalves_16 : decode cX8_fillHalves 16 = .ok (.if_icmp .ge 54, 3) := by decide +kernel
theorem dX8_fillHalves_19 : decode cX8_fillHalves 19 = .ok (.aload_n 0, 1) := by decide +kernel
theorem dX8_fillHalves_20 : decode cX8_fillHalves 20 = .ok (.getfield 15, 3) := by decide +kernel
theorem dX8_fillHalves_23 : decode cX8_fillHalves 23 = .ok (.iload_n 2, 1) := by decide +kernel
theorem dX8_fillHalves_24 : decode cX8_fillHalves 24 = .ok (.iload_n 3, 1) := by decide +kernel
theorem dX8_fillHalves_25 : decode cX8_fillHalves 25 = .ok (.iadd, 1) := by decide +kernel
theorem dX8_fillHalves_26 : decode cX8_fillHalves 26 = .ok (.aload_n 0, 1) := by decide +kernel
theorem dX8_fillHalves_27 : decode cX8_fillHalves 27 = .ok (.getfield 15, 3) := by decide +kernel
theorem dX8_fillHalves_30 : decode cX8_fillHalves 30 = .ok (.iload_n 3, 1) := by decide +kernel
theorem dX8_fillHalves_31 : decode cX8_fillHalves 31 = .ok (.iaload, 1) := by decide +kernel
theorem dX8_fillHalves_32 : decode cX8_fillHalves 32 = .ok (.aload_n 0, 1) := by decide +kernel
theorem dX8_fillHalves_33 : decode cX8_fillHalves 33 = .ok (.getfield 9, 3) := by decide +kernel
theorem dX8_fillHalves_36 : decode cX8_fillHalves 36 = .ok (.iload_n 1, 1) := by decide +kernel
theorem dX8_fillHalves_37 : decode cX8_fillHalves 37 = .ok (.iaload, 1) := by decide +kernel
theorem dX8_fillHalves_38 : decode cX8_fillHalves 38 = .ok (.ior, 1) := by decide +kernel
theorem dX8_fillHalves_39 : decode cX8_fillHalves 39 = .ok (.iastore, 1) := by decide +kernel
theorem dX8_fillHalves_40 : decode cX8_fillHalves 40 = .ok (.aload_n 0, 1) := by decide +kernel
theorem dX8_fillHalves_41 : decode cX8_fillHalves 41 = .ok (.getfield 18, 3) := by decide +kernel
theorem dX8_fillHalves_44 : decode cX8_fillHalves 44 = .ok (.iload_n 2, 1) := by decide +kernel
theorem dX8_fillHalves_45 : decode cX8_fillHalves 45 = .ok (.iload_n 3, 1) := by decide +kernel
theorem dX8_fillHalves_46 : decode cX8_fillHalves 46 = .ok (.iadd, 1) := by decide +kernel
theorem dX8_fillHalves_47 : decode cX8_fillHalves 47 = .ok (.aload_n 0, 1) := by decide +kernel
theorem dX8_fillHalves_48 : decode cX8_fillHalves 48 = .ok (.getfield 18, 3) := by decide +kernel
theorem dX8_fillHalves_51 : decode cX8_fillHalves 51 = .ok (.iload_n 3, 1) := by decide +kernel
theorem dX8_fillHalves_52 : decode cX8_fillHalves 52 = .ok (.iaload, 1) := by decide +kernel
theorem dX8_fillHalves_53 : decode cX8_fillHalves 53 = .ok (.aload_n 0, 1) := by decide +kernel
theorem dX8_fillHalves_54 : decode cX8_fillHalves 54 = .ok (.getfield 9, 3) := by decide +kernel
theorem dX8_fillHalves_57 : decode cX8_fillHalves 57 = .ok (.iload_n 1, 1) := by decide +kernel
theorem dX8_fillHalves_58 : decode cX8_fillHalves 58 = .ok (.bipush 7, 2) := by decide +kernel
theorem dX8_fillHalves_60 : decode cX8_fillHalves 60 = .ok (.iadd, 1) := by decide +kernel
theorem dX8_fillHalves_61 : decode cX8_fillHalves 61 = .ok (.iaload, 1) := by decide +kernel
theorem dX8_fillHalves_62 : decode cX8_fillHalves 62 = .ok (.ior, 1) := by decide +kernel
theorem dX8_fillHalves_63 : decode cX8_fillHalves 63 = .ok (.iastore, 1) := by decide +kernel
theorem dX8_fillHalves_64 : decode cX8_fillHalves 64 = .ok (.iinc 3 1, 3) := by decide +kernel
theorem dX8_fillHalves_67 : decode cX8_fillHalves 67 = .ok (.goto (-53), 3) := by decide +kernel
theorem dX8_fillHalves_70 : decode cX8_fillHalves 70 = .ok (.iinc 1 1, 3) := by decide +kernel
theorem dX8_fillHalves_73 : decode cX8_fillHalves 73 = .ok (.goto (-71), 3) := by decide +kernel
theorem dX8_fillHalves_76 : decode cX8_fillHalves 76 = .ok (.return_, 1) := by decide +kernel
theorem dX8_of_0 : decode cX8_of 0 = .ok (.aload_n 0, 1) := by decide +kernel
theorem dX8_of_1 : decode cX8_of 1 = .ok (.getfield 15, 3) := by decide +kernel
theorem dX8_of_4 : decode cX8_of 4 = .ok (.iload_n 1, 1) := by decide +kernel
theorem dX8_of_5 : decode cX8_of 5 = .ok (.bipush 127, 2) := by decide +kernel
theorem dX8_of_7 : decode cX8_of 7 = .ok (.iand, 1) := by decide +kernel
theorem dX8_of_8 : decode cX8_of 8 = .ok (.iaload, 1) := by decide +kernel
theorem dX8_of_9 : decode cX8_of 9 = .ok (.aload_n 0, 1) := by decide +kernel
theorem dX8_of_10 : decode cX8_of 10 = .ok (.getfield 18, 3) := by decide +kernel
theorem dX8_of_13 : decode cX8_of 13 = .ok (.iload_n 1, 1) := by decide +kernel
theorem dX8_of_14 : decode cX8_of 14 = .ok (.bipush 7, 2) := by decide +kernel
theorem dX8_of_16 : decode cX8_of 16 = .ok (.ishr, 1) := by decide +kernel
theorem dX8_of_17 : decode cX8_of 17 = .ok (.bipush 127, 2) := by decide +kernel
theorem dX8_of_19 : decode cX8_of 19 = .ok (.iand, 1) := by decide +kernel
theorem dX8_of_20 : decode cX8_of 20 = .ok (.iaload, 1) := by decide +kernel
theorem dX8_of_21 : decode cX8_of 21 = .ok (.ior, 1) := by decide +kernel
theorem dX8_of_22 : decode cX8_of 22 = .ok (.ireturn, 1) := by decide +kernel
theorem dX9_init_0 : decode cX9_init 0 = .ok (.aload_n 0, 1) := by decide +kernel
theorem dX9_init_1 : decode cX9_init 1 = .ok (.invokespecial 3, 3) := by decide +kernel
theorem dX9_init_4 : decode cX9_init 4 = .ok (.aload_n 0, 1) := by decide +kernel
theorem dX9_init_5 : decode cX9_init 5 = .ok (.new 9, 3) := by decide +kernel
theorem dX9_init_8 : decode cX9_init 8 = .ok (.dup, 1) := by decide +kernel
theorem dX9_init_9 : decode cX9_init 9 = .ok (.invokespecial 11, 3) := by decide +kernel
theorem dX9_init_12 : decode cX9_init 12 = .ok (.putfield 12, 3) := by decide +kernel
theorem dX9_init_15 : decode cX9_init 15 = .ok (.aload_n 0, 1) := by decide +kernel
theorem dX9_init_16 : decode cX9_init 16 = .ok (.new 16, 3) := by decide +kernel
theorem dX9_init_19 : decode cX9_init 19 = .ok (.dup, 1) := by decide +kernel
theorem dX9_init_20 : decode cX9_init 20 = .ok (.invokespecial 18, 3) := by decide +kernel
theorem dX9_init_23 : decode cX9_init 23 = .ok (.putfield 19, 3) := by decide +kernel
theorem dX9_init_26 : decode cX9_init 26 = .ok (.aload_n 0, 1) := by decide +kernel
theorem dX9_init_27 : decode cX9_init 27 = .ok (.new 23, 3) := by decide +kernel
theorem dX9_init_30 : decode cX9_init 30 = .ok (.dup, 1) := by decide +kernel
theorem dX9_init_31 : decode cX9_init 31 = .ok (.invokespecial 25, 3) := by decide +kernel
theorem dX9_init_34 : decode cX9_init 34 = .ok (.putfield 26, 3) := by decide +kernel
theorem dX9_init_37 : decode cX9_init 37 = .ok (.aload_n 0, 1) := by decide +kernel
theorem dX9_init_38 : decode cX9_init 38 = .ok (.new 30, 3) := by decide +kernel
theorem dX9_init_41 : decode cX9_init 41 = .ok (.dup, 1) := by decide +kernel
theorem dX9_init_42 : decode cX9_init 42 = .ok (.invokespecial 32, 3) := by decide +kernel
theorem dX9_init_45 : decode cX9_init 45 = .ok (.putfield 33, 3) := by decide +kernel
theorem dX9_init_48 : decode cX9_init 48 = .ok (.aload_n 0, 1) := by decide +kernel
theorem dX9_init_49 : decode cX9_init 49 = .ok (.new 37, 3) := by decide +kernel
theorem dX9_init_52 : decode cX9_init 52 = .ok (.dup, 1) := by decide +kernel
theorem dX9_init_53 : decode cX9_init 53 = .ok (.invokespecial 39, 3) := by decide +kernel
theorem dX9_init_56 : decode cX9_init 56 = .ok (.putfield 40, 3) := by decide +kernel
theorem dX9_init_59 : decode cX9_init 59 = .ok (.aload_n 0, 1) := by decide +kernel
theorem dX9_init_60 : decode cX9_init 60 = .ok (.new 44, 3) := by decide +kernel
theorem dX9_init_63 : decode cX9_init 63 = .ok (.dup, 1) := by decide +kernel
theorem dX9_init_64 : decode cX9_init 64 = .ok (.invokespecial 46, 3) := by decide +kernel
theorem dX9_init_67 : decode cX9_init 67 = .ok (.putfield 47, 3) := by decide +kernel
theorem dX9_init_70 : decode cX9_init 70 = .ok (.return_, 1) := by decide +kernel
theorem dX9_addFact_0 : decode cX9_addFact 0 = .ok (.iload_n 1, 1) := by decide +kernel
theorem dX9_addFact_1 : decode cX9_addFact 1 = .ok (.invokestatic 51, 3) := by decide +kernel
theorem dX9_addFact_4 : decode cX9_addFact 4 = .ok (.aload_n 0, 1) := by decide +kernel
theorem dX9_addFact_5 : decode cX9_addFact 5 = .ok (.getfield 12, 3) := by decide +kernel
theorem dX9_addFact_8 : decode cX9_addFact 8 = .ok (.iload_n 1, 1) := by decide +kernel
theorem dX9_addFact_9 : decode cX9_addFact 9 = .ok (.invokevirtual 55, 3) := by decide +kernel
theorem dX9_addFact_12 : decode cX9_addFact 12 = .ok (.ifCond .ne 15, 3) := by decide +kernel
theorem dX9_addFact_15 : decode cX9_addFact 15 = .ok (.aload_n 0, 1) := by decide +kernel
theorem dX9_addFact_16 : decode cX9_addFact 16 = .ok (.getfield 12, 3) := by decide +kernel
theorem dX9_addFact_19 : decode cX9_addFact 19 = .ok (.iload_n 1, 1) := by decide +kernel
theorem dX9_addFact_20 : decode cX9_addFact 20 = .ok (.ineg, 1) := by decide +kernel
theorem dX9_addFact_21 : decode cX9_addFact 21 = .ok (.invokevirtual 55, 3) := by decide +kernel
theorem dX9_addFact_24 : decode cX9_addFact 24 = .ok (.ifCond .eq 13, 3) := by decide +kernel
theorem dX9_addFact_27 : decode cX9_addFact 27 = .ok (.new 59, 3) := by decide +kernel
theorem dX9_addFact_30 : decode cX9_addFact 30 = .ok (.dup, 1) := by decide +kernel
theorem dX9_addFact_31 : decode cX9_addFact 31 = .ok (.ldc 61, 2) := by decide +kernel
theorem dX9_addFact_33 : decode cX9_addFact 33 = .ok (.invokespecial 63, 3) := by decide +kernel
theorem dX9_addFact_36 : decode cX9_addFact 36 = .ok (.athrow, 1) := by decide +kernel
theorem dX9_addFact_37 : decode cX9_addFact 37 = .ok (.aload_n 0, 1) := by decide +kernel
theorem dX9_addFact_38 : decode cX9_addFact 38 = .ok (.getfield 12, 3) := by decide +kernel
theorem dX9_addFact_41 : decode cX9_addFact 41 = .ok (.iload_n 1, 1) := by decide +kernel
theorem dX9_addFact_42 : decode cX9_addFact 42 = .ok (.invokevirtual 66, 3) := by decide +kernel
theorem dX9_addFact_45 : decode cX9_addFact 45 = .ok (.aload_n 0, 1) := by decide +kernel
theorem dX9_addFact_46 : decode cX9_addFact 46 = .ok (.invokevirtual 69, 3) := by decide +kernel
theorem dX9_addFact_49 : decode cX9_addFact 49 = .ok (.aload_n 0, 1) := by decide +kernel
theorem dX9_addFact_50 : decode cX9_addFact 50 = .ok (.getfield 12, 3) := by decide +kernel
theorem dX9_addFact_53 : decode cX9_addFact 53 = .ok (.getfield 72, 3) := by decide +kernel
theorem dX9_addFact_56 : decode cX9_addFact 56 = .ok (.ireturn, 1) := by decide +kernel
theorem dX9_takeBack_0 : decode cX9_takeBack 0 = .ok (.iload_n 1, 1) := by decide +kernel
theorem dX9_takeBack_1 : decode cX9_takeBack 1 = .ok (.invokestatic 51, 3) := by decide +kernel
theorem dX9_takeBack_4 : decode cX9_takeBack 4 = .ok (.aload_n 0, 1) := by decide +kernel
theorem dX9_takeBack_5 : decode cX9_takeBack 5 = .ok (.getfield 12, 3) := by decide +kernel
theorem dX9_takeBack_8 : decode cX9_takeBack 8 = .ok (.iload_n 1, 1) := by decide +kernel
theorem dX9_takeBack_9 : decode cX9_takeBack 9 = .ok (.invokevirtual 55, 3) := by decide +kernel
theorem dX9_takeBack_12 : decode cX9_takeBack 12 = .ok (.ifCond .ne 5, 3) := by decide +kernel
theorem dX9_takeBack_15 : decode cX9_takeBack 15 = .ok (.iconst 0, 1) := by decide +kernel
theorem dX9_takeBack_16 : decode cX9_takeBack 16 = .ok (.ireturn, 1) := by decide +kernel
theorem dX9_takeBack_17 : decode cX9_takeBack 17 = .ok (.aload_n 0, 1) := by decide +kernel
theorem dX9_takeBack_18 : decode cX9_takeBack 18 = .ok (.getfield 12, 3) := by decide +kernel
theorem dX9_takeBack_21 : decode cX9_takeBack 21 = .ok (.iload_n 1, 1) := by decide +kernel
theorem dX9_takeBack_22 : decode cX9_takeBack 22 = .ok (.invokevirtual 76, 3) := by decide +kernel
theorem dX9_takeBack_25 : decode cX9_takeBack 25 = .ok (.aload_n 0, 1) := by decide +kernel
theorem dX9_takeBack_26 : decode cX9_takeBack 26 = .ok (.invokevirtual 69, 3) := by decide +kernel
theorem dX9_takeBack_29 : decode cX9_takeBack 29 = .ok (.iconst 1, 1) := by decide +kernel
theorem dX9_takeBack_30 : decode cX9_takeBack 30 = .ok (.ireturn, 1) := by decide +kernel
theorem dX9_addRule_0 : decode cX9_addRule 0 = .ok (.iload_n 1, 1) := by decide +kernel
theorem dX9_addRule_1 : decode cX9_addRule 1 = .ok (.invokestatic 51, 3) := by decide +kernel
theorem dX9_addRule_4 : decode cX9_addRule 4 = .ok (.iload_n 2, 1) := by decide +kernel
theorem dX9_addRule_5 : decode cX9_addRule 5 = .ok (.invokestatic 79, 3) := by decide +kernel
theorem dX9_addRule_8 : decode cX9_addRule 8 = .ok (.iload_n 3, 1) := by decide +kernel
theorem dX9_addRule_9 : decode cX9_addRule 9 = .ok (.invokestatic 79, 3) := by decide +kernel
theorem dX9_addRule_12 : decode cX9_addRule 12 = .ok (.iload 4, 2) := by decide +kernel
theorem dX9_addRule_14 : decode cX9_addRule 14 = .ok (.invokestatic 79, 3) := by decide +kernel
theorem dX9_addRule_17 : decode cX9_addRule 17 = .ok (.iload 5, 2) := by decide +kernel
theorem dX9_addRule_19 : decode cX9_addRule 19 = .ok (.invokestatic 82, 3) := by decide +kernel
theorem dX9_addRule_22 : decode cX9_addRule 22 = .ok (.iload_n 3, 1) := by decide +kernel
theorem dX9_addRule_23 : decode cX9_addRule 23 = .ok (.iload_n 2, 1) := by decide +kernel
theorem dX9_addRule_24 : decode cX9_addRule 24 = .ok (.invokestatic 85, 3) := by decide +kernel
theorem dX9_addRule_27 : decode cX9_addRule 27 = .ok (.ifCond .eq 12, 3) := by decide +kernel
theorem dX9_addRule_30 : decode cX9_addRule 30 = .ok (.iload 4, 2) := by decide +kernel
theorem dX9_addRule_32 : decode cX9_addRule 32 = .ok (.iload_n 3, 1) := by decide +kernel
theorem dX9_addRule_33 : decode cX9_addRule 33 = .ok (.invokestatic 85, 3) := by decide +kernel
theorem dX9_addRule_36 : decode cX9_addRule 36 = .ok (.ifCond .ne 13, 3) := by decide +kernel
theorem dX9_addRule_39 : decode cX9_addRule 39 = .ok (.new 89, 3) := by decide +kernel
theorem dX9_addRule_42 : decode cX9_addRule 42 = .ok (.dup, 1) := by decide +kernel
theorem dX9_addRule_43 : decode cX9_addRule 43 = .ok (.ldc 91, 2) := by decide +kernel
theorem dX9_addRule_45 : decode cX9_addRule 45 = .ok (.invokespecial 93, 3) := by decide +kernel
theorem dX9_addRule_48 : decode cX9_addRule 48 = .ok (.athrow, 1) := by decide +kernel
theorem dX9_addRule_49 : decode cX9_addRule 49 = .ok (.iload 4, 2) := by decide +kernel
theorem dX9_addRule_51 : decode cX9_addRule 51 = .ok (.ifCond .eq 19, 3) := by decide +kernel
theorem dX9_addRule_54 : decode cX9_addRule 54 = .ok (.iload 4, 2) := by decide +kernel
theorem dX9_addRule_56 : decode cX9_addRule 56 = .ok (.iload_n 2, 1) := by decide +kernel
theorem dX9_addRule_57 : decode cX9_addRule 57 = .ok (.if_icmp .ne 13, 3) := by decide +kernel
theorem dX9_addRule_60 : decode cX9_addRule 60 = .ok (.new 89, 3) := by decide +kernel
theorem dX9_addRule_63 : decode cX9_addRule 63 = .ok (.dup, 1) := by decide +kernel
theorem dX9_addRule_64 : decode cX9_addRule 64 = .ok (.ldc 94, 2) := by decide +kernel
theorem dX9_addRule_66 : decode cX9_addRule 66 = .ok (.invokespecial 93, 3) := by decide +kernel
theorem dX9_addRule_69 : decode cX9_addRule 69 = .ok (.athrow, 1) := by decide +kernel
theorem dX9_addRule_70 : decode cX9_addRule 70 = .ok (.aload_n 0, 1) := by decide +kernel
theorem dX9_addRule_71 : decode cX9_addRule 71 = .ok (.getfield 19, 3) := by decide +kernel
theorem dX9_addRule_74 : decode cX9_addRule 74 = .ok (.invokevirtual 96, 3) := by decide +kernel
theorem dX9_addRule_77 : decode cX9_addRule 77 = .ok (.bipush 12, 2) := by decide +kernel
theorem dX9_addRule_79 : decode cX9_addRule 79 = .ok (.if_icmp .lt 13, 3) := by decide +kernel
theorem dX9_addRule_82 : decode cX9_addRule 82 = .ok (.new 59, 3) := by decide +kernel
theorem dX9_addRule_85 : decode cX9_addRule 85 = .ok (.dup, 1) := by decide +kernel
theorem dX9_addRule_86 : decode cX9_addRule 86 = .ok (.ldc 100, 2) := by decide +kernel
theorem dX9_addRule_88 : decode cX9_addRule 88 = .ok (.invokespecial 63, 3) := by decide +kernel
theorem dX9_addRule_91 : decode cX9_addRule 91 = .ok (.athrow, 1) := by decide +kernel
theorem dX9_addRule_92 : decode cX9_addRule 92 = .ok (.aload_n 0, 1) := by decide +kernel
theorem dX9_addRule_93 : decode cX9_addRule 93 = .ok (.getfield 19, 3) := by decide +kernel
theorem dX9_addRule_96 : decode cX9_addRule 96 = .ok (.new 102, 3) := by decide +kernel
theorem dX9_addRule_99 : decode cX9_addRule 99 = .ok (.dup, 1) := by decide +kernel
theorem dX9_addRule_100 : decode cX9_addRule 100 = .ok (.iload_n 1, 1) := by decide +kernel
theorem dX9_addRule_101 : decode cX9_addRule 101 = .ok (.iload_n 2, 1) := by decide +kernel
theorem dX9_addRule_102 : decode cX9_addRule 102 = .ok (.iload_n 3, 1) := by decide +kernel
theorem dX9_addRule_103 : decode cX9_addRule 103 = .ok (.iload 4, 2) := by decide +kernel
theorem dX9_addRule_105 : decode cX9_addRule 105 = .ok (.iload 5, 2) := by decide +kernel
theorem dX9_addRule_107 : decode cX9_addRule 107 = .ok (.invokespecial 104, 3) := by decide +kernel
theorem dX9_addRule_110 : decode cX9_addRule 110 = .ok (.invokevirtual 107, 3) := by decide +kernel
theorem dX9_addRule_113 : decode cX9_addRule 113 = .ok (.aload_n 0, 1) := by decide +kernel
theorem dX9_addRule_114 : decode cX9_addRule 114 = .ok (.invokevirtual 69, 3) := by decide +kernel
theorem dX9_addRule_117 : decode cX9_addRule 117 = .ok (.aload_n 0, 1) := by decide +kernel
theorem dX9_addRule_118 : decode cX9_addRule 118 = .ok (.getfield 19, 3) := by decide +kernel
theorem dX9_addRule_121 : decode cX9_addRule 121 = .ok (.invokevirtual 96, 3) := by decide +kernel
theorem dX9_addRule_124 : decode cX9_addRule 124 = .ok (.iconst 1, 1) := by decide +kernel
theorem dX9_addRule_125 : decode cX9_addRule 125 = .ok (.isub, 1) := by decide +kernel
theorem dX9_addRule_126 : decode cX9_addRule 126 = .ok (.ireturn, 1) := by decide +kernel
theorem dX9_setPriority_0 : decode cX9_setPriority 0 = .ok (.aload_n 0, 1) := by decide +kernel
theorem dX9_setPriority_1 : decode cX9_setPriority 1 = .ok (.iload_n 1, 1) := by decide +kernel
theorem dX9_setPriority_2 : decode cX9_setPriority 2 = .ok (.invokevirtual 110, 3) := by decide +kernel
theorem dX9_setPriority_5 : decode cX9_setPriority 5 = .ok (.iload_n 2, 1) := by decide +kernel
theorem dX9_setPriority_6 : decode cX9_setPriority 6 = .ok (.invokestatic 82, 3) := by decide +kernel
theorem dX9_setPriority_9 : decode cX9_setPriority 9 = .ok (.aload_n 0, 1) := by decide +kernel
theorem dX9_setPriority_10 : decode cX9_setPriority 10 = .ok (.getfield 19, 3) := by decide +kernel
theorem dX9_setPriority_13 : decode cX9_setPriority 13 = .ok (.iload_n 1, 1) := by decide +kernel
theorem dX9_setPriority_14 : decode cX9_setPriority 14 = .ok (.invokevirtual 113, 3) := by decide +kernel
theorem dX9_setPriority_17 : decode cX9_setPriority 17 = .ok (.astore_n 3, 1) := by decide +kernel
theorem dX9_setPriority_18 : decode cX9_setPriority 18 = .ok (.aload_n 3, 1) := by decide +kernel
theorem dX9_setPriority_19 : decode cX9_setPriority 19 = .ok (.getfield 117, 3) := by decide +kernel
theorem dX9_setPriority_22 : decode cX9_setPriority 22 = .ok (.istore 4, 2) := by decide +kernel
theorem dX9_setPriority_24 : decode cX9_setPriority 24 = .ok (.aload_n 3, 1) := by decide +kernel
theorem dX9_setPriority_25 : decode cX9_setPriority 25 = .ok (.iload_n 2, 1) := by decide +kernel
theorem dX9_setPriority_26 : decode cX9_setPriority 26 = .ok (.putfield 117, 3) := by decide +kernel
theorem dX9_setPriority_29 : decode cX9_setPriority 29 = .ok (.aload_n 0, 1) := by decide +kernel
theorem dX9_setPriority_30 : decode cX9_setPriority 30 = .ok (.invokevirtual 69, 3) := by decide +kernel
theorem dX9_setPriority_33 : decode cX9_setPriority 33 = .ok (.iload 4, 2) := by decide +kernel
theorem dX9_setPriority_35 : decode cX9_setPriority 35 = .ok (.ireturn, 1) := by decide +kernel
theorem dX9_setException_0 : decode cX9_setException 0 = .ok (.aload_n 0, 1) := by decide +kernel
theorem dX9_setException_1 : decode cX9_setException 1 = .ok (.iload_n 1, 1) := by decide +kernel
theorem dX9_setException_2 : decode cX9_setException 2 = .ok (.invokevirtual 110, 3) := by decide +kernel
theorem dX9_setException_5 : decode cX9_setException 5 = .ok (.iload_n 2, 1) := by decide +kernel
theorem dX9_setException_6 : decode cX9_setException 6 = .ok (.invokestatic 79, 3) := by decide +kernel
theorem dX9_setException_9 : decode cX9_setException 9 = .ok (.aload_n 0, 1) := by decide +kernel
theorem dX9_setException_10 : decode cX9_setException 10 = .ok (.getfield 19, 3) := by decide +kernel
theorem dX9_setException_13 : decode cX9_setException 13 = .ok (.iload_n 1, 1) := by decide +kernel
theorem dX9_setException_14 : decode cX9_setException 14 = .ok (.invokevirtual 113, 3) := by decide +kernel
theorem dX9_setException_17 : decode cX9_setException 17 = .ok (.astore_n 3, 1) := by decide +kernel
theorem dX9_setException_18 : decode cX9_setException 18 = .ok (.aload_n 3, 1) := by decide +kernel
theorem dX9_setException_19 : decode cX9_setException 19 = .ok (.getfield 120, 3) := by decide +kernel
theorem dX9_setException_22 : decode cX9_setException 22 = .ok (.istore 4, 2) := by decide +kernel
theorem dX9_setException_24 : decode cX9_setException 24 = .ok (.aload_n 3, 1) := by decide +kernel
theorem dX9_setException_25 : decode cX9_setException 25 = .ok (.iload_n 2, 1) := by decide +kernel
theorem dX9_setException_26 : decode cX9_setException 26 = .ok (.putfield 120, 3) := by decide +kernel
theorem dX9_setException_29 : decode cX9_setException 29 = .ok (.aload_n 0, 1) := by decide +kernel
theorem dX9_setException_30 : decode cX9_setException 30 = .ok (.invokevirtual 69, 3) := by decide +kernel
theorem dX9_setException_33 : decode cX9_setException 33 = .ok (.iload 4, 2) := by decide +kernel
theorem dX9_setException_35 : decode cX9_setException 35 = .ok (.ireturn, 1) := by decide +kernel
theorem dX9_turn_0 : decode cX9_turn 0 = .ok (.aload_n 0, 1) := by decide +kernel
theorem dX9_turn_1 : decode cX9_turn 1 = .ok (.iload_n 1, 1) := by decide +kernel
theorem dX9_turn_2 : decode cX9_turn 2 = .ok (.invokevirtual 110, 3) := by decide +kernel
theorem dX9_turn_5 : decode cX9_turn 5 = .ok (.aload_n 0, 1) := by decide +kernel
theorem dX9_turn_6 : decode cX9_turn 6 = .ok (.getfield 19, 3) := by decide +kernel
theorem dX9_turn_9 : decode cX9_turn 9 = .ok (.iload_n 1, 1) := by decide +kernel
theorem dX9_turn_10 : decode cX9_turn 10 = .ok (.invokevirtual 113, 3) := by decide +kernel
theorem dX9_turn_13 : decode cX9_turn 13 = .ok (.astore_n 3, 1) := by decide +kernel
theorem dX9_turn_14 : decode cX9_turn 14 = .ok (.aload_n 3, 1) := by decide +kernel
theorem dX9_turn_15 : decode cX9_turn 15 = .ok (.getfield 123, 3) := by decide +kernel
theorem dX9_turn_18 : decode cX9_turn 18 = .ok (.istore 4, 2) := by decide +kernel
theorem dX9_turn_20 : decode cX9_turn 20 = .ok (.aload_n 3, 1) := by decide +kernel
theorem dX9_turn_21 : decode cX9_turn 21 = .ok (.iload_n 2, 1) := by decide +kernel
theorem dX9_turn_22 : decode cX9_turn 22 = .ok (.putfield 123, 3) := by decide +kernel
theorem dX9_turn_25 : decode cX9_turn 25 = .ok (.aload_n 0, 1) := by decide +kernel
theorem dX9_turn_26 : decode cX9_turn 26 = .ok (.invokevirtual 69, 3) := by decide +kernel
theorem dX9_turn_29 : decode cX9_turn 29 = .ok (.iload 4, 2) := by decide +kernel
theorem dX9_turn_31 : decode cX9_turn 31 = .ok (.ireturn, 1) := by decide +kernel
theorem dX9_facts_0 : decode cX9_facts 0 = .ok (.aload_n 0, 1) := by decide +kernel
theorem dX9_facts_1 : decode cX9_facts 1 = .ok (.getfield 12, 3) := by decide +kernel
theorem dX9_facts_4 : decode cX9_facts 4 = .ok (.getfield 72, 3) := by decide +kernel
theorem dX9_facts_7 : decode cX9_facts 7 = .ok (.ireturn, 1) := by decide +kernel
theorem dX9_rules_0 : decode cX9_rules 0 = .ok (.aload_n 0, 1) := by decide +kernel
theorem dX9_rules_1 : decode cX9_rules 1 = .ok (.getfield 19, 3) := by decide +kernel
theorem dX9_rules_4 : decode cX9_rules 4 = .ok (.invokevirtual 96, 3) := by decide +kernel
theorem dX9_rules_7 : decode cX9_rules 7 = .ok (.ireturn, 1) := by decide +kernel
theorem dX9_arguments_0 : decode cX9_arguments 0 = .ok (.aload_n 0, 1) := by decide +kernel
theorem dX9_arguments_1 : decode cX9_arguments 1 = .ok (.invokevirtual 127, 3) := by decide +kernel
theorem dX9_arguments_4 : decode cX9_arguments 4 = .ok (.aload_n 0, 1) := by decide +kernel
theorem dX9_arguments_5 : decode cX9_arguments 5 = .ok (.getfield 26, 3) := by decide +kernel
theorem dX9_arguments_8 : decode cX9_arguments 8 = .ok (.getfield 130, 3) := by decide +kernel
theorem dX9_arguments_11 : decode cX9_arguments 11 = .ok (.ifCond .eq 7, 3) := by decide +kernel
theorem dX9_arguments_14 : decode cX9_arguments 14 = .ok (.iconst (-1), 1) := by decide +kernel
theorem dX9_arguments_15 : decode cX9_arguments 15 = .ok (.goto 10, 3) := by decide +kernel
theorem dX9_arguments_18 : decode cX9_arguments 18 = .ok (.aload_n 0, 1) := by decide +kernel
theorem dX9_arguments_19 : decode cX9_arguments 19 = .ok (.getfield 26, 3) := by decide +kernel
theorem dX9_arguments_22 : decode cX9_arguments 22 = .ok (.getfield 133, 3) := by decide +kernel
theorem dX9_arguments_25 : decode cX9_arguments 25 = .ok (.ireturn, 1) := by decide +kernel
theorem dX9_conclusion_0 : decode cX9_conclusion 0 = .ok (.aload_n 0, 1) := by decide +kernel
theorem dX9_conclusion_1 : decode cX9_conclusion 1 = .ok (.invokevirtual 134, 3) := by decide +kernel
theorem dX9_conclusion_4 : decode cX9_conclusion 4 = .ok (.aload_n 0, 1) := by decide +kernel
theorem dX9_conclusion_5 : decode cX9_conclusion 5 = .ok (.iload_n 1, 1) := by decide +kernel
theorem dX9_conclusion_6 : decode cX9_conclusion 6 = .ok (.invokevirtual 137, 3) := by decide +kernel
theorem dX9_conclusion_9 : decode cX9_conclusion 9 = .ok (.aload_n 0, 1) := by decide +kernel
theorem dX9_conclusion_10 : decode cX9_conclusion 10 = .ok (.getfield 26, 3) := by decide +kernel
theorem dX9_conclusion_13 : decode cX9_conclusion 13 = .ok (.iload_n 1, 1) := by decide +kernel
theorem dX9_conclusion_14 : decode cX9_conclusion 14 = .ok (.invokevirtual 140, 3) := by decide +kernel
theorem dX9_conclusion_17 : decode cX9_conclusion 17 = .ok (.ireturn, 1) := by decide +kernel
theorem dX9_madeBy_0 : decode cX9_madeBy 0 = .ok (.aload_n 0, 1) := by decide +kernel
theorem dX9_madeBy_1 : decode cX9_madeBy 1 = .ok (.invokevirtual 134, 3) := by decide +kernel
theorem dX9_madeBy_4 : decode cX9_madeBy 4 = .ok (.aload_n 0, 1) := by decide +kernel
theorem dX9_madeBy_5 : decode cX9_madeBy 5 = .ok (.iload_n 1, 1) := by decide +kernel
theorem dX9_madeBy_6 : decode cX9_madeBy 6 = .ok (.invokevirtual 137, 3) := by decide +kernel
theorem dX9_madeBy_9 : decode cX9_madeBy 9 = .ok (.aload_n 0, 1) := by decide +kernel
theorem dX9_madeBy_10 : decode cX9_madeBy 10 = .ok (.getfield 26, 3) := by decide +kernel
theorem dX9_madeBy_13 : decode cX9_madeBy 13 = .ok (.iload_n 1, 1) := by decide +kernel
theorem dX9_madeBy_14 : decode cX9_madeBy 14 = .ok (.invokevirtual 144, 3) := by decide +kernel
theorem dX9_madeBy_17 : decode cX9_madeBy 17 = .ok (.ireturn, 1) := by decide +kernel
theorem dX9_part_0 : decode cX9_part 0 = .ok (.aload_n 0, 1) := by decide +kernel
theorem dX9_part_1 : decode cX9_part 1 = .ok (.invokevirtual 134, 3) := by decide +kernel
theorem dX9_part_4 : decode cX9_part 4 = .ok (.aload_n 0, 1) := by decide +kernel
theorem dX9_part_5 : decode cX9_part 5 = .ok (.iload_n 1, 1) := by decide +kernel
theorem dX9_part_6 : decode cX9_part 6 = .ok (.invokevirtual 137, 3) := by decide +kernel
theorem dX9_part_9 : decode cX9_part 9 = .ok (.aload_n 0, 1) := by decide +kernel
theorem dX9_part_10 : decode cX9_part 10 = .ok (.getfield 26, 3) := by decide +kernel
theorem dX9_part_13 : decode cX9_part 13 = .ok (.iload_n 1, 1) := by decide +kernel
theorem dX9_part_14 : decode cX9_part 14 = .ok (.iload_n 2, 1) := by decide +kernel
theorem dX9_part_15 : decode cX9_part 15 = .ok (.invokevirtual 147, 3) := by decide +kernel
theorem dX9_part_18 : decode cX9_part 18 = .ok (.istore_n 3, 1) := by decide +kernel
theorem dX9_part_19 : decode cX9_part 19 = .ok (.iload_n 3, 1) := by decide +kernel
theorem dX9_part_20 : decode cX9_part 20 = .ok (.iconst (-1), 1) := by decide +kernel
theorem dX9_part_21 : decode cX9_part 21 = .ok (.if_icmp .ne 13, 3) := by decide +kernel
theorem dX9_part_24 : decode cX9_part 24 = .ok (.new 151, 3) := by decide +kernel
theorem dX9_part_27 : decode cX9_part 27 = .ok (.dup, 1) := by decide +kernel
theorem dX9_part_28 : decode cX9_part 28 = .ok (.ldc 153, 2) := by decide +kernel
theorem dX9_part_30 : decode cX9_part 30 = .ok (.invokespecial 155, 3) := by decide +kernel
theorem dX9_part_33 : decode cX9_part 33 = .ok (.athrow, 1) := by decide +kernel
theorem dX9_part_34 : decode cX9_part 34 = .ok (.iload_n 3, 1) := by decide +kernel
theorem dX9_part_35 : decode cX9_part 35 = .ok (.ireturn, 1) := by decide +kernel
theorem dX9_depth_0 : decode cX9_depth 0 = .ok (.aload_n 0, 1) := by decide +kernel
theorem dX9_depth_1 : decode cX9_depth 1 = .ok (.invokevirtual 134, 3) := by decide +kernel
theorem dX9_depth_4 : decode cX9_depth 4 = .ok (.aload_n 0, 1) := by decide +kernel
theorem dX9_depth_5 : decode cX9_depth 5 = .ok (.iload_n 1, 1) := by decide +kernel
theorem dX9_depth_6 : decode cX9_depth 6 = .ok (.invokevirtual 137, 3) := by decide +kernel
theorem dX9_depth_9 : decode cX9_depth 9 = .ok (.aload_n 0, 1) := by decide +kernel
theorem dX9_depth_10 : decode cX9_depth 10 = .ok (.getfield 26, 3) := by decide +kernel
theorem dX9_depth_13 : decode cX9_depth 13 = .ok (.iload_n 1, 1) := by decide +kernel
theorem dX9_depth_14 : decode cX9_depth 14 = .ok (.invokevirtual 156, 3) := by decide +kernel
theorem dX9_depth_17 : decode cX9_depth 17 = .ok (.ireturn, 1) := by decide +kernel
theorem dX9_attacks_0 : decode cX9_attacks 0 = .ok (.aload_n 0, 1) := by decide +kernel
theorem dX9_attacks_1 : decode cX9_attacks 1 = .ok (.invokevirtual 134, 3) := by decide +kernel
theorem dX9_attacks_4 : decode cX9_attacks 4 = .ok (.aload_n 0, 1) := by decide +kernel
theorem dX9_attacks_5 : decode cX9_attacks 5 = .ok (.iload_n 1, 1) := by decide +kernel
theorem dX9_attacks_6 : decode cX9_attacks 6 = .ok (.invokevirtual 137, 3) := by decide +kernel
theorem dX9_attacks_9 : decode cX9_attacks 9 = .ok (.aload_n 0, 1) := by decide +kernel
theorem dX9_attacks_10 : decode cX9_attacks 10 = .ok (.iload_n 2, 1) := by decide +kernel
theorem dX9_attacks_11 : decode cX9_attacks 11 = .ok (.invokevirtual 137, 3) := by decide +kernel
theorem dX9_attacks_14 : decode cX9_attacks 14 = .ok (.aload_n 0, 1) := by decide +kernel
theorem dX9_attacks_15 : decode cX9_attacks 15 = .ok (.getfield 33, 3) := by decide +kernel
theorem dX9_attacks_18 : decode cX9_attacks 18 = .ok (.iload_n 1, 1) := by decide +kernel
theorem dX9_attacks_19 : decode cX9_attacks 19 = .ok (.iload_n 2, 1) := by decide +kernel
theorem dX9_attacks_20 : decode cX9_attacks 20 = .ok (.invokevirtual 159, 3) := by decide +kernel
theorem dX9_attacks_23 : decode cX9_attacks 23 = .ok (.ireturn, 1) := by decide +kernel
theorem dX9_label_0 : decode cX9_label 0 = .ok (.aload_n 0, 1) := by decide +kernel
theorem dX9_label_1 : decode cX9_label 1 = .ok (.invokevirtual 134, 3) := by decide +kernel
theorem dX9_label_4 : decode cX9_label 4 = .ok (.aload_n 0, 1) := by decide +kernel
theorem dX9_label_5 : decode cX9_label 5 = .ok (.iload_n 1, 1) := by decide +kernel
theorem dX9_label_6 : decode cX9_label 6 = .ok (.invokevirtual 137, 3) := by decide +kernel
theorem dX9_label_9 : decode cX9_label 9 = .ok (.aload_n 0, 1) := by decide +kernel
theorem dX9_label_10 : decode cX9_label 10 = .ok (.getfield 40, 3) := by decide +kernel
theorem dX9_label_13 : decode cX9_label 13 = .ok (.iload_n 1, 1) := by decide +kernel
theorem dX9_label_14 : decode cX9_label 14 = .ok (.invokevirtual 162, 3) := by decide +kernel
theorem dX9_label_17 : decode cX9_label 17 = .ok (.ireturn, 1) := by decide +kernel
theorem dX9_round_0 : decode cX9_round 0 = .ok (.aload_n 0, 1) := by decide +kernel
theorem dX9_round_1 : decode cX9_round 1 = .ok (.invokevirtual 134, 3) := by decide +kernel
theorem dX9_round_4 : decode cX9_round 4 = .ok (.aload_n 0, 1) := by decide +kernel
theorem dX9_round_5 : decode cX9_round 5 = .ok (.iload_n 1, 1) := by decide +kernel
theorem dX9_round_6 : decode cX9_round 6 = .ok (.invokevirtual 137, 3) := by decide +kernel
theorem dX9_round_9 : decode cX9_round 9 = .ok (.aload_n 0, 1) := by decide +kernel
theorem dX9_round_10 : decode cX9_round 10 = .ok (.getfield 40, 3) := by decide +kernel
theorem dX9_round_13 : decode cX9_round 13 = .ok (.iload_n 1, 1) := by decide +kernel
theorem dX9_round_14 : decode cX9_round 14 = .ok (.invokevirtual 165, 3) := by decide +kernel
theorem dX9_round_17 : decode cX9_round 17 = .ok (.ireturn, 1) := by decide +kernel
theorem dX9_holds_0 : decode cX9_holds 0 = .ok (.iload_n 1, 1) := by decide +kernel
theorem dX9_holds_1 : decode cX9_holds 1 = .ok (.invokestatic 51, 3) := by decide +kernel
theorem dX9_holds_4 : decode cX9_holds 4 = .ok (.aload_n 0, 1) := by decide +kernel
theorem dX9_holds_5 : decode cX9_holds 5 = .ok (.invokevirtual 134, 3) := by decide +kernel
theorem dX9_holds_8 : decode cX9_holds 8 = .ok (.iconst 0, 1) := by decide +kernel
theorem dX9_holds_9 : decode cX9_holds 9 = .ok (.istore_n 2, 1) := by decide +kernel
theorem dX9_holds_10 : decode cX9_holds 10 = .ok (.iconst 0, 1) := by decide +kernel
theorem dX9_holds_11 : decode cX9_holds 11 = .ok (.istore_n 3, 1) := by decide +kernel
theorem dX9_holds_12 : decode cX9_holds 12 = .ok (.iload_n 3, 1) := by decide +kernel
theorem dX9_holds_13 : decode cX9_holds 13 = .ok (.aload_n 0, 1) := by decide +kernel
theorem dX9_holds_14 : decode cX9_holds 14 = .ok (.getfield 26, 3) := by decide +kernel
theorem dX9_holds_17 : decode cX9_holds 17 = .ok (.getfield 133, 3) := by decide +kernel
theorem dX9_holds_20 : decode cX9_holds 20 = .ok (.if_icmp .ge 34, 3) := by decide +kernel
theorem dX9_holds_23 : decode cX9_holds 23 = .ok (.aload_n 0, 1) := by decide +kernel
theorem dX9_holds_24 : decode cX9_holds 24 = .ok (.getfield 26, 3) := by decide +kernel
theorem dX9_holds_27 : decode cX9_holds 27 = .ok (.iload_n 3, 1) := by decide +kernel
theorem dX9_holds_28 : decode cX9_holds 28 = .ok (.invokevirtual 140, 3) := by decide +kernel
theorem dX9_holds_31 : decode cX9_holds 31 = .ok (.iload_n 1, 1) := by decide +kernel
theorem dX9_holds_32 : decode cX9_holds 32 = .ok (.if_icmp .ne 16, 3) := by decide +kernel
theorem dX9_holds_35 : decode cX9_holds 35 = .ok (.iload_n 2, 1) := by decide +kernel
theorem dX9_holds_36 : decode cX9_holds 36 = .ok (.aload_n 0, 1) := by decide +kernel
theorem dX9_holds_37 : decode cX9_holds 37 = .ok (.getfield 40, 3) := by decide +kernel
theorem dX9_holds_40 : decode cX9_holds 40 = .ok (.iload_n 3, 1) := by decide +kernel
theorem dX9_holds_41 : decode cX9_holds 41 = .ok (.invokevirtual 162, 3) := by decide +kernel
theorem dX9_holds_44 : decode cX9_holds 44 = .ok (.invokestatic 168, 3) := by decide +kernel
theorem dX9_holds_47 : decode cX9_holds 47 = .ok (.istore_n 2, 1) := by decide +kernel
theorem dX9_holds_48 : decode cX9_holds 48 = .ok (.iinc 3 1, 3) := by decide +kernel
theorem dX9_holds_51 : decode cX9_holds 51 = .ok (.goto (-39), 3) := by decide +kernel
theorem dX9_holds_54 : decode cX9_holds 54 = .ok (.iload_n 2, 1) := by decide +kernel
theorem dX9_holds_55 : decode cX9_holds 55 = .ok (.ireturn, 1) := by decide +kernel
theorem dX9_reasonFor_0 : decode cX9_reasonFor 0 = .ok (.iload_n 1, 1) := by decide +kernel
theorem dX9_reasonFor_1 : decode cX9_reasonFor 1 = .ok (.invokestatic 51, 3) := by decide +kernel
theorem dX9_reasonFor_4 : decode cX9_reasonFor 4 = .ok (.aload_n 0, 1) := by decide +kernel
theorem dX9_reasonFor_5 : decode cX9_reasonFor 5 = .ok (.invokevirtual 134, 3) := by decide +kernel
theorem dX9_reasonFor_8 : decode cX9_reasonFor 8 = .ok (.iconst 0, 1) := by decide +kernel
theorem dX9_reasonFor_9 : decode cX9_reasonFor 9 = .ok (.istore_n 2, 1) := by decide +kernel
theorem dX9_reasonFor_10 : decode cX9_reasonFor 10 = .ok (.iload_n 2, 1) := by decide +kernel
theorem dX9_reasonFor_11 : decode cX9_reasonFor 11 = .ok (.aload_n 0, 1) := by decide +kernel
theorem dX9_reasonFor_12 : decode cX9_reasonFor 12 = .ok (.getfield 26, 3) := by decide +kernel
theorem dX9_reasonFor_15 : decode cX9_reasonFor 15 = .ok (.getfield 133, 3) := by decide +kernel
theorem dX9_reasonFor_18 : decode cX9_reasonFor 18 = .ok (.if_icmp .ge 35, 3) := by decide +kernel
theorem dX9_reasonFor_21 : decode cX9_reasonFor 21 = .ok (.aload_n 0, 1) := by decide +kernel
theorem dX9_reasonFor_22 : decode cX9_reasonFor 22 = .ok (.getfield 26, 3) := by decide +kernel
theorem dX9_reasonFor_25 : decode cX9_reasonFor 25 = .ok (.iload_n 2, 1) := by decide +kernel
theorem dX9_reasonFor_26 : decode cX9_reasonFor 26 = .ok (.invokevirtual 140, 3) := by decide +kernel
theorem dX9_reasonFor_29 : decode cX9_reasonFor 29 = .ok (.iload_n 1, 1) := by decide +kernel
theorem dX9_reasonFor_30 : decode cX9_reasonFor 30 = .ok (.if_icmp .ne 17, 3) := by decide +kernel
theorem dX9_reasonFor_33 : decode cX9_reasonFor 33 = .ok (.aload_n 0, 1) := by decide +kernel
theorem dX9_reasonFor_34 : decode cX9_reasonFor 34 = .ok (.getfield 40, 3) := by decide +kernel
theorem dX9_reasonFor_37 : decode cX9_reasonFor 37 = .ok (.iload_n 2, 1) := by decide +kernel
theorem dX9_reasonFor_38 : decode cX9_reasonFor 38 = .ok (.invokevirtual 162, 3) := by decide +kernel
theorem dX9_reasonFor_41 : decode cX9_reasonFor 41 = .ok (.iconst 2, 1) := by decide +kernel
theorem dX9_reasonFor_42 : decode cX9_reasonFor 42 = .ok (.if_icmp .ne 5, 3) := by decide +kernel
theorem dX9_reasonFor_45 : decode cX9_reasonFor 45 = .ok (.iload_n 2, 1) := by decide +kernel
theorem dX9_reasonFor_46 : decode cX9_reasonFor 46 = .ok (.ireturn, 1) := by decide +kernel
theorem dX9_reasonFor_47 : decode cX9_reasonFor 47 = .ok (.iinc 2 1, 3) := by decide +kernel
theorem dX9_reasonFor_50 : decode cX9_reasonFor 50 = .ok (.goto (-40), 3) := by decide +kernel
theorem dX9_reasonFor_53 : decode cX9_reasonFor 53 = .ok (.iconst (-1), 1) := by decide +kernel
theorem dX9_reasonFor_54 : decode cX9_reasonFor 54 = .ok (.ireturn, 1) := by decide +kernel
theorem dX9_reasonAgainst_0 : decode cX9_reasonAgainst 0 = .ok (.aload_n 0, 1) := by decide +kernel
theorem dX9_reasonAgainst_1 : decode cX9_reasonAgainst 1 = .ok (.invokevirtual 134, 3) := by decide +kernel
theorem dX9_reasonAgainst_4 : decode cX9_reasonAgainst 4 = .ok (.aload_n 0, 1) := by decide +kernel
theorem dX9_reasonAgainst_5 : decode cX9_reasonAgainst 5 = .ok (.iload_n 1, 1) := by decide +kernel
theorem dX9_reasonAgainst_6 : decode cX9_reasonAgainst 6 = .ok (.invokevirtual 137, 3) := by decide +kernel
theorem dX9_reasonAgainst_9 : decode cX9_reasonAgainst 9 = .ok (.aload_n 0, 1) := by decide +kernel
theorem dX9_reasonAgainst_10 : decode cX9_reasonAgainst 10 = .ok (.iload_n 1, 1) := by decide +kernel
theorem dX9_reasonAgainst_11 : decode cX9_reasonAgainst 11 = .ok (.iconst 2, 1) := by decide +kernel
theorem dX9_reasonAgainst_12 : decode cX9_reasonAgainst 12 = .ok (.invokevirtual 173, 3) := by decide +kernel
theorem dX9_reasonAgainst_15 : decode cX9_reasonAgainst 15 = .ok (.istore_n 2, 1) := by decide +kernel
theorem dX9_reasonAgainst_16 : decode cX9_reasonAgainst 16 = .ok (.iload_n 2, 1) := by decide +kernel
theorem dX9_reasonAgainst_17 : decode cX9_reasonAgainst 17 = .ok (.iconst (-1), 1) := by decide +kernel
theorem dX9_reasonAgainst_18 : decode cX9_reasonAgainst 18 = .ok (.if_icmp .eq 7, 3) := by decide +kernel
theorem dX9_reasonAgainst_21 : decode cX9_reasonAgainst 21 = .ok (.iload_n 2, 1) := by decide +kernel
theorem dX9_reasonAgainst_22 : decode cX9_reasonAgainst 22 = .ok (.goto 9, 3) := by decide +kernel
theorem dX9_reasonAgainst_25 : decode cX9_reasonAgainst 25 = .ok (.aload_n 0, 1) := by decide +kernel
theorem dX9_reasonAgainst_26 : decode cX9_reasonAgainst 26 = .ok (.iload_n 1, 1) := by decide +kernel
theorem dX9_reasonAgainst_27 : decode cX9_reasonAgainst 27 = .ok (.iconst 1, 1) := by decide +kernel
theorem dX9_reasonAgainst_28 : decode cX9_reasonAgainst 28 = .ok (.invokevirtual 173, 3) := by decide +kernel
theorem dX9_reasonAgainst_31 : decode cX9_reasonAgainst 31 = .ok (.ireturn, 1) := by decide +kernel
theorem dX9_preferred_0 : decode cX9_preferred 0 = .ok (.aload_n 0, 1) := by decide +kernel
theorem dX9_preferred_1 : decode cX9_preferred 1 = .ok (.invokevirtual 176, 3) := by decide +kernel
theorem dX9_preferred_4 : decode cX9_preferred 4 = .ok (.aload_n 0, 1) := by decide +kernel
theorem dX9_preferred_5 : decode cX9_preferred 5 = .ok (.invokevirtual 179, 3) := by decide +kernel
theorem dX9_preferred_8 : decode cX9_preferred 8 = .ok (.aload_n 0, 1) := by decide +kernel
theorem dX9_preferred_9 : decode cX9_preferred 9 = .ok (.getfield 47, 3) := by decide +kernel
theorem dX9_preferred_12 : decode cX9_preferred 12 = .ok (.getfield 182, 3) := by decide +kernel
theorem dX9_preferred_15 : decode cX9_preferred 15 = .ok (.getfield 186, 3) := by decide +kernel
theorem dX9_preferred_18 : decode cX9_preferred 18 = .ok (.ireturn, 1) := by decide +kernel
theorem dX9_preferredByAllSets_0 : decode cX9_preferredByAllSets 0 = .ok (.aload_n 0, 1) := by decide +kernel
theorem dX9_preferredByAllSets_1 : decode cX9_preferredByAllSets 1 = .ok (.invokevirtual 176, 3) := by decide +kernel
theorem dX9_preferredByAllSets_4 : decode cX9_preferredByAllSets 4 = .ok (.aload_n 0, 1) := by decide +kernel
theorem dX9_preferredByAllSets_5 : decode cX9_preferredByAllSets 5 = .ok (.invokevirtual 189, 3) := by decide +kernel
theorem dX9_preferredByAllSets_8 : decode cX9_preferredByAllSets 8 = .ok (.aload_n 0, 1) := by decide +kernel
theorem dX9_preferredByAllSets_9 : decode cX9_preferredByAllSets 9 = .ok (.getfield 47, 3) := by decide +kernel
theorem dX9_preferredByAllSets_12 : decode cX9_preferredByAllSets 12 = .ok (.getfield 192, 3) := by decide +kernel
theorem dX9_preferredByAllSets_15 : decode cX9_preferredByAllSets 15 = .ok (.getfield 186, 3) := by decide +kernel
theorem dX9_preferredByAllSets_18 : decode cX9_preferredByAllSets 18 = .ok (.ireturn, 1) := by decide +kernel
theorem dX9_isInSet_0 : decode cX9_isInSet 0 = .ok (.aload_n 0, 1) := by decide +kernel
theorem dX9_isInSet_1 : decode cX9_isInSet 1 = .ok (.invokevirtual 176, 3) := by decide +kernel
theorem dX9_isInSet_4 : decode cX9_isInSet 4 = .ok (.aload_n 0, 1) := by decide +kernel
theorem dX9_isInSet_5 : decode cX9_isInSet 5 = .ok (.invokevirtual 179, 3) := by decide +kernel
theorem dX9_isInSet_8 : decode cX9_isInSet 8 = .ok (.iload_n 1, 1) := by decide +kernel
theorem dX9_isInSet_9 : decode cX9_isInSet 9 = .ok (.ifCond .lt 17, 3) := by decide +kernel
theorem dX9_isInSet_12 : decode cX9_isInSet 12 = .ok (.iload_n 1, 1) := by decide +kernel
theorem dX9_isInSet_13 : decode cX9_isInSet 13 = .ok (.aload_n 0, 1) := by decide +kernel
theorem dX9_isInSet_14 : decode cX9_isInSet 14 = .ok (.getfield 47, 3) := by decide +kernel
theorem dX9_isInSet_17 : decode cX9_isInSet 17 = .ok (.getfield 182, 3) := by decide +kernel
theorem dX9_isInSet_20 : decode cX9_isInSet 20 = .ok (.getfield 186, 3) := by decide +kernel
theorem dX9_isInSet_23 : decode cX9_isInSet 23 = .ok (.if_icmp .lt 13, 3) := by decide +kernel
theorem dX9_isInSet_26 : decode cX9_isInSet 26 = .ok (.new 151, 3) := by decide +kernel
theorem dX9_isInSet_29 : decode cX9_isInSet 29 = .ok (.dup, 1) := by decide +kernel
theorem dX9_isInSet_30 : decode cX9_isInSet 30 = .ok (.ldc 195, 2) := by decide +kernel
theorem dX9_isInSet_32 : decode cX9_isInSet 32 = .ok (.invokespecial 155, 3) := by decide +kernel
theorem dX9_isInSet_35 : decode cX9_isInSet 35 = .ok (.athrow, 1) := by decide +kernel
theorem dX9_isInSet_36 : decode cX9_isInSet 36 = .ok (.aload_n 0, 1) := by decide +kernel
theorem dX9_isInSet_37 : decode cX9_isInSet 37 = .ok (.iload_n 2, 1) := by decide +kernel
theorem dX9_isInSet_38 : decode cX9_isInSet 38 = .ok (.invokevirtual 137, 3) := by decide +kernel
theorem dX9_isInSet_41 : decode cX9_isInSet 41 = .ok (.aload_n 0, 1) := by decide +kernel
theorem dX9_isInSet_42 : decode cX9_isInSet 42 = .ok (.getfield 47, 3) := by decide +kernel
theorem dX9_isInSet_45 : decode cX9_isInSet 45 = .ok (.getfield 182, 3) := by decide +kernel
theorem dX9_isInSet_48 : decode cX9_isInSet 48 = .ok (.iload_n 1, 1) := by decide +kernel
theorem dX9_isInSet_49 : decode cX9_isInSet 49 = .ok (.iload_n 2, 1) := by decide +kernel
theorem dX9_isInSet_50 : decode cX9_isInSet 50 = .ok (.invokevirtual 197, 3) := by decide +kernel
theorem dX9_isInSet_53 : decode cX9_isInSet 53 = .ok (.ireturn, 1) := by decide +kernel
theorem dX9_setsFor_0 : decode cX9_setsFor 0 = .ok (.iload_n 1, 1) := by decide +kernel
theorem dX9_setsFor_1 : decode cX9_setsFor 1 = .ok (.invokestatic 51, 3) := by decide +kernel
theorem dX9_setsFor_4 : decode cX9_setsFor 4 = .ok (.aload_n 0, 1) := by decide +kernel
theorem dX9_setsFor_5 : decode cX9_setsFor 5 = .ok (.invokevirtual 176, 3) := by decide +kernel
theorem dX9_setsFor_8 : decode cX9_setsFor 8 = .ok (.aload_n 0, 1) := by decide +kernel
theorem dX9_setsFor_9 : decode cX9_setsFor 9 = .ok (.invokevirtual 179, 3) := by decide +kernel
theorem dX9_setsFor_12 : decode cX9_setsFor 12 = .ok (.iconst 0, 1) := by decide +kernel
theorem dX9_setsFor_13 : decode cX9_setsFor 13 = .ok (.istore_n 2, 1) := by decide +kernel
theorem dX9_setsFor_14 : decode cX9_setsFor 14 = .ok (.iconst 0, 1) := by decide +kernel
theorem dX9_setsFor_15 : decode cX9_setsFor 15 = .ok (.istore_n 3, 1) := by decide +kernel
theorem dX9_setsFor_16 : decode cX9_setsFor 16 = .ok (.iload_n 3, 1) := by decide +kernel
theorem dX9_setsFor_17 : decode cX9_setsFor 17 = .ok (.aload_n 0, 1) := by decide +kernel
theorem dX9_setsFor_18 : decode cX9_setsFor 18 = .ok (.getfield 47, 3) := by decide +kernel
theorem dX9_setsFor_21 : decode cX9_setsFor 21 = .ok (.getfield 182, 3) := by decide +kernel
theorem dX9_setsFor_24 : decode cX9_setsFor 24 = .ok (.getfield 186, 3) := by decide +kernel
theorem dX9_setsFor_27 : decode cX9_setsFor 27 = .ok (.if_icmp .ge 21, 3) := by decide +kernel
theorem dX9_setsFor_30 : decode cX9_setsFor 30 = .ok (.aload_n 0, 1) := by decide +kernel
theorem dX9_setsFor_31 : decode cX9_setsFor 31 = .ok (.iload_n 3, 1) := by decide +kernel
theorem dX9_setsFor_32 : decode cX9_setsFor 32 = .ok (.iload_n 1, 1) := by decide +kernel
theorem dX9_setsFor_33 : decode cX9_setsFor 33 = .ok (.invokevirtual 200, 3) := by decide +kernel
theorem dX9_setsFor_36 : decode cX9_setsFor 36 = .ok (.ifCond .eq 6, 3) := by decide +kernel
theorem dX9_setsFor_39 : decode cX9_setsFor 39 = .ok (.iinc 2 1, 3) := by decide +kernel
theorem dX9_setsFor_42 : decode cX9_setsFor 42 = .ok (.iinc 3 1, 3) := by decide +kernel
theorem dX9_setsFor_45 : decode cX9_setsFor 45 = .ok (.goto (-29), 3) := by decide +kernel
theorem dX9_setsFor_48 : decode cX9_setsFor 48 = .ok (.iload_n 2, 1) := by decide +kernel
theorem dX9_setsFor_49 : decode cX9_setsFor 49 = .ok (.ireturn, 1) := by decide +kernel
theorem dX9_isLiteralOrNone_0 : decode cX9_isLiteralOrNone 0 = .ok (.iload_n 0, 1) := by decide +kernel
theorem dX9_isLiteralOrNone_1 : decode cX9_isLiteralOrNone 1 = .ok (.bipush (-10), 2) := by decide +kernel
theorem dX9_isLiteralOrNone_3 : decode cX9_isLiteralOrNone 3 = .ok (.if_icmp .lt 13, 3) := by decide +kernel
theorem dX9_isLiteralOrNone_6 : decode cX9_isLiteralOrNone 6 = .ok (.iload_n 0, 1) := by decide +kernel
theorem dX9_isLiteralOrNone_7 : decode cX9_isLiteralOrNone 7 = .ok (.bipush 10, 2) := by decide +kernel
theorem dX9_isLiteralOrNone_9 : decode cX9_isLiteralOrNone 9 = .ok (.if_icmp .gt 7, 3) := by decide +kernel
theorem dX9_isLiteralOrNone_12 : decode cX9_isLiteralOrNone 12 = .ok (.iconst 1, 1) := by decide +kernel
theorem dX9_isLiteralOrNone_13 : decode cX9_isLiteralOrNone 13 = .ok (.goto 4, 3) := by decide +kernel
theorem dX9_isLiteralOrNone_16 : decode cX9_isLiteralOrNone 16 = .ok (.iconst 0, 1) := by decide +kernel
theorem dX9_isLiteralOrNone_17 : decode cX9_isLiteralOrNone 17 = .ok (.ireturn, 1) := by decide +kernel
theorem dX9_demandLiteral_0 : decode cX9_demandLiteral 0 = .ok (.iload_n 0, 1) := by decide +kernel
theorem dX9_demandLiteral_1 : decode cX9_demandLiteral 1 = .ok (.ifCond .ne 13, 3) := by decide +kernel
theorem dX9_demandLiteral_4 : decode cX9_demandLiteral 4 = .ok (.new 89, 3) := by decide +kernel
theorem dX9_demandLiteral_7 : decode cX9_demandLiteral 7 = .ok (.dup, 1) := by decide +kernel
theorem dX9_demandLiteral_8 : decode cX9_demandLiteral 8 = .ok (.ldc 203, 2) := by decide +kernel
theorem dX9_demandLiteral_10 : decode cX9_demandLiteral 10 = .ok (.invokespecial 93, 3) := by decide +kernel
theorem dX9_demandLiteral_13 : decode cX9_demandLiteral 13 = .ok (.athrow, 1) := by decide +kernel
theorem dX9_demandLiteral_14 : decode cX9_demandLiteral 14 = .ok (.iload_n 0, 1) := by decide +kernel
theorem dX9_demandLiteral_15 : decode cX9_demandLiteral 15 = .ok (.invokestatic 79, 3) := by decide +kernel
theorem dX9_demandLiteral_18 : decode cX9_demandLiteral 18 = .ok (.return_, 1) := by decide +kernel
theorem dX9_demandLiteralOrNone_0 : decode cX9_demandLiteralOrNone 0 = .ok (.iload_n 0, 1) := by decide +kernel
theorem dX9_demandLiteralOrNone_1 : decode cX9_demandLiteralOrNone 1 = .ok (.invokestatic 205, 3) := by decide +kernel
theorem dX9_demandLiteralOrNone_4 : decode cX9_demandLiteralOrNone 4 = .ok (.ifCond .ne 13, 3) := by decide +kernel
theorem dX9_demandLiteralOrNone_7 : decode cX9_demandLiteralOrNone 7 = .ok (.new 89, 3) := by decide +kernel
theorem dX9_demandLiteralOrNone_10 : decode cX9_demandLiteralOrNone 10 = .ok (.dup, 1) := by decide +kernel
theorem dX9_demandLiteralOrNone_11 : decode cX9_demandLiteralOrNone 11 = .ok (.ldc 208, 2) := by decide +kernel
theorem dX9_demandLiteralOrNone_13 : decode cX9_demandLiteralOrNone 13 = .ok (.invokespecial 93, 3) := by decide +kernel
theorem dX9_demandLiteralOrNone_16 : decode cX9_demandLiteralOrNone 16 = .ok (.athrow, 1) := by decide +kernel
theorem dX9_demandLiteralOrNone_17 : decode cX9_demandLiteralOrNone 17 = .ok (.return_, 1) := by decide +kernel
theorem dX9_demandPriority_0 : decode cX9_demandPriority 0 = .ok (.iload_n 0, 1) := by decide +kernel
theorem dX9_demandPriority_1 : decode cX9_demandPriority 1 = .ok (.ifCond .lt 9, 3) := by decide +kernel
theorem dX9_demandPriority_4 : decode cX9_demandPriority 4 = .ok (.iload_n 0, 1) := by decide +kernel
theorem dX9_demandPriority_5 : decode cX9_demandPriority 5 = .ok (.bipush 9, 2) := by decide +kernel
theorem dX9_demandPriority_7 : decode cX9_demandPriority 7 = .ok (.if_icmp .le 13, 3) := by decide +kernel
theorem dX9_demandPriority_10 : decode cX9_demandPriority 10 = .ok (.new 89, 3) := by decide +kernel
theorem dX9_demandPriority_13 : decode cX9_demandPriority 13 = .ok (.dup, 1) := by decide +kernel
theorem dX9_demandPriority_14 : decode cX9_demandPriority 14 = .ok (.ldc 210, 2) := by decide +kernel
theorem dX9_demandPriority_16 : decode cX9_demandPriority 16 = .ok (.invokespecial 93, 3) := by decide +kernel
theorem dX9_demandPriority_19 : decode cX9_demandPriority 19 = .ok (.athrow, 1) := by decide +kernel
theorem dX9_demandPriority_20 : decode cX9_demandPriority 20 = .ok (.return_, 1) := by decide +kernel
theorem dX9_followsInBody_0 : decode cX9_followsInBody 0 = .ok (.iload_n 0, 1) := by decide +kernel
theorem dX9_followsInBody_1 : decode cX9_followsInBody 1 = .ok (.ifCond .eq 12, 3) := by decide +kernel
theorem dX9_followsInBody_4 : decode cX9_followsInBody 4 = .ok (.iload_n 1, 1) := by decide +kernel
theorem dX9_followsInBody_5 : decode cX9_followsInBody 5 = .ok (.ifCond .eq 12, 3) := by decide +kernel
theorem dX9_followsInBody_8 : decode cX9_followsInBody 8 = .ok (.iload_n 0, 1) := by decide +kernel
theorem dX9_followsInBody_9 : decode cX9_followsInBody 9 = .ok (.iload_n 1, 1) := by decide +kernel
theorem dX9_followsInBody_10 : decode cX9_followsInBody 10 = .ok (.if_icmp .eq 7, 3) := by decide +kernel
theorem dX9_followsInBody_13 : decode cX9_followsInBody 13 = .ok (.iconst 1, 1) := by decide +kernel
theorem dX9_followsInBody_14 : decode cX9_followsInBody 14 = .ok (.goto 4, 3) := by decide +kernel
theorem dX9_followsInBody_17 : decode cX9_followsInBody 17 = .ok (.iconst 0, 1) := by decide +kernel
theorem dX9_followsInBody_18 : decode cX9_followsInBody 18 = .ok (.ireturn, 1) := by decide +kernel
theorem dX9_demandRule_0 : decode cX9_demandRule 0 = .ok (.iload_n 1, 1) := by decide +kernel
theorem dX9_demandRule_1 : decode cX9_demandRule 1 = .ok (.ifCond .lt 14, 3) := by decide +kernel
theorem dX9_demandRule_4 : decode cX9_demandRule 4 = .ok (.iload_n 1, 1) := by decide +kernel
theorem dX9_demandRule_5 : decode cX9_demandRule 5 = .ok (.aload_n 0, 1) := by decide +kernel
theorem dX9_demandRule_6 : decode cX9_demandRule 6 = .ok (.getfield 19, 3) := by decide +kernel
theorem dX9_demandRule_9 : decode cX9_demandRule 9 = .ok (.invokevirtual 96, 3) := by decide +kernel
theorem dX9_demandRule_12 : decode cX9_demandRule 12 = .ok (.if_icmp .lt 13, 3) := by decide +kernel
theorem dX9_demandRule_15 : decode cX9_demandRule 15 = .ok (.new 151, 3) := by decide +kernel
theorem dX9_demandRule_18 : decode cX9_demandRule 18 = .ok (.dup, 1) := by decide +kernel
theorem dX9_demandRule_19 : decode cX9_demandRule 19 = .ok (.ldc 212, 2) := by decide +kernel
theorem dX9_demandRule_21 : decode cX9_demandRule 21 = .ok (.invokespecial 155, 3) := by decide +kernel
theorem dX9_demandRule_24 : decode cX9_demandRule 24 = .ok (.athrow, 1) := by decide +kernel
theorem dX9_demandRule_25 : decode cX9_demandRule 25 = .ok (.return_, 1) := by decide +kernel
theorem dX9_demandTold_0 : decode cX9_demandTold 0 = .ok (.aload_n 0, 1) := by decide +kernel
theorem dX9_demandTold_1 : decode cX9_demandTold 1 = .ok (.invokevirtual 127, 3) := by decide +kernel
theorem dX9_demandTold_4 : decode cX9_demandTold 4 = .ok (.aload_n 0, 1) := by decide +kernel
theorem dX9_demandTold_5 : decode cX9_demandTold 5 = .ok (.getfield 26, 3) := by decide +kernel
theorem dX9_demandTold_8 : decode cX9_demandTold 8 = .ok (.getfield 130, 3) := by decide +kernel
theorem dX9_demandTold_11 : decode cX9_demandTold 11 = .ok (.ifCond .eq 13, 3) := by decide +kernel
theorem dX9_demandTold_14 : decode cX9_demandTold 14 = .ok (.new 59, 3) := by decide +kernel
theorem dX9_demandTold_17 : decode cX9_demandTold 17 = .ok (.dup, 1) := by decide +kernel
theorem dX9_demandTold_18 : decode cX9_demandTold 18 = .ok (.ldc 214, 2) := by decide +kernel
theorem dX9_demandTold_20 : decode cX9_demandTold 20 = .ok (.invokespecial 63, 3) := by decide +kernel
theorem dX9_demandTold_23 : decode cX9_demandTold 23 = .ok (.athrow, 1) := by decide +kernel
theorem dX9_demandTold_24 : decode cX9_demandTold 24 = .ok (.return_, 1) := by decide +kernel
theorem dX9_demandFew_0 : decode cX9_demandFew 0 = .ok (.aload_n 0, 1) := by decide +kernel
theorem dX9_demandFew_1 : decode cX9_demandFew 1 = .ok (.invokevirtual 127, 3) := by decide +kernel
theorem dX9_demandFew_4 : decode cX9_demandFew 4 = .ok (.aload_n 0, 1) := by decide +kernel
theorem dX9_demandFew_5 : decode cX9_demandFew 5 = .ok (.getfield 26, 3) := by decide +kernel
theorem dX9_demandFew_8 : decode cX9_demandFew 8 = .ok (.getfield 130, 3) := by decide +kernel
theorem dX9_demandFew_11 : decode cX9_demandFew 11 = .ok (.ifCond .ne 15, 3) := by decide +kernel
theorem dX9_demandFew_14 : decode cX9_demandFew 14 = .ok (.aload_n 0, 1) := by decide +kernel
theorem dX9_demandFew_15 : decode cX9_demandFew 15 = .ok (.getfield 26, 3) := by decide +kernel
theorem dX9_demandFew_18 : decode cX9_demandFew 18 = .ok (.getfield 133, 3) := by decide +kernel
theorem dX9_demandFew_21 : decode cX9_demandFew 21 = .ok (.bipush 14, 2) := by decide +kernel
theorem dX9_demandFew_23 : decode cX9_demandFew 23 = .ok (.if_icmp .le 13, 3) := by decide +kernel
theorem dX9_demandFew_26 : decode cX9_demandFew 26 = .ok (.new 59, 3) := by decide +kernel
theorem dX9_demandFew_29 : decode cX9_demandFew 29 = .ok (.dup, 1) := by decide +kernel
theorem dX9_demandFew_30 : decode cX9_demandFew 30 = .ok (.ldc 216, 2) := by decide +kernel
theorem dX9_demandFew_32 : decode cX9_demandFew 32 = .ok (.invokespecial 63, 3) := by decide +kernel
theorem dX9_demandFew_35 : decode cX9_demandFew 35 = .ok (.athrow, 1) := by decide +kernel
theorem dX9_demandFew_36 : decode cX9_demandFew 36 = .ok (.return_, 1) := by decide +kernel
theorem dX9_demandArgument_0 : decode cX9_demandArgument 0 = .ok (.iload_n 1, 1) := by decide +kernel
theorem dX9_demandArgument_1 : decode cX9_demandArgument 1 = .ok (.ifCond .lt 14, 3) := by decide +kernel
theorem dX9_demandArgument_4 : decode cX9_demandArgument 4 = .ok (.iload_n 1, 1) := by decide +kernel
theorem dX9_demandArgument_5 : decode cX9_demandArgument 5 = .ok (.aload_n 0, 1) := by decide +kernel
theorem dX9_demandArgument_6 : decode cX9_demandArgument 6 = .ok (.getfield 26, 3) := by decide +kernel
theorem dX9_demandArgument_9 : decode cX9_demandArgument 9 = .ok (.getfield 133, 3) := by decide +kernel
theorem dX9_demandArgument_12 : decode cX9_demandArgument 12 = .ok (.if_icmp .lt 13, 3) := by decide +kernel
theorem dX9_demandArgument_15 : decode cX9_demandArgument 15 = .ok (.new 151, 3) := by decide +kernel
theorem dX9_demandArgument_18 : decode cX9_demandArgument 18 = .ok (.dup, 1) := by decide +kernel
theorem dX9_demandArgument_19 : decode cX9_demandArgument 19 = .ok (.ldc 218, 2) := by decide +kernel
theorem dX9_demandArgument_21 : decode cX9_demandArgument 21 = .ok (.invokespecial 155, 3) := by decide +kernel
theorem dX9_demandArgument_24 : decode cX9_demandArgument 24 = .ok (.athrow, 1) := by decide +kernel
theorem dX9_demandArgument_25 : decode cX9_demandArgument 25 = .ok (.return_, 1) := by decide +kernel
theorem dX9_forget_0 : decode cX9_forget 0 = .ok (.aload_n 0, 1) := by decide +kernel
theorem dX9_forget_1 : decode cX9_forget 1 = .ok (.iconst 0, 1) := by decide +kernel
theorem dX9_forget_2 : decode cX9_forget 2 = .ok (.putfield 220, 3) := by decide +kernel
theorem dX9_forget_5 : decode cX9_forget 5 = .ok (.aload_n 0, 1) := by decide +kernel
theorem dX9_forget_6 : decode cX9_forget 6 = .ok (.iconst 0, 1) := by decide +kernel
theorem dX9_forget_7 : decode cX9_forget 7 = .ok (.putfield 223, 3) := by decide +kernel
theorem dX9_forget_10 : decode cX9_forget 10 = .ok (.aload_n 0, 1) := by decide +kernel
theorem dX9_forget_11 : decode cX9_forget 11 = .ok (.iconst 0, 1) := by decide +kernel
theorem dX9_forget_12 : decode cX9_forget 12 = .ok (.putfield 226, 3) := by decide +kernel
theorem dX9_forget_15 : decode cX9_forget 15 = .ok (.return_, 1) := by decide +kernel
theorem dX9_build_0 : decode cX9_build 0 = .ok (.aload_n 0, 1) := by decide +kernel
theorem dX9_build_1 : decode cX9_build 1 = .ok (.getfield 220, 3) := by decide +kernel
theorem dX9_build_4 : decode cX9_build 4 = .ok (.ifCond .eq 4, 3) := by decide +kernel
theorem dX9_build_7 : decode cX9_build 7 = .ok (.return_, 1) := by decide +kernel
theorem dX9_build_8 : decode cX9_build 8 = .ok (.aload_n 0, 1) := by decide +kernel
theorem dX9_build_9 : decode cX9_build 9 = .ok (.getfield 26, 3) := by decide +kernel
theorem dX9_build_12 : decode cX9_build 12 = .ok (.aload_n 0, 1) := by decide +kernel
theorem dX9_build_13 : decode cX9_build 13 = .ok (.getfield 12, 3) := by decide +kernel
theorem dX9_build_16 : decode cX9_build 16 = .ok (.aload_n 0, 1) := by decide +kernel
theorem dX9_build_17 : decode cX9_build 17 = .ok (.getfield 19, 3) := by decide +kernel
theorem dX9_build_20 : decode cX9_build 20 = .ok (.invokevirtual 229, 3) := by decide +kernel
theorem dX9_build_23 : decode cX9_build 23 = .ok (.aload_n 0, 1) := by decide +kernel
theorem dX9_build_24 : decode cX9_build 24 = .ok (.getfield 26, 3) := by decide +kernel
theorem dX9_build_27 : decode cX9_build 27 = .ok (.getfield 130, 3) := by decide +kernel
theorem dX9_build_30 : decode cX9_build 30 = .ok (.ifCond .ne 54, 3) := by decide +kernel
theorem dX9_build_33 : decode cX9_build 33 = .ok (.aload_n 0, 1) := by decide +kernel
theorem dX9_build_34 : decode cX9_build 34 = .ok (.getfield 33, 3) := by decide +kernel
theorem dX9_build_37 : decode cX9_build 37 = .ok (.aload_n 0, 1) := by decide +kernel
theorem dX9_build_38 : decode cX9_build 38 = .ok (.getfield 26, 3) := by decide +kernel
theorem dX9_build_41 : decode cX9_build 41 = .ok (.aload_n 0, 1) := by decide +kernel
theorem dX9_build_42 : decode cX9_build 42 = .ok (.getfield 19, 3) := by decide +kernel
theorem dX9_build_45 : decode cX9_build 45 = .ok (.invokevirtual 232, 3) := by decide +kernel
theorem dX9_build_48 : decode cX9_build 48 = .ok (.aload_n 0, 1) := by decide +kernel
theorem dX9_build_49 : decode cX9_build 49 = .ok (.getfield 40, 3) := by decide +kernel
theorem dX9_build_52 : decode cX9_build 52 = .ok (.aload_n 0, 1) := by decide +kernel
theorem dX9_build_53 : decode cX9_build 53 = .ok (.getfield 33, 3) := by decide +kernel
theorem dX9_build_56 : decode cX9_build 56 = .ok (.aload_n 0, 1) := by decide +kernel
theorem dX9_build_57 : decode cX9_build 57 = .ok (.getfield 26, 3) := by decide +kernel
theorem dX9_build_60 : decode cX9_build 60 = .ok (.getfield 133, 3) := by decide +kernel
theorem dX9_build_63 : decode cX9_build 63 = .ok (.invokevirtual 235, 3) := by decide +kernel
theorem dX9_build_66 : decode cX9_build 66 = .ok (.aload_n 0, 1) := by decide +kernel
theorem dX9_build_67 : decode cX9_build 67 = .ok (.getfield 47, 3) := by decide +kernel
theorem dX9_build_70 : decode cX9_build 70 = .ok (.aload_n 0, 1) := by decide +kernel
theorem dX9_build_71 : decode cX9_build 71 = .ok (.getfield 33, 3) := by decide +kernel
theorem dX9_build_74 : decode cX9_build 74 = .ok (.aload_n 0, 1) := by decide +kernel
theorem dX9_build_75 : decode cX9_build 75 = .ok (.getfield 26, 3) := by decide +kernel
theorem dX9_build_78 : decode cX9_build 78 = .ok (.getfield 133, 3) := by decide +kernel
theorem dX9_build_81 : decode cX9_build 81 = .ok (.invokevirtual 238, 3) := by decide +kernel
theorem dX9_build_84 : decode cX9_build 84 = .ok (.aload_n 0, 1) := by decide +kernel
theorem dX9_build_85 : decode cX9_build 85 = .ok (.iconst 1, 1) := by decide +kernel
theorem dX9_build_86 : decode cX9_build 86 = .ok (.putfield 220, 3) := by decide +kernel
theorem dX9_build_89 : decode cX9_build 89 = .ok (.return_, 1) := by decide +kernel
theorem dX9_trySets_0 : decode cX9_trySets 0 = .ok (.aload_n 0, 1) := by decide +kernel
theorem dX9_trySets_1 : decode cX9_trySets 1 = .ok (.getfield 223, 3) := by decide +kernel
theorem dX9_trySets_4 : decode cX9_trySets 4 = .ok (.ifCond .ne 15, 3) := by decide +kernel
theorem dX9_trySets_7 : decode cX9_trySets 7 = .ok (.aload_n 0, 1) := by decide +kernel
theorem dX9_trySets_8 : decode cX9_trySets 8 = .ok (.getfield 47, 3) := by decide +kernel
theorem dX9_trySets_11 : decode cX9_trySets 11 = .ok (.invokevirtual 241, 3) := by decide +kernel
theorem dX9_trySets_14 : decode cX9_trySets 14 = .ok (.aload_n 0, 1) := by decide +kernel
theorem dX9_trySets_15 : decode cX9_trySets 15 = .ok (.iconst 1, 1) := by decide +kernel
theorem dX9_trySets_16 : decode cX9_trySets 16 = .ok (.putfield 223, 3) := by decide +kernel
theorem dX9_trySets_19 : decode cX9_trySets 19 = .ok (.return_, 1) := by decide +kernel
theorem dX9_sweepSets_0 : decode cX9_sweepSets 0 = .ok (.aload_n 0, 1) := by decide +kernel
theorem dX9_sweepSets_1 : decode cX9_sweepSets 1 = .ok (.getfield 226, 3) := by decide +kernel
theorem dX9_sweepSets_4 : decode cX9_sweepSets 4 = .ok (.ifCond .ne 15, 3) := by decide +kernel
theorem dX9_sweepSets_7 : decode cX9_sweepSets 7 = .ok (.aload_n 0, 1) := by decide +kernel
theorem dX9_sweepSets_8 : decode cX9_sweepSets 8 = .ok (.getfield 47, 3) := by decide +kernel
theorem dX9_sweepSets_11 : decode cX9_sweepSets 11 = .ok (.invokevirtual 244, 3) := by decide +kernel
theorem dX9_sweepSets_14 : decode cX9_sweepSets 14 = .ok (.aload_n 0, 1) := by decide +kernel
theorem dX9_sweepSets_15 : decode cX9_sweepSets 15 = .ok (.iconst 1, 1) := by decide +kernel
theorem dX9_sweepSets_16 : decode cX9_sweepSets 16 = .ok (.putfield 226, 3) := by decide +kernel
theorem dX9_sweepSets_19 : decode cX9_sweepSets 19 = .ok (.return_, 1) := by decide +kernel
theorem dX9_lowestAttacker_0 : decode cX9_lowestAttacker 0 = .ok (.iconst 0, 1) := by decide +kernel
theorem dX9_lowestAttacker_1 : decode cX9_lowestAttacker 1 = .ok (.istore_n 3, 1) := by decide +kernel
theorem dX9_lowestAttacker_2 : decode cX9_lowestAttacker 2 = .ok (.iload_n 3, 1) := by decide +kernel
theorem dX9_lowestAttacker_3 : decode cX9_lowestAttacker 3 = .ok (.aload_n 0, 1) := by decide +kernel
theorem dX9_lowestAttacker_4 : decode cX9_lowestAttacker 4 = .ok (.getfield 26, 3) := by decide +kernel
theorem dX9_lowestAttacker_7 : decode cX9_lowestAttacker 7 = .ok (.getfield 133, 3) := by decide +kernel
theorem dX9_lowestAttacker_10 : decode cX9_lowestAttacker 10 = .ok (.if_icmp .ge 35, 3) := by decide +kernel
theorem dX9_lowestAttacker_13 : decode cX9_lowestAttacker 13 = .ok (.aload_n 0, 1) := by decide +kernel
theorem dX9_lowestAttacker_14 : decode cX9_lowestAttacker 14 = .ok (.getfield 33, 3) := by decide +kernel
theorem dX9_lowestAttacker_17 : decode cX9_lowestAttacker 17 = .ok (.iload_n 3, 1) := by decide +kernel
theorem dX9_lowestAttacker_18 : decode cX9_lowestAttacker 18 = .ok (.iload_n 1, 1) := by decide +kernel
theorem dX9_lowestAttacker_19 : decode cX9_lowestAttacker 19 = .ok (.invokevirtual 159, 3) := by decide +kernel
theorem dX9_lowestAttacker_22 : decode cX9_lowestAttacker 22 = .ok (.ifCond .eq 17, 3) := by decide +kernel
theorem dX9_lowestAttacker_25 : decode cX9_lowestAttacker 25 = .ok (.aload_n 0, 1) := by decide +kernel
theorem dX9_lowestAttacker_26 : decode cX9_lowestAttacker 26 = .ok (.getfield 40, 3) := by decide +kernel
theorem dX9_lowestAttacker_29 : decode cX9_lowestAttacker 29 = .ok (.iload_n 3, 1) := by decide +kernel
theorem dX9_lowestAttacker_30 : decode cX9_lowestAttacker 30 = .ok (.invokevirtual 162, 3) := by decide +kernel
theorem dX9_lowestAttacker_33 : decode cX9_lowestAttacker 33 = .ok (.iload_n 2, 1) := by decide +kernel
theorem dX9_lowestAttacker_34 : decode cX9_lowestAttacker 34 = .ok (.if_icmp .ne 5, 3) := by decide +kernel
theorem dX9_lowestAttacker_37 : decode cX9_lowestAttacker 37 = .ok (.iload_n 3, 1) := by decide +kernel
theorem dX9_lowestAttacker_38 : decode cX9_lowestAttacker 38 = .ok (.ireturn, 1) := by decide +kernel
theorem dX9_lowestAttacker_39 : decode cX9_lowestAttacker 39 = .ok (.iinc 3 1, 3) := by decide +kernel
theorem dX9_lowestAttacker_42 : decode cX9_lowestAttacker 42 = .ok (.goto (-40), 3) := by decide +kernel
theorem dX9_lowestAttacker_45 : decode cX9_lowestAttacker 45 = .ok (.iconst (-1), 1) := by decide +kernel
theorem dX9_lowestAttacker_46 : decode cX9_lowestAttacker 46 = .ok (.ireturn, 1) := by decide +kernel
theorem dX9_concludesInSet_0 : decode cX9_concludesInSet 0 = .ok (.iconst 0, 1) := by decide +kernel
theorem dX9_concludesInSet_1 : decode cX9_concludesInSet 1 = .ok (.istore_n 3, 1) := by decide +kernel
theorem dX9_concludesInSet_2 : decode cX9_concludesInSet 2 = .ok (.iload_n 3, 1) := by decide +kernel
theorem dX9_concludesInSet_3 : decode cX9_concludesInSet 3 = .ok (.aload_n 0, 1) := by decide +kernel
theorem dX9_concludesInSet_4 : decode cX9_concludesInSet 4 = .ok (.getfield 26, 3) := by decide +kernel
theorem dX9_concludesInSet_7 : decode cX9_concludesInSet 7 = .ok (.getfield 133, 3) := by decide +kernel
theorem dX9_concludesInSet_10 : decode cX9_concludesInSet 10 = .ok (.if_icmp .ge 38, 3) := by decide +kernel
theorem dX9_concludesInSet_13 : decode cX9_concludesInSet 13 = .ok (.aload_n 0, 1) := by decide +kernel
theorem dX9_concludesInSet_14 : decode cX9_concludesInSet 14 = .ok (.getfield 26, 3) := by decide +kernel
theorem dX9_concludesInSet_17 : decode cX9_concludesInSet 17 = .ok (.iload_n 3, 1) := by decide +kernel
theorem dX9_concludesInSet_18 : decode cX9_concludesInSet 18 = .ok (.invokevirtual 140, 3) := by decide +kernel
theorem dX9_concludesInSet_21 : decode cX9_concludesInSet 21 = .ok (.iload_n 2, 1) := by decide +kernel
theorem dX9_concludesInSet_22 : decode cX9_concludesInSet 22 = .ok (.if_icmp .ne 20, 3) := by decide +kernel
theorem dX9_concludesInSet_25 : decode cX9_concludesInSet 25 = .ok (.aload_n 0, 1) := by decide +kernel
theorem dX9_concludesInSet_26 : decode cX9_concludesInSet 26 = .ok (.getfield 47, 3) := by decide +kernel
theorem dX9_concludesInSet_29 : decode cX9_concludesInSet 29 = .ok (.getfield 182, 3) := by decide +kernel
theorem dX9_concludesInSet_32 : decode cX9_concludesInSet 32 = .ok (.iload_n 1, 1) := by decide +kernel
theorem dX9_concludesInSet_33 : decode cX9_concludesInSet 33 = .ok (.iload_n 3, 1) := by decide +kernel
theorem dX9_concludesInSet_34 : decode cX9_concludesInSet 34 = .ok (.invokevirtual 197, 3) := by decide +kernel
theorem dX9_concludesInSet_37 : decode cX9_concludesInSet 37 = .ok (.ifCond .eq 5, 3) := by decide +kernel
theorem dX9_concludesInSet_40 : decode cX9_concludesInSet 40 = .ok (.iconst 1, 1) := by decide +kernel
theorem dX9_concludesInSet_41 : decode cX9_concludesInSet 41 = .ok (.ireturn, 1) := by decide +kernel
theorem dX9_concludesInSet_42 : decode cX9_concludesInSet 42 = .ok (.iinc 3 1, 3) := by decide +kernel
theorem dX9_concludesInSet_45 : decode cX9_concludesInSet 45 = .ok (.goto (-43), 3) := by decide +kernel
theorem dX9_concludesInSet_48 : decode cX9_concludesInSet 48 = .ok (.iconst 0, 1) := by decide +kernel
theorem dX9_concludesInSet_49 : decode cX9_concludesInSet 49 = .ok (.ireturn, 1) := by decide +kernel
theorem dX9_setBit_0 : decode cX9_setBit 0 = .ok (.iload_n 0, 1) := by decide +kernel
theorem dX9_setBit_1 : decode cX9_setBit 1 = .ok (.ifCond .lt 18, 3) := by decide +kernel
theorem dX9_setBit_4 : decode cX9_setBit 4 = .ok (.iload_n 0, 1) := by decide +kernel
theorem dX9_setBit_5 : decode cX9_setBit 5 = .ok (.bipush 14, 2) := by decide +kernel
theorem dX9_setBit_7 : decode cX9_setBit 7 = .ok (.if_icmp .ge 12, 3) := by decide +kernel
theorem dX9_setBit_10 : decode cX9_setBit 10 = .ok (.iconst 1, 1) := by decide +kernel
theorem dX9_setBit_11 : decode cX9_setBit 11 = .ok (.bipush 13, 2) := by decide +kernel
theorem dX9_setBit_13 : decode cX9_setBit 13 = .ok (.iload_n 0, 1) := by decide +kernel
theorem dX9_setBit_14 : decode cX9_setBit 14 = .ok (.isub, 1) := by decide +kernel
theorem dX9_setBit_15 : decode cX9_setBit 15 = .ok (.ishl, 1) := by decide +kernel
theorem dX9_setBit_16 : decode cX9_setBit 16 = .ok (.goto 4, 3) := by decide +kernel
theorem dX9_setBit_19 : decode cX9_setBit 19 = .ok (.iconst 0, 1) := by decide +kernel
theorem dX9_setBit_20 : decode cX9_setBit 20 = .ok (.ireturn, 1) := by decide +kernel
