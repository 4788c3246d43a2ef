theorem dX0_init_0 : decode cX0_init 0 = .ok (.aload_n 0, 1) := by decide +kernel
theorem dX0_init_1 : decode cX0_init 1 = .ok (.invokespecial 3, 3) := by decide +kernel
theorem dX0_init_4 : decode cX0_init 4 = .ok (.aload_n 0, 1) := by decide +kernel
theorem dX0_init_5 : decode cX0_init 5 = .ok (.new 9, 3) := by decide +kernel
theorem dX0_init_8 : decode cX0_init 8 = .ok (.dup, 1) := by decide +kernel
theorem dX0_init_9 : decode cX0_init 9 = .ok (.invokespecial 11, 3) := by decide +kernel
theorem dX0_init_12 : decode cX0_init 12 = .ok (.putfield 12, 3) := by decide +kernel
theorem dX0_init_15 : decode cX0_init 15 = .ok (.aload_n 0, 1) := by decide +kernel
theorem dX0_init_16 : decode cX0_init 16 = .ok (.bipush 8, 2) := by decide +kernel
theorem dX0_init_18 : decode cX0_init 18 = .ok (.newarray .int, 2) := by decide +kernel
theorem dX0_init_20 : decode cX0_init 20 = .ok (.putfield 18, 3) := by decide +kernel
theorem dX0_init_23 : decode cX0_init 23 = .ok (.aload_n 0, 1) := by decide +kernel
theorem dX0_init_24 : decode cX0_init 24 = .ok (.bipush 6, 2) := by decide +kernel
theorem dX0_init_26 : decode cX0_init 26 = .ok (.newarray .int, 2) := by decide +kernel
theorem dX0_init_28 : decode cX0_init 28 = .ok (.putfield 22, 3) := by decide +kernel
theorem dX0_init_31 : decode cX0_init 31 = .ok (.aload_n 0, 1) := by decide +kernel
theorem dX0_init_32 : decode cX0_init 32 = .ok (.iconst 0, 1) := by decide +kernel
theorem dX0_init_33 : decode cX0_init 33 = .ok (.putfield 25, 3) := by decide +kernel
theorem dX0_init_36 : decode cX0_init 36 = .ok (.return_, 1) := by decide +kernel
theorem dX0_turnsTill_0 : decode cX0_turnsTill 0 = .ok (.aload_n 0, 1) := by decide +kernel
theorem dX0_turnsTill_1 : decode cX0_turnsTill 1 = .ok (.getfield 12, 3) := by decide +kernel
theorem dX0_turnsTill_4 : decode cX0_turnsTill 4 = .ok (.aload_n 1, 1) := by decide +kernel
theorem dX0_turnsTill_5 : decode cX0_turnsTill 5 = .ok (.getfield 29, 3) := by decide +kernel
theorem dX0_turnsTill_8 : decode cX0_turnsTill 8 = .ok (.invokevirtual 34, 3) := by decide +kernel
theorem dX0_turnsTill_11 : decode cX0_turnsTill 11 = .ok (.aload_n 0, 1) := by decide +kernel
theorem dX0_turnsTill_12 : decode cX0_turnsTill 12 = .ok (.aload_n 1, 1) := by decide +kernel
theorem dX0_turnsTill_13 : decode cX0_turnsTill 13 = .ok (.iload_n 2, 1) := by decide +kernel
theorem dX0_turnsTill_14 : decode cX0_turnsTill 14 = .ok (.iload_n 3, 1) := by decide +kernel
theorem dX0_turnsTill_15 : decode cX0_turnsTill 15 = .ok (.sipush 999, 3) := by decide +kernel
theorem dX0_turnsTill_18 : decode cX0_turnsTill 18 = .ok (.invokevirtual 38, 3) := by decide +kernel
theorem dX0_turnsTill_21 : decode cX0_turnsTill 21 = .ok (.ireturn, 1) := by decide +kernel
theorem dX0_behind_0 : decode cX0_behind 0 = .ok (.aload_n 0, 1) := by decide +kernel
theorem dX0_behind_1 : decode cX0_behind 1 = .ok (.getfield 12, 3) := by decide +kernel
theorem dX0_behind_4 : decode cX0_behind 4 = .ok (.aload_n 1, 1) := by decide +kernel
theorem dX0_behind_5 : decode cX0_behind 5 = .ok (.getfield 29, 3) := by decide +kernel
theorem dX0_behind_8 : decode cX0_behind 8 = .ok (.invokevirtual 34, 3) := by decide +kernel
theorem dX0_behind_11 : decode cX0_behind 11 = .ok (.aload_n 0, 1) := by decide +kernel
theorem dX0_behind_12 : decode cX0_behind 12 = .ok (.getfield 12, 3) := by decide +kernel
theorem dX0_behind_15 : decode cX0_behind 15 = .ok (.aload_n 1, 1) := by decide +kernel
theorem dX0_behind_16 : decode cX0_behind 16 = .ok (.iload_n 2, 1) := by decide +kernel
theorem dX0_behind_17 : decode cX0_behind 17 = .ok (.invokevirtual 42, 3) := by decide +kernel
theorem dX0_behind_20 : decode cX0_behind 20 = .ok (.aload_n 0, 1) := by decide +kernel
theorem dX0_behind_21 : decode cX0_behind 21 = .ok (.getfield 12, 3) := by decide +kernel
theorem dX0_behind_24 : decode cX0_behind 24 = .ok (.areturn, 1) := by decide +kernel
theorem dX0_probeTill_0 : decode cX0_probeTill 0 = .ok (.iconst 0, 1) := by decide +kernel
theorem dX0_probeTill_1 : decode cX0_probeTill 1 = .ok (.istore 5, 2) := by decide +kernel
theorem dX0_probeTill_3 : decode cX0_probeTill 3 = .ok (.iconst 0, 1) := by decide +kernel
theorem dX0_probeTill_4 : decode cX0_probeTill 4 = .ok (.istore 6, 2) := by decide +kernel
theorem dX0_probeTill_6 : decode cX0_probeTill 6 = .ok (.iload 6, 2) := by decide +kernel
theorem dX0_probeTill_8 : decode cX0_probeTill 8 = .ok (.iload 4, 2) := by decide +kernel
theorem dX0_probeTill_10 : decode cX0_probeTill 10 = .ok (.if_icmp .gt 59, 3) := by decide +kernel
theorem dX0_probeTill_13 : decode cX0_probeTill 13 = .ok (.aload_n 0, 1) := by decide +kernel
theorem dX0_probeTill_14 : decode cX0_probeTill 14 = .ok (.getfield 12, 3) := by decide +kernel
theorem dX0_probeTill_17 : decode cX0_probeTill 17 = .ok (.iload_n 2, 1) := by decide +kernel
theorem dX0_probeTill_18 : decode cX0_probeTill 18 = .ok (.iload_n 3, 1) := by decide +kernel
theorem dX0_probeTill_19 : decode cX0_probeTill 19 = .ok (.invokevirtual 46, 3) := by decide +kernel
theorem dX0_probeTill_22 : decode cX0_probeTill 22 = .ok (.ifCond .eq 6, 3) := by decide +kernel
theorem dX0_probeTill_25 : decode cX0_probeTill 25 = .ok (.iload 6, 2) := by decide +kernel
theorem dX0_probeTill_27 : decode cX0_probeTill 27 = .ok (.ireturn, 1) := by decide +kernel
theorem dX0_probeTill_28 : decode cX0_probeTill 28 = .ok (.iload 5, 2) := by decide +kernel
theorem dX0_probeTill_30 : decode cX0_probeTill 30 = .ok (.aload_n 0, 1) := by decide +kernel
theorem dX0_probeTill_31 : decode cX0_probeTill 31 = .ok (.getfield 12, 3) := by decide +kernel
theorem dX0_probeTill_34 : decode cX0_probeTill 34 = .ok (.getfield 50, 3) := by decide +kernel
theorem dX0_probeTill_37 : decode cX0_probeTill 37 = .ok (.if_icmp .lt 5, 3) := by decide +kernel
theorem dX0_probeTill_40 : decode cX0_probeTill 40 = .ok (.iconst (-1), 1) := by decide +kernel
theorem dX0_probeTill_41 : decode cX0_probeTill 41 = .ok (.ireturn, 1) := by decide +kernel
theorem dX0_probeTill_42 : decode cX0_probeTill 42 = .ok (.aload_n 0, 1) := by decide +kernel
theorem dX0_probeTill_43 : decode cX0_probeTill 43 = .ok (.getfield 12, 3) := by decide +kernel
theorem dX0_probeTill_46 : decode cX0_probeTill 46 = .ok (.aload_n 1, 1) := by decide +kernel
theorem dX0_probeTill_47 : decode cX0_probeTill 47 = .ok (.invokevirtual 53, 3) := by decide +kernel
theorem dX0_probeTill_50 : decode cX0_probeTill 50 = .ok (.ifCond .eq 7, 3) := by decide +kernel
theorem dX0_probeTill_53 : decode cX0_probeTill 53 = .ok (.iconst 0, 1) := by decide +kernel
theorem dX0_probeTill_54 : decode cX0_probeTill 54 = .ok (.goto 7, 3) := by decide +kernel
theorem dX0_probeTill_57 : decode cX0_probeTill 57 = .ok (.iload 5, 2) := by decide +kernel
theorem dX0_probeTill_59 : decode cX0_probeTill 59 = .ok (.iconst 1, 1) := by decide +kernel
theorem dX0_probeTill_60 : decode cX0_probeTill 60 = .ok (.iadd, 1) := by decide +kernel
theorem dX0_probeTill_61 : decode cX0_probeTill 61 = .ok (.istore 5, 2) := by decide +kernel
theorem dX0_probeTill_63 : decode cX0_probeTill 63 = .ok (.iinc 6 1, 3) := by decide +kernel
theorem dX0_probeTill_66 : decode cX0_probeTill 66 = .ok (.goto (-60), 3) := by decide +kernel
theorem dX0_probeTill_69 : decode cX0_probeTill 69 = .ok (.iconst (-1), 1) := by decide +kernel
theorem dX0_probeTill_70 : decode cX0_probeTill 70 = .ok (.ireturn, 1) := by decide +kernel
theorem dX0_seekBest_0 : decode cX0_seekBest 0 = .ok (.aload_n 1, 1) := by decide +kernel
theorem dX0_seekBest_1 : decode cX0_seekBest 1 = .ok (.getfield 29, 3) := by decide +kernel
theorem dX0_seekBest_4 : decode cX0_seekBest 4 = .ok (.getfield 50, 3) := by decide +kernel
theorem dX0_seekBest_7 : decode cX0_seekBest 7 = .ok (.istore_n 2, 1) := by decide +kernel
theorem dX0_seekBest_8 : decode cX0_seekBest 8 = .ok (.iload_n 2, 1) := by decide +kernel
theorem dX0_seekBest_9 : decode cX0_seekBest 9 = .ok (.bipush 6, 2) := by decide +kernel
theorem dX0_seekBest_11 : decode cX0_seekBest 11 = .ok (.if_icmp .le 5, 3) := by decide +kernel
theorem dX0_seekBest_14 : decode cX0_seekBest 14 = .ok (.iconst (-1), 1) := by decide +kernel
theorem dX0_seekBest_15 : decode cX0_seekBest 15 = .ok (.ireturn, 1) := by decide +kernel
theorem dX0_seekBest_16 : decode cX0_seekBest 16 = .ok (.aload_n 0, 1) := by decide +kernel
theorem dX0_seekBest_17 : decode cX0_seekBest 17 = .ok (.aload_n 1, 1) := by decide +kernel
theorem dX0_seekBest_18 : decode cX0_seekBest 18 = .ok (.getfield 29, 3) := by decide +kernel
theorem dX0_seekBest_21 : decode cX0_seekBest 21 = .ok (.invokevirtual 57, 3) := by decide +kernel
theorem dX0_seekBest_24 : decode cX0_seekBest 24 = .ok (.bipush 100, 2) := by decide +kernel
theorem dX0_seekBest_26 : decode cX0_seekBest 26 = .ok (.istore_n 3, 1) := by decide +kernel
theorem dX0_seekBest_27 : decode cX0_seekBest 27 = .ok (.iconst 1, 1) := by decide +kernel
theorem dX0_seekBest_28 : decode cX0_seekBest 28 = .ok (.istore 4, 2) := by decide +kernel
theorem dX0_seekBest_30 : decode cX0_seekBest 30 = .ok (.iconst 0, 1) := by decide +kernel
theorem dX0_seekBest_31 : decode cX0_seekBest 31 = .ok (.istore 5, 2) := by decide +kernel
theorem dX0_seekBest_33 : decode cX0_seekBest 33 = .ok (.iload 5, 2) := by decide +kernel
theorem dX0_seekBest_35 : decode cX0_seekBest 35 = .ok (.sipush 720, 3) := by decide +kernel
theorem dX0_seekBest_38 : decode cX0_seekBest 38 = .ok (.if_icmp .ge 93, 3) := by decide +kernel
theorem dX0_seekBest_41 : decode cX0_seekBest 41 = .ok (.iload 4, 2) := by decide +kernel
theorem dX0_seekBest_43 : decode cX0_seekBest 43 = .ok (.ifCond .eq 88, 3) := by decide +kernel
theorem dX0_seekBest_46 : decode cX0_seekBest 46 = .ok (.iload_n 3, 1) := by decide +kernel
theorem dX0_seekBest_47 : decode cX0_seekBest 47 = .ok (.ifCond .le 84, 3) := by decide +kernel
theorem dX0_seekBest_50 : decode cX0_seekBest 50 = .ok (.aload_n 0, 1) := by decide +kernel
theorem dX0_seekBest_51 : decode cX0_seekBest 51 = .ok (.getfield 12, 3) := by decide +kernel
theorem dX0_seekBest_54 : decode cX0_seekBest 54 = .ok (.aload_n 1, 1) := by decide +kernel
theorem dX0_seekBest_55 : decode cX0_seekBest 55 = .ok (.getfield 29, 3) := by decide +kernel
theorem dX0_seekBest_58 : decode cX0_seekBest 58 = .ok (.invokevirtual 34, 3) := by decide +kernel
theorem dX0_seekBest_61 : decode cX0_seekBest 61 = .ok (.aload_n 0, 1) := by decide +kernel
theorem dX0_seekBest_62 : decode cX0_seekBest 62 = .ok (.getfield 12, 3) := by decide +kernel
theorem dX0_seekBest_65 : decode cX0_seekBest 65 = .ok (.aload_n 0, 1) := by decide +kernel
theorem dX0_seekBest_66 : decode cX0_seekBest 66 = .ok (.getfield 18, 3) := by decide +kernel
theorem dX0_seekBest_69 : decode cX0_seekBest 69 = .ok (.invokevirtual 60, 3) := by decide +kernel
theorem dX0_seekBest_72 : decode cX0_seekBest 72 = .ok (.aload_n 0, 1) := by decide +kernel
theorem dX0_seekBest_73 : decode cX0_seekBest 73 = .ok (.aload_n 1, 1) := by decide +kernel
theorem dX0_seekBest_74 : decode cX0_seekBest 74 = .ok (.aload_n 1, 1) := by decide +kernel
theorem dX0_seekBest_75 : decode cX0_seekBest 75 = .ok (.invokevirtual 64, 3) := by decide +kernel
theorem dX0_seekBest_78 : decode cX0_seekBest 78 = .ok (.aload_n 1, 1) := by decide +kernel
theorem dX0_seekBest_79 : decode cX0_seekBest 79 = .ok (.invokevirtual 68, 3) := by decide +kernel
theorem dX0_seekBest_82 : decode cX0_seekBest 82 = .ok (.iload_n 3, 1) := by decide +kernel
theorem dX0_seekBest_83 : decode cX0_seekBest 83 = .ok (.iconst 1, 1) := by decide +kernel
theorem dX0_seekBest_84 : decode cX0_seekBest 84 = .ok (.isub, 1) := by decide +kernel
theorem dX0_seekBest_85 : decode cX0_seekBest 85 = .ok (.invokevirtual 38, 3) := by decide +kernel
theorem dX0_seekBest_88 : decode cX0_seekBest 88 = .ok (.istore 6, 2) := by decide +kernel
theorem dX0_seekBest_90 : decode cX0_seekBest 90 = .ok (.iload 6, 2) := by decide +kernel
theorem dX0_seekBest_92 : decode cX0_seekBest 92 = .ok (.iconst (-1), 1) := by decide +kernel
theorem dX0_seekBest_93 : decode cX0_seekBest 93 = .ok (.if_icmp .eq 25, 3) := by decide +kernel
theorem dX0_seekBest_96 : decode cX0_seekBest 96 = .ok (.iload 6, 2) := by decide +kernel
theorem dX0_seekBest_98 : decode cX0_seekBest 98 = .ok (.istore_n 3, 1) := by decide +kernel
theorem dX0_seekBest_99 : decode cX0_seekBest 99 = .ok (.aload_n 0, 1) := by decide +kernel
theorem dX0_seekBest_100 : decode cX0_seekBest 100 = .ok (.iload_n 2, 1) := by decide +kernel
theorem dX0_seekBest_101 : decode cX0_seekBest 101 = .ok (.putfield 25, 3) := by decide +kernel
theorem dX0_seekBest_104 : decode cX0_seekBest 104 = .ok (.aload_n 0, 1) := by decide +kernel
theorem dX0_seekBest_105 : decode cX0_seekBest 105 = .ok (.getfield 18, 3) := by decide +kernel
theorem dX0_seekBest_108 : decode cX0_seekBest 108 = .ok (.iconst 0, 1) := by decide +kernel
theorem dX0_seekBest_109 : decode cX0_seekBest 109 = .ok (.aload_n 0, 1) := by decide +kernel
theorem dX0_seekBest_110 : decode cX0_seekBest 110 = .ok (.getfield 22, 3) := by decide +kernel
theorem dX0_seekBest_113 : decode cX0_seekBest 113 = .ok (.iconst 0, 1) := by decide +kernel
theorem dX0_seekBest_114 : decode cX0_seekBest 114 = .ok (.iload_n 2, 1) := by decide +kernel
theorem dX0_seekBest_115 : decode cX0_seekBest 115 = .ok (.invokestatic 71, 3) := by decide +kernel
theorem dX0_seekBest_118 : decode cX0_seekBest 118 = .ok (.aload_n 0, 1) := by decide +kernel
theorem dX0_seekBest_119 : decode cX0_seekBest 119 = .ok (.iload_n 2, 1) := by decide +kernel
theorem dX0_seekBest_120 : decode cX0_seekBest 120 = .ok (.invokevirtual 77, 3) := by decide +kernel
theorem dX0_seekBest_123 : decode cX0_seekBest 123 = .ok (.istore 4, 2) := by decide +kernel
theorem dX0_seekBest_125 : decode cX0_seekBest 125 = .ok (.iinc 5 1, 3) := by decide +kernel
theorem dX0_seekBest_128 : decode cX0_seekBest 128 = .ok (.goto (-95), 3) := by decide +kernel
theorem dX0_seekBest_131 : decode cX0_seekBest 131 = .ok (.iload_n 3, 1) := by decide +kernel
theorem dX0_seekBest_132 : decode cX0_seekBest 132 = .ok (.bipush 99, 2) := by decide +kernel
theorem dX0_seekBest_134 : decode cX0_seekBest 134 = .ok (.if_icmp .le 7, 3) := by decide +kernel
theorem dX0_seekBest_137 : decode cX0_seekBest 137 = .ok (.iconst (-1), 1) := by decide +kernel
theorem dX0_seekBest_138 : decode cX0_seekBest 138 = .ok (.goto 4, 3) := by decide +kernel
theorem dX0_seekBest_141 : decode cX0_seekBest 141 = .ok (.iload_n 3, 1) := by decide +kernel
theorem dX0_seekBest_142 : decode cX0_seekBest 142 = .ok (.ireturn, 1) := by decide +kernel
theorem dX0_sortInto_0 : decode cX0_sortInto 0 = .ok (.iconst 0, 1) := by decide +kernel
theorem dX0_sortInto_1 : decode cX0_sortInto 1 = .ok (.istore_n 2, 1) := by decide +kernel
theorem dX0_sortInto_2 : decode cX0_sortInto 2 = .ok (.iconst 0, 1) := by decide +kernel
theorem dX0_sortInto_3 : decode cX0_sortInto 3 = .ok (.istore_n 3, 1) := by decide +kernel
theorem dX0_sortInto_4 : decode cX0_sortInto 4 = .ok (.iload_n 3, 1) := by decide +kernel
theorem dX0_sortInto_5 : decode cX0_sortInto 5 = .ok (.bipush 8, 2) := by decide +kernel
theorem dX0_sortInto_7 : decode cX0_sortInto 7 = .ok (.if_icmp .ge 28, 3) := by decide +kernel
theorem dX0_sortInto_10 : decode cX0_sortInto 10 = .ok (.aload_n 1, 1) := by decide +kernel
theorem dX0_sortInto_11 : decode cX0_sortInto 11 = .ok (.iload_n 3, 1) := by decide +kernel
theorem dX0_sortInto_12 : decode cX0_sortInto 12 = .ok (.invokevirtual 81, 3) := by decide +kernel
theorem dX0_sortInto_15 : decode cX0_sortInto 15 = .ok (.iconst (-1), 1) := by decide +kernel
theorem dX0_sortInto_16 : decode cX0_sortInto 16 = .ok (.if_icmp .eq 13, 3) := by decide +kernel
theorem dX0_sortInto_19 : decode cX0_sortInto 19 = .ok (.aload_n 0, 1) := by decide +kernel
theorem dX0_sortInto_20 : decode cX0_sortInto 20 = .ok (.getfield 18, 3) := by decide +kernel
theorem dX0_sortInto_23 : decode cX0_sortInto 23 = .ok (.iload_n 2, 1) := by decide +kernel
theorem dX0_sortInto_24 : decode cX0_sortInto 24 = .ok (.iload_n 3, 1) := by decide +kernel
theorem dX0_sortInto_25 : decode cX0_sortInto 25 = .ok (.iastore, 1) := by decide +kernel
theorem dX0_sortInto_26 : decode cX0_sortInto 26 = .ok (.iinc 2 1, 3) := by decide +kernel
theorem dX0_sortInto_29 : decode cX0_sortInto 29 = .ok (.iinc 3 1, 3) := by decide +kernel
theorem dX0_sortInto_32 : decode cX0_sortInto 32 = .ok (.goto (-28), 3) := by decide +kernel
theorem dX0_sortInto_35 : decode cX0_sortInto 35 = .ok (.return_, 1) := by decide +kernel
theorem dX0_permute_0 : decode cX0_permute 0 = .ok (.iload_n 1, 1) := by decide +kernel
theorem dX0_permute_1 : decode cX0_permute 1 = .ok (.iconst 2, 1) := by decide +kernel
theorem dX0_permute_2 : decode cX0_permute 2 = .ok (.isub, 1) := by decide +kernel
theorem dX0_permute_3 : decode cX0_permute 3 = .ok (.istore_n 2, 1) := by decide +kernel
theorem dX0_permute_4 : decode cX0_permute 4 = .ok (.iload_n 2, 1) := by decide +kernel
theorem dX0_permute_5 : decode cX0_permute 5 = .ok (.ifCond .lt 26, 3) := by decide +kernel
theorem dX0_permute_8 : decode cX0_permute 8 = .ok (.aload_n 0, 1) := by decide +kernel
theorem dX0_permute_9 : decode cX0_permute 9 = .ok (.getfield 18, 3) := by decide +kernel
theorem dX0_permute_12 : decode cX0_permute 12 = .ok (.iload_n 2, 1) := by decide +kernel
theorem dX0_permute_13 : decode cX0_permute 13 = .ok (.iaload, 1) := by decide +kernel
theorem dX0_permute_14 : decode cX0_permute 14 = .ok (.aload_n 0, 1) := by decide +kernel
theorem dX0_permute_15 : decode cX0_permute 15 = .ok (.getfield 18, 3) := by decide +kernel
theorem dX0_permute_18 : decode cX0_permute 18 = .ok (.iload_n 2, 1) := by decide +kernel
theorem dX0_permute_19 : decode cX0_permute 19 = .ok (.iconst 1, 1) := by decide +kernel
theorem dX0_permute_20 : decode cX0_permute 20 = .ok (.iadd, 1) := by decide +kernel
theorem dX0_permute_21 : decode cX0_permute 21 = .ok (.iaload, 1) := by decide +kernel
theorem dX0_permute_22 : decode cX0_permute 22 = .ok (.if_icmp .le 9, 3) := by decide +kernel
theorem dX0_permute_25 : decode cX0_permute 25 = .ok (.iinc 2 (-1), 3) := by decide +kernel
theorem dX0_permute_28 : decode cX0_permute 28 = .ok (.goto (-24), 3) := by decide +kernel
theorem dX0_permute_31 : decode cX0_permute 31 = .ok (.iload_n 2, 1) := by decide +kernel
theorem dX0_permute_32 : decode cX0_permute 32 = .ok (.ifCond .ge 5, 3) := by decide +kernel
theorem dX0_permute_35 : decode cX0_permute 35 = .ok (.iconst 0, 1) := by decide +kernel
theorem dX0_permute_36 : decode cX0_permute 36 = .ok (.ireturn, 1) := by decide +kernel
theorem dX0_permute_37 : decode cX0_permute 37 = .ok (.iload_n 1, 1) := by decide +kernel
theorem dX0_permute_38 : decode cX0_permute 38 = .ok (.iconst 1, 1) := by decide +kernel
theorem dX0_permute_39 : decode cX0_permute 39 = .ok (.isub, 1) := by decide +kernel
theorem dX0_permute_40 : decode cX0_permute 40 = .ok (.istore_n 3, 1) := by decide +kernel
theorem dX0_permute_41 : decode cX0_permute 41 = .ok (.iload_n 3, 1) := by decide +kernel
theorem dX0_permute_42 : decode cX0_permute 42 = .ok (.iload_n 2, 1) := by decide +kernel
theorem dX0_permute_43 : decode cX0_permute 43 = .ok (.iconst 1, 1) := by decide +kernel
theorem dX0_permute_44 : decode cX0_permute 44 = .ok (.iadd, 1) := by decide +kernel
theorem dX0_permute_45 : decode cX0_permute 45 = .ok (.if_icmp .le 24, 3) := by decide +kernel
theorem dX0_permute_48 : decode cX0_permute 48 = .ok (.aload_n 0, 1) := by decide +kernel
theorem dX0_permute_49 : decode cX0_permute 49 = .ok (.getfield 18, 3) := by decide +kernel
theorem dX0_permute_52 : decode cX0_permute 52 = .ok (.iload_n 3, 1) := by decide +kernel
theorem dX0_permute_53 : decode cX0_permute 53 = .ok (.iaload, 1) := by decide +kernel
theorem dX0_permute_54 : decode cX0_permute 54 = .ok (.aload_n 0, 1) := by decide +kernel
theorem dX0_permute_55 : decode cX0_permute 55 = .ok (.getfield 18, 3) := by decide +kernel
theorem dX0_permute_58 : decode cX0_permute 58 = .ok (.iload_n 2, 1) := by decide +kernel
theorem dX0_permute_59 : decode cX0_permute 59 = .ok (.iaload, 1) := by decide +kernel
theorem dX0_permute_60 : decode cX0_permute 60 = .ok (.if_icmp .ge 9, 3) := by decide +kernel
theorem dX0_permute_63 : decode cX0_permute 63 = .ok (.iinc 3 (-1), 3) := by decide +kernel
theorem dX0_permute_66 : decode cX0_permute 66 = .ok (.goto (-25), 3) := by decide +kernel
theorem dX0_permute_69 : decode cX0_permute 69 = .ok (.aload_n 0, 1) := by decide +kernel
theorem dX0_permute_70 : decode cX0_permute 70 = .ok (.iload_n 2, 1) := by decide +kernel
theorem dX0_permute_71 : decode cX0_permute 71 = .ok (.iload_n 3, 1) := by decide +kernel
theorem dX0_permute_72 : decode cX0_permute 72 = .ok (.invokevirtual 85, 3) := by decide +kernel
theorem dX0_permute_75 : decode cX0_permute 75 = .ok (.iload_n 2, 1) := by decide +kernel
theorem dX0_permute_76 : decode cX0_permute 76 = .ok (.iconst 1, 1) := by decide +kernel
theorem dX0_permute_77 : decode cX0_permute 77 = .ok (.iadd, 1) := by decide +kernel
theorem dX0_permute_78 : decode cX0_permute 78 = .ok (.istore 4, 2) := by decide +kernel
theorem dX0_permute_80 : decode cX0_permute 80 = .ok (.iload_n 1, 1) := by decide +kernel
theorem dX0_permute_81 : decode cX0_permute 81 = .ok (.iconst 1, 1) := by decide +kernel
theorem dX0_permute_82 : decode cX0_permute 82 = .ok (.isub, 1) := by decide +kernel
theorem dX0_permute_83 : decode cX0_permute 83 = .ok (.istore 5, 2) := by decide +kernel
theorem dX0_permute_85 : decode cX0_permute 85 = .ok (.iload 4, 2) := by decide +kernel
theorem dX0_permute_87 : decode cX0_permute 87 = .ok (.iload 5, 2) := by decide +kernel
theorem dX0_permute_89 : decode cX0_permute 89 = .ok (.if_icmp .ge 20, 3) := by decide +kernel
theorem dX0_permute_92 : decode cX0_permute 92 = .ok (.aload_n 0, 1) := by decide +kernel
theorem dX0_permute_93 : decode cX0_permute 93 = .ok (.iload 4, 2) := by decide +kernel
theorem dX0_permute_95 : decode cX0_permute 95 = .ok (.iload 5, 2) := by decide +kernel
theorem dX0_permute_97 : decode cX0_permute 97 = .ok (.invokevirtual 85, 3) := by decide +kernel
theorem dX0_permute_100 : decode cX0_permute 100 = .ok (.iinc 4 1, 3) := by decide +kernel
theorem dX0_permute_103 : decode cX0_permute 103 = .ok (.iinc 5 (-1), 3) := by decide +kernel
theorem dX0_permute_106 : decode cX0_permute 106 = .ok (.goto (-21), 3) := by decide +kernel
theorem dX0_permute_109 : decode cX0_permute 109 = .ok (.iconst 1, 1) := by decide +kernel
theorem dX0_permute_110 : decode cX0_permute 110 = .ok (.ireturn, 1) := by decide +kernel
theorem dX0_swap_0 : decode cX0_swap 0 = .ok (.aload_n 0, 1) := by decide +kernel
theorem dX0_swap_1 : decode cX0_swap 1 = .ok (.getfield 18, 3) := by decide +kernel
theorem dX0_swap_4 : decode cX0_swap 4 = .ok (.iload_n 1, 1) := by decide +kernel
theorem dX0_swap_5 : decode cX0_swap 5 = .ok (.iaload, 1) := by decide +kernel
theorem dX0_swap_6 : decode cX0_swap 6 = .ok (.istore_n 3, 1) := by decide +kernel
theorem dX0_swap_7 : decode cX0_swap 7 = .ok (.aload_n 0, 1) := by decide +kernel
theorem dX0_swap_8 : decode cX0_swap 8 = .ok (.getfield 18, 3) := by decide +kernel
theorem dX0_swap_11 : decode cX0_swap 11 = .ok (.iload_n 1, 1) := by decide +kernel
theorem dX0_swap_12 : decode cX0_swap 12 = .ok (.aload_n 0, 1) := by decide +kernel
theorem dX0_swap_13 : decode cX0_swap 13 = .ok (.getfield 18, 3) := by decide +kernel
theorem dX0_swap_16 : decode cX0_swap 16 = .ok (.iload_n 2, 1) := by decide +kernel
theorem dX0_swap_17 : decode cX0_swap 17 = .ok (.iaload, 1) := by decide +kernel
theorem dX0_swap_18 : decode cX0_swap 18 = .ok (.iastore, 1) := by decide +kernel
theorem dX0_swap_19 : decode cX0_swap 19 = .ok (.aload_n 0, 1) := by decide +kernel
theorem dX0_swap_20 : decode cX0_swap 20 = .ok (.getfield 18, 3) := by decide +kernel
theorem dX0_swap_23 : decode cX0_swap 23 = .ok (.iload_n 2, 1) := by decide +kernel
theorem dX0_swap_24 : decode cX0_swap 24 = .ok (.iload_n 3, 1) := by decide +kernel
theorem dX0_swap_25 : decode cX0_swap 25 = .ok (.iastore, 1) := by decide +kernel
theorem dX0_swap_26 : decode cX0_swap 26 = .ok (.return_, 1) := by decide +kernel
theorem dX1_init_0 : decode cX1_init 0 = .ok (.aload_n 0, 1) := by decide +kernel
theorem dX1_init_1 : decode cX1_init 1 = .ok (.invokespecial 3, 3) := by decide +kernel
theorem dX1_init_4 : decode cX1_init 4 = .ok (.aload_n 0, 1) := by decide +kernel
theorem dX1_init_5 : decode cX1_init 5 = .ok (.iconst 0, 1) := by decide +kernel
theorem dX1_init_6 : decode cX1_init 6 = .ok (.putfield 9, 3) := by decide +kernel
theorem dX1_init_9 : decode cX1_init 9 = .ok (.aload_n 0, 1) := by decide +kernel
theorem dX1_init_10 : decode cX1_init 10 = .ok (.iconst 0, 1) := by decide +kernel
theorem dX1_init_11 : decode cX1_init 11 = .ok (.putfield 15, 3) := by decide +kernel
theorem dX1_init_14 : decode cX1_init 14 = .ok (.aload_n 0, 1) := by decide +kernel
theorem dX1_init_15 : decode cX1_init 15 = .ok (.iconst 0, 1) := by decide +kernel
theorem dX1_init_16 : decode cX1_init 16 = .ok (.putfield 18, 3) := by decide +kernel
theorem dX1_init_19 : decode cX1_init 19 = .ok (.aload_n 0, 1) := by decide +kernel
theorem dX1_init_20 : decode cX1_init 20 = .ok (.bipush 8, 2) := by decide +kernel
theorem dX1_init_22 : decode cX1_init 22 = .ok (.newarray .long, 2) := by decide +kernel
theorem dX1_init_24 : decode cX1_init 24 = .ok (.putfield 21, 3) := by decide +kernel
theorem dX1_init_27 : decode cX1_init 27 = .ok (.aload_n 0, 1) := by decide +kernel
theorem dX1_init_28 : decode cX1_init 28 = .ok (.bipush 6, 2) := by decide +kernel
theorem dX1_init_30 : decode cX1_init 30 = .ok (.newarray .long, 2) := by decide +kernel
theorem dX1_init_32 : decode cX1_init 32 = .ok (.putfield 25, 3) := by decide +kernel
theorem dX1_init_35 : decode cX1_init 35 = .ok (.aload_n 0, 1) := by decide +kernel
theorem dX1_init_36 : decode cX1_init 36 = .ok (.bipush 6, 2) := by decide +kernel
theorem dX1_init_38 : decode cX1_init 38 = .ok (.newarray .long, 2) := by decide +kernel
theorem dX1_init_40 : decode cX1_init 40 = .ok (.putfield 28, 3) := by decide +kernel
theorem dX1_init_43 : decode cX1_init 43 = .ok (.aload_n 0, 1) := by decide +kernel
theorem dX1_init_44 : decode cX1_init 44 = .ok (.bipush 8, 2) := by decide +kernel
theorem dX1_init_46 : decode cX1_init 46 = .ok (.newarray .int, 2) := by decide +kernel
theorem dX1_init_48 : decode cX1_init 48 = .ok (.putfield 31, 3) := by decide +kernel
theorem dX1_init_51 : decode cX1_init 51 = .ok (.aload_n 0, 1) := by decide +kernel
theorem dX1_init_52 : decode cX1_init 52 = .ok (.iconst 0, 1) := by decide +kernel
theorem dX1_init_53 : decode cX1_init 53 = .ok (.putfield 35, 3) := by decide +kernel
theorem dX1_init_56 : decode cX1_init 56 = .ok (.aload_n 0, 1) := by decide +kernel
theorem dX1_init_57 : decode cX1_init 57 = .ok (.iconst 0, 1) := by decide +kernel
theorem dX1_init_58 : decode cX1_init 58 = .ok (.putfield 38, 3) := by decide +kernel
theorem dX1_init_61 : decode cX1_init 61 = .ok (.aload_n 0, 1) := by decide +kernel
theorem dX1_init_62 : decode cX1_init 62 = .ok (.bipush 6, 2) := by decide +kernel
theorem dX1_init_64 : decode cX1_init 64 = .ok (.newarray .int, 2) := by decide +kernel
theorem dX1_init_66 : decode cX1_init 66 = .ok (.putfield 41, 3) := by decide +kernel
theorem dX1_init_69 : decode cX1_init 69 = .ok (.aload_n 0, 1) := by decide +kernel
theorem dX1_init_70 : decode cX1_init 70 = .ok (.bipush 6, 2) := by decide +kernel
theorem dX1_init_72 : decode cX1_init 72 = .ok (.newarray .int, 2) := by decide +kernel
theorem dX1_init_74 : decode cX1_init 74 = .ok (.putfield 44, 3) := by decide +kernel
theorem dX1_init_77 : decode cX1_init 77 = .ok (.aload_n 0, 1) := by decide +kernel
theorem dX1_init_78 : decode cX1_init 78 = .ok (.new 47, 3) := by decide +kernel
theorem dX1_init_81 : decode cX1_init 81 = .ok (.dup, 1) := by decide +kernel
theorem dX1_init_82 : decode cX1_init 82 = .ok (.invokespecial 49, 3) := by decide +kernel
theorem dX1_init_85 : decode cX1_init 85 = .ok (.putfield 50, 3) := by decide +kernel
theorem dX1_init_88 : decode cX1_init 88 = .ok (.aload_n 0, 1) := by decide +kernel
theorem dX1_init_89 : decode cX1_init 89 = .ok (.new 54, 3) := by decide +kernel
theorem dX1_init_92 : decode cX1_init 92 = .ok (.dup, 1) := by decide +kernel
theorem dX1_init_93 : decode cX1_init 93 = .ok (.invokespecial 56, 3) := by decide +kernel
theorem dX1_init_96 : decode cX1_init 96 = .ok (.putfield 57, 3) := by decide +kernel
theorem dX1_init_99 : decode cX1_init 99 = .ok (.return_, 1) := by decide +kernel
theorem dX1_clear_0 : decode cX1_clear 0 = .ok (.aload_n 0, 1) := by decide +kernel
theorem dX1_clear_1 : decode cX1_clear 1 = .ok (.iconst 0, 1) := by decide +kernel
theorem dX1_clear_2 : decode cX1_clear 2 = .ok (.putfield 9, 3) := by decide +kernel
theorem dX1_clear_5 : decode cX1_clear 5 = .ok (.aload_n 0, 1) := by decide +kernel
theorem dX1_clear_6 : decode cX1_clear 6 = .ok (.iconst 0, 1) := by decide +kernel
theorem dX1_clear_7 : decode cX1_clear 7 = .ok (.putfield 15, 3) := by decide +kernel
theorem dX1_clear_10 : decode cX1_clear 10 = .ok (.aload_n 0, 1) := by decide +kernel
theorem dX1_clear_11 : decode cX1_clear 11 = .ok (.iconst 0, 1) := by decide +kernel
theorem dX1_clear_12 : decode cX1_clear 12 = .ok (.putfield 18, 3) := by decide +kernel
theorem dX1_clear_15 : decode cX1_clear 15 = .ok (.aload_n 0, 1) := by decide +kernel
theorem dX1_clear_16 : decode cX1_clear 16 = .ok (.iconst 0, 1) := by decide +kernel
theorem dX1_clear_17 : decode cX1_clear 17 = .ok (.putfield 35, 3) := by decide +kernel
theorem dX1_clear_20 : decode cX1_clear 20 = .ok (.aload_n 0, 1) := by decide +kernel
theorem dX1_clear_21 : decode cX1_clear 21 = .ok (.iconst 0, 1) := by decide +kernel
theorem dX1_clear_22 : decode cX1_clear 22 = .ok (.putfield 38, 3) := by decide +kernel
theorem dX1_clear_25 : decode cX1_clear 25 = .ok (.aload_n 0, 1) := by decide +kernel
theorem dX1_clear_26 : decode cX1_clear 26 = .ok (.getfield 50, 3) := by decide +kernel
theorem dX1_clear_29 : decode cX1_clear 29 = .ok (.invokevirtual 61, 3) := by decide +kernel
theorem dX1_clear_32 : decode cX1_clear 32 = .ok (.aload_n 0, 1) := by decide +kernel
theorem dX1_clear_33 : decode cX1_clear 33 = .ok (.getfield 57, 3) := by decide +kernel
theorem dX1_clear_36 : decode cX1_clear 36 = .ok (.invokevirtual 64, 3) := by decide +kernel
theorem dX1_clear_39 : decode cX1_clear 39 = .ok (.return_, 1) := by decide +kernel
theorem dX1_copyFrom_0 : decode cX1_copyFrom 0 = .ok (.aload_n 0, 1) := by decide +kernel
theorem dX1_copyFrom_1 : decode cX1_copyFrom 1 = .ok (.aload_n 1, 1) := by decide +kernel
theorem dX1_copyFrom_2 : decode cX1_copyFrom 2 = .ok (.getfield 9, 3) := by decide +kernel
theorem dX1_copyFrom_5 : decode cX1_copyFrom 5 = .ok (.putfield 9, 3) := by decide +kernel
theorem dX1_copyFrom_8 : decode cX1_copyFrom 8 = .ok (.aload_n 0, 1) := by decide +kernel
theorem dX1_copyFrom_9 : decode cX1_copyFrom 9 = .ok (.aload_n 1, 1) := by decide +kernel
theorem dX1_copyFrom_10 : decode cX1_copyFrom 10 = .ok (.getfield 15, 3) := by decide +kernel
theorem dX1_copyFrom_13 : decode cX1_copyFrom 13 = .ok (.putfield 15, 3) := by decide +kernel
theorem dX1_copyFrom_16 : decode cX1_copyFrom 16 = .ok (.aload_n 0, 1) := by decide +kernel
theorem dX1_copyFrom_17 : decode cX1_copyFrom 17 = .ok (.aload_n 1, 1) := by decide +kernel
theorem dX1_copyFrom_18 : decode cX1_copyFrom 18 = .ok (.getfield 18, 3) := by decide +kernel
theorem dX1_copyFrom_21 : decode cX1_copyFrom 21 = .ok (.putfield 18, 3) := by decide +kernel
theorem dX1_copyFrom_24 : decode cX1_copyFrom 24 = .ok (.aload_n 0, 1) := by decide +kernel
theorem dX1_copyFrom_25 : decode cX1_copyFrom 25 = .ok (.aload_n 1, 1) := by decide +kernel
theorem dX1_copyFrom_26 : decode cX1_copyFrom 26 = .ok (.getfield 35, 3) := by decide +kernel
theorem dX1_copyFrom_29 : decode cX1_copyFrom 29 = .ok (.putfield 35, 3) := by decide +kernel
theorem dX1_copyFrom_32 : decode cX1_copyFrom 32 = .ok (.aload_n 0, 1) := by decide +kernel
theorem dX1_copyFrom_33 : decode cX1_copyFrom 33 = .ok (.aload_n 1, 1) := by decide +kernel
theorem dX1_copyFrom_34 : decode cX1_copyFrom 34 = .ok (.getfield 38, 3) := by decide +kernel
theorem dX1_copyFrom_37 : decode cX1_copyFrom 37 = .ok (.putfield 38, 3) := by decide +kernel
theorem dX1_copyFrom_40 : decode cX1_copyFrom 40 = .ok (.aload_n 1, 1) := by decide +kernel
theorem dX1_copyFrom_41 : decode cX1_copyFrom 41 = .ok (.getfield 21, 3) := by decide +kernel
theorem dX1_copyFrom_44 : decode cX1_copyFrom 44 = .ok (.iconst 0, 1) := by decide +kernel
theorem dX1_copyFrom_45 : decode cX1_copyFrom 45 = .ok (.aload_n 0, 1) := by decide +kernel
theorem dX1_copyFrom_46 : decode cX1_copyFrom 46 = .ok (.getfield 21, 3) := by decide +kernel
theorem dX1_copyFrom_49 : decode cX1_copyFrom 49 = .ok (.iconst 0, 1) := by decide +kernel
theorem dX1_copyFrom_50 : decode cX1_copyFrom 50 = .ok (.bipush 8, 2) := by decide +kernel
theorem dX1_copyFrom_52 : decode cX1_copyFrom 52 = .ok (.invokestatic 65, 3) := by decide +kernel
theorem dX1_copyFrom_55 : decode cX1_copyFrom 55 = .ok (.aload_n 1, 1) := by decide +kernel
theorem dX1_copyFrom_56 : decode cX1_copyFrom 56 = .ok (.getfield 25, 3) := by decide +kernel
theorem dX1_copyFrom_59 : decode cX1_copyFrom 59 = .ok (.iconst 0, 1) := by decide +kernel
theorem dX1_copyFrom_60 : decode cX1_copyFrom 60 = .ok (.aload_n 0, 1) := by decide +kernel
theorem dX1_copyFrom_61 : decode cX1_copyFrom 61 = .ok (.getfield 25, 3) := by decide +kernel
theorem dX1_copyFrom_64 : decode cX1_copyFrom 64 = .ok (.iconst 0, 1) := by decide +kernel
theorem dX1_copyFrom_65 : decode cX1_copyFrom 65 = .ok (.bipush 6, 2) := by decide +kernel
theorem dX1_copyFrom_67 : decode cX1_copyFrom 67 = .ok (.invokestatic 65, 3) := by decide +kernel
theorem dX1_copyFrom_70 : decode cX1_copyFrom 70 = .ok (.aload_n 1, 1) := by decide +kernel
theorem dX1_copyFrom_71 : decode cX1_copyFrom 71 = .ok (.getfield 28, 3) := by decide +kernel
theorem dX1_copyFrom_74 : decode cX1_copyFrom 74 = .ok (.iconst 0, 1) := by decide +kernel
theorem dX1_copyFrom_75 : decode cX1_copyFrom 75 = .ok (.aload_n 0, 1) := by decide +kernel
theorem dX1_copyFrom_76 : decode cX1_copyFrom 76 = .ok (.getfield 28, 3) := by decide +kernel
theorem dX1_copyFrom_79 : decode cX1_copyFrom 79 = .ok (.iconst 0, 1) := by decide +kernel
theorem dX1_copyFrom_80 : decode cX1_copyFrom 80 = .ok (.bipush 6, 2) := by decide +kernel
theorem dX1_copyFrom_82 : decode cX1_copyFrom 82 = .ok (.invokestatic 65, 3) := by decide +kernel
theorem dX1_copyFrom_85 : decode cX1_copyFrom 85 = .ok (.aload_n 1, 1) := by decide +kernel
theorem dX1_copyFrom_86 : decode cX1_copyFrom 86 = .ok (.getfield 31, 3) := by decide +kernel
theorem dX1_copyFrom_89 : decode cX1_copyFrom 89 = .ok (.iconst 0, 1) := by decide +kernel
theorem dX1_copyFrom_90 : decode cX1_copyFrom 90 = .ok (.aload_n 0, 1) := by decide +kernel
theorem dX1_copyFrom_91 : decode cX1_copyFrom 91 = .ok (.getfield 31, 3) := by decide +kernel
theorem dX1_copyFrom_94 : decode cX1_copyFrom 94 = .ok (.iconst 0, 1) := by decide +kernel
theorem dX1_copyFrom_95 : decode cX1_copyFrom 95 = .ok (.bipush 8, 2) := by decide +kernel
theorem dX1_copyFrom_97 : decode cX1_copyFrom 97 = .ok (.invokestatic 65, 3) := by decide +kernel
theorem dX1_copyFrom_100 : decode cX1_copyFrom 100 = .ok (.aload_n 1, 1) := by decide +kernel
theorem dX1_copyFrom_101 : decode cX1_copyFrom 101 = .ok (.getfield 41, 3) := by decide +kernel
theorem dX1_copyFrom_104 : decode cX1_copyFrom 104 = .ok (.iconst 0, 1) := by decide +kernel
theorem dX1_copyFrom_105 : decode cX1_copyFrom 105 = .ok (.aload_n 0, 1) := by decide +kernel
theorem dX1_copyFrom_106 : decode cX1_copyFrom 106 = .ok (.getfield 41, 3) := by decide +kernel
theorem dX1_copyFrom_109 : decode cX1_copyFrom 109 = .ok (.iconst 0, 1) := by decide +kernel
theorem dX1_copyFrom_110 : decode cX1_copyFrom 110 = .ok (.bipush 6, 2) := by decide +kernel
theorem dX1_copyFrom_112 : decode cX1_copyFrom 112 = .ok (.invokestatic 65, 3) := by decide +kernel
theorem dX1_copyFrom_115 : decode cX1_copyFrom 115 = .ok (.aload_n 1, 1) := by decide +kernel
theorem dX1_copyFrom_116 : decode cX1_copyFrom 116 = .ok (.getfield 44, 3) := by decide +kernel
theorem dX1_copyFrom_119 : decode cX1_copyFrom 119 = .ok (.iconst 0, 1) := by decide +kernel
theorem dX1_copyFrom_120 : decode cX1_copyFrom 120 = .ok (.aload_n 0, 1) := by decide +kernel
theorem dX1_copyFrom_121 : decode cX1_copyFrom 121 = .ok (.getfield 44, 3) := by decide +kernel
theorem dX1_copyFrom_124 : decode cX1_copyFrom 124 = .ok (.iconst 0, 1) := by decide +kernel
theorem dX1_copyFrom_125 : decode cX1_copyFrom 125 = .ok (.bipush 6, 2) := by decide +kernel
theorem dX1_copyFrom_127 : decode cX1_copyFrom 127 = .ok (.invokestatic 65, 3) := by decide +kernel
theorem dX1_copyFrom_130 : decode cX1_copyFrom 130 = .ok (.aload_n 0, 1) := by decide +kernel
theorem dX1_copyFrom_131 : decode cX1_copyFrom 131 = .ok (.getfield 50, 3) := by decide +kernel
theorem dX1_copyFrom_134 : decode cX1_copyFrom 134 = .ok (.aload_n 1, 1) := by decide +kernel
theorem dX1_copyFrom_135 : decode cX1_copyFrom 135 = .ok (.getfield 50, 3) := by decide +kernel
theorem dX1_copyFrom_138 : decode cX1_copyFrom 138 = .ok (.invokevirtual 71, 3) := by decide +kernel
theorem dX1_copyFrom_141 : decode cX1_copyFrom 141 = .ok (.aload_n 0, 1) := by decide +kernel
theorem dX1_copyFrom_142 : decode cX1_copyFrom 142 = .ok (.getfield 57, 3) := by decide +kernel
theorem dX1_copyFrom_145 : decode cX1_copyFrom 145 = .ok (.aload_n 1, 1) := by decide +kernel
theorem dX1_copyFrom_146 : decode cX1_copyFrom 146 = .ok (.getfield 57, 3) := by decide +kernel
theorem dX1_copyFrom_149 : decode cX1_copyFrom 149 = .ok (.invokevirtual 75, 3) := by decide +kernel
theorem dX1_copyFrom_152 : decode cX1_copyFrom 152 = .ok (.return_, 1) := by decide +kernel
theorem dX1_indexOf_0 : decode cX1_indexOf 0 = .ok (.iconst 0, 1) := by decide +kernel
theorem dX1_indexOf_1 : decode cX1_indexOf 1 = .ok (.istore 4, 2) := by decide +kernel
theorem dX1_indexOf_3 : decode cX1_indexOf 3 = .ok (.iload 4, 2) := by decide +kernel
theorem dX1_indexOf_5 : decode cX1_indexOf 5 = .ok (.iload_n 1, 1) := by decide +kernel
theorem dX1_indexOf_6 : decode cX1_indexOf 6 = .ok (.if_icmp .ge 21, 3) := by decide +kernel
theorem dX1_indexOf_9 : decode cX1_indexOf 9 = .ok (.aload_n 0, 1) := by decide +kernel
theorem dX1_indexOf_10 : decode cX1_indexOf 10 = .ok (.iload 4, 2) := by decide +kernel
theorem dX1_indexOf_12 : decode cX1_indexOf 12 = .ok (.laload, 1) := by decide +kernel
theorem dX1_indexOf_13 : decode cX1_indexOf 13 = .ok (.lload_n 2, 1) := by decide +kernel
theorem dX1_indexOf_14 : decode cX1_indexOf 14 = .ok (.lcmp, 1) := by decide +kernel
theorem dX1_indexOf_15 : decode cX1_indexOf 15 = .ok (.ifCond .ne 6, 3) := by decide +kernel
theorem dX1_indexOf_18 : decode cX1_indexOf 18 = .ok (.iload 4, 2) := by decide +kernel
theorem dX1_indexOf_20 : decode cX1_indexOf 20 = .ok (.ireturn, 1) := by decide +kernel
theorem dX1_indexOf_21 : decode cX1_indexOf 21 = .ok (.iinc 4 1, 3) := by decide +kernel
theorem dX1_indexOf_24 : decode cX1_indexOf 24 = .ok (.goto (-21), 3) := by decide +kernel
theorem dX1_indexOf_27 : decode cX1_indexOf 27 = .ok (.iconst (-1), 1) := by decide +kernel
theorem dX1_indexOf_28 : decode cX1_indexOf 28 = .ok (.ireturn, 1) := by decide +kernel
theorem dX1_isTaken_0 : decode cX1_isTaken 0 = .ok (.aload_n 0, 1) := by decide +kernel
theorem dX1_isTaken_1 : decode cX1_isTaken 1 = .ok (.getfield 21, 3) := by decide +kernel
theorem dX1_isTaken_4 : decode cX1_isTaken 4 = .ok (.aload_n 0, 1) := by decide +kernel
theorem dX1_isTaken_5 : decode cX1_isTaken 5 = .ok (.getfield 9, 3) := by decide +kernel
theorem dX1_isTaken_8 : decode cX1_isTaken 8 = .ok (.lload_n 1, 1) := by decide +kernel
theorem dX1_isTaken_9 : decode cX1_isTaken 9 = .ok (.invokestatic 78, 3) := by decide +kernel
theorem dX1_isTaken_12 : decode cX1_isTaken 12 = .ok (.iconst (-1), 1) := by decide +kernel
theorem dX1_isTaken_13 : decode cX1_isTaken 13 = .ok (.if_icmp .ne 35, 3) := by decide +kernel
theorem dX1_isTaken_16 : decode cX1_isTaken 16 = .ok (.aload_n 0, 1) := by decide +kernel
theorem dX1_isTaken_17 : decode cX1_isTaken 17 = .ok (.getfield 25, 3) := by decide +kernel
theorem dX1_isTaken_20 : decode cX1_isTaken 20 = .ok (.aload_n 0, 1) := by decide +kernel
theorem dX1_isTaken_21 : decode cX1_isTaken 21 = .ok (.getfield 15, 3) := by decide +kernel
theorem dX1_isTaken_24 : decode cX1_isTaken 24 = .ok (.lload_n 1, 1) := by decide +kernel
theorem dX1_isTaken_25 : decode cX1_isTaken 25 = .ok (.invokestatic 78, 3) := by decide +kernel
theorem dX1_isTaken_28 : decode cX1_isTaken 28 = .ok (.iconst (-1), 1) := by decide +kernel
theorem dX1_isTaken_29 : decode cX1_isTaken 29 = .ok (.if_icmp .ne 19, 3) := by decide +kernel
theorem dX1_isTaken_32 : decode cX1_isTaken 32 = .ok (.aload_n 0, 1) := by decide +kernel
theorem dX1_isTaken_33 : decode cX1_isTaken 33 = .ok (.getfield 28, 3) := by decide +kernel
theorem dX1_isTaken_36 : decode cX1_isTaken 36 = .ok (.aload_n 0, 1) := by decide +kernel
theorem dX1_isTaken_37 : decode cX1_isTaken 37 = .ok (.getfield 18, 3) := by decide +kernel
theorem dX1_isTaken_40 : decode cX1_isTaken 40 = .ok (.lload_n 1, 1) := by decide +kernel
theorem dX1_isTaken_41 : decode cX1_isTaken 41 = .ok (.invokestatic 78, 3) := by decide +kernel
theorem dX1_isTaken_44 : decode cX1_isTaken 44 = .ok (.iconst (-1), 1) := by decide +kernel
theorem dX1_isTaken_45 : decode cX1_isTaken 45 = .ok (.if_icmp .eq 7, 3) := by decide +kernel
theorem dX1_isTaken_48 : decode cX1_isTaken 48 = .ok (.iconst 1, 1) := by decide +kernel
theorem dX1_isTaken_49 : decode cX1_isTaken 49 = .ok (.goto 4, 3) := by decide +kernel
theorem dX1_isTaken_52 : decode cX1_isTaken 52 = .ok (.iconst 0, 1) := by decide +kernel
theorem dX1_isTaken_53 : decode cX1_isTaken 53 = .ok (.ireturn, 1) := by decide +kernel
theorem dX1_addCell_0 : decode cX1_addCell 0 = .ok (.aload_n 0, 1) := by decide +kernel
theorem dX1_addCell_1 : decode cX1_addCell 1 = .ok (.getfield 21, 3) := by decide +kernel
theorem dX1_addCell_4 : decode cX1_addCell 4 = .ok (.aload_n 0, 1) := by decide +kernel
theorem dX1_addCell_5 : decode cX1_addCell 5 = .ok (.getfield 9, 3) := by decide +kernel
theorem dX1_addCell_8 : decode cX1_addCell 8 = .ok (.lload_n 1, 1) := by decide +kernel
theorem dX1_addCell_9 : decode cX1_addCell 9 = .ok (.lastore, 1) := by decide +kernel
theorem dX1_addCell_10 : decode cX1_addCell 10 = .ok (.aload_n 0, 1) := by decide +kernel
theorem dX1_addCell_11 : decode cX1_addCell 11 = .ok (.getfield 31, 3) := by decide +kernel
theorem dX1_addCell_14 : decode cX1_addCell 14 = .ok (.aload_n 0, 1) := by decide +kernel
theorem dX1_addCell_15 : decode cX1_addCell 15 = .ok (.getfield 9, 3) := by decide +kernel
theorem dX1_addCell_18 : decode cX1_addCell 18 = .ok (.iload_n 3, 1) := by decide +kernel
theorem dX1_addCell_19 : decode cX1_addCell 19 = .ok (.iastore, 1) := by decide +kernel
theorem dX1_addCell_20 : decode cX1_addCell 20 = .ok (.aload_n 0, 1) := by decide +kernel
theorem dX1_addCell_21 : decode cX1_addCell 21 = .ok (.dup, 1) := by decide +kernel
theorem dX1_addCell_22 : decode cX1_addCell 22 = .ok (.getfield 35, 3) := by decide +kernel
theorem dX1_addCell_25 : decode cX1_addCell 25 = .ok (.iload 4, 2) := by decide +kernel
theorem dX1_addCell_27 : decode cX1_addCell 27 = .ok (.ifCond .eq 12, 3) := by decide +kernel
theorem dX1_addCell_30 : decode cX1_addCell 30 = .ok (.iconst 1, 1) := by decide +kernel
theorem dX1_addCell_31 : decode cX1_addCell 31 = .ok (.aload_n 0, 1) := by decide +kernel
theorem dX1_addCell_32 : decode cX1_addCell 32 = .ok (.getfield 9, 3) := by decide +kernel
theorem dX1_addCell_35 : decode cX1_addCell 35 = .ok (.ishl, 1) := by decide +kernel
theorem dX1_addCell_36 : decode cX1_addCell 36 = .ok (.goto 4, 3) := by decide +kernel
theorem dX1_addCell_39 : decode cX1_addCell 39 = .ok (.iconst 0, 1) := by decide +kernel
theorem dX1_addCell_40 : decode cX1_addCell 40 = .ok (.ior, 1) := by decide +kernel
theorem dX1_addCell_41 : decode cX1_addCell 41 = .ok (.putfield 35, 3) := by decide +kernel
theorem dX1_addCell_44 : decode cX1_addCell 44 = .ok (.aload_n 0, 1) := by decide +kernel
theorem dX1_addCell_45 : decode cX1_addCell 45 = .ok (.dup, 1) := by decide +kernel
theorem dX1_addCell_46 : decode cX1_addCell 46 = .ok (.getfield 38, 3) := by decide +kernel
theorem dX1_addCell_49 : decode cX1_addCell 49 = .ok (.iload 5, 2) := by decide +kernel
theorem dX1_addCell_51 : decode cX1_addCell 51 = .ok (.ifCond .eq 12, 3) := by decide +kernel
theorem dX1_addCell_54 : decode cX1_addCell 54 = .ok (.iconst 1, 1) := by decide +kernel
theorem dX1_addCell_55 : decode cX1_addCell 55 = .ok (.aload_n 0, 1) := by decide +kernel
theorem dX1_addCell_56 : decode cX1_addCell 56 = .ok (.getfield 9, 3) := by decide +kernel
theorem dX1_addCell_59 : decode cX1_addCell 59 = .ok (.ishl, 1) := by decide +kernel
theorem dX1_addCell_60 : decode cX1_addCell 60 = .ok (.goto 4, 3) := by decide +kernel
theorem dX1_addCell_63 : decode cX1_addCell 63 = .ok (.iconst 0, 1) := by decide +kernel
theorem dX1_addCell_64 : decode cX1_addCell 64 = .ok (.ior, 1) := by decide +kernel
theorem dX1_addCell_65 : decode cX1_addCell 65 = .ok (.putfield 38, 3) := by decide +kernel
theorem dX1_addCell_68 : decode cX1_addCell 68 = .ok (.aload_n 0, 1) := by decide +kernel
theorem dX1_addCell_69 : decode cX1_addCell 69 = .ok (.dup, 1) := by decide +kernel
theorem dX1_addCell_70 : decode cX1_addCell 70 = .ok (.getfield 9, 3) := by decide +kernel
theorem dX1_addCell_73 : decode cX1_addCell 73 = .ok (.iconst 1, 1) := by decide +kernel
theorem dX1_addCell_74 : decode cX1_addCell 74 = .ok (.iadd, 1) := by decide +kernel
theorem dX1_addCell_75 : decode cX1_addCell 75 = .ok (.putfield 9, 3) := by decide +kernel
theorem dX1_addCell_78 : decode cX1_addCell 78 = .ok (.return_, 1) := by decide +kernel
theorem dX1_addSecret_0 : decode cX1_addSecret 0 = .ok (.aload_n 0, 1) := by decide +kernel
theorem dX1_addSecret_1 : decode cX1_addSecret 1 = .ok (.getfield 25, 3) := by decide +kernel
theorem dX1_addSecret_4 : decode cX1_addSecret 4 = .ok (.aload_n 0, 1) := by decide +kernel
theorem dX1_addSecret_5 : decode cX1_addSecret 5 = .ok (.getfield 15, 3) := by decide +kernel
theorem dX1_addSecret_8 : decode cX1_addSecret 8 = .ok (.lload_n 1, 1) := by decide +kernel
theorem dX1_addSecret_9 : decode cX1_addSecret 9 = .ok (.lastore, 1) := by decide +kernel
theorem dX1_addSecret_10 : decode cX1_addSecret 10 = .ok (.aload_n 0, 1) := by decide +kernel
theorem dX1_addSecret_11 : decode cX1_addSecret 11 = .ok (.getfield 41, 3) := by decide +kernel
theorem dX1_addSecret_14 : decode cX1_addSecret 14 = .ok (.aload_n 0, 1) := by decide +kernel
theorem dX1_addSecret_15 : decode cX1_addSecret 15 = .ok (.getfield 15, 3) := by decide +kernel
theorem dX1_addSecret_18 : decode cX1_addSecret 18 = .ok (.iload_n 3, 1) := by decide +kernel
theorem dX1_addSecret_19 : decode cX1_addSecret 19 = .ok (.iastore, 1) := by decide +kernel
theorem dX1_addSecret_20 : decode cX1_addSecret 20 = .ok (.aload_n 0, 1) := by decide +kernel
theorem dX1_addSecret_21 : decode cX1_addSecret 21 = .ok (.dup, 1) := by decide +kernel
theorem dX1_addSecret_22 : decode cX1_addSecret 22 = .ok (.getfield 15, 3) := by decide +kernel
theorem dX1_addSecret_25 : decode cX1_addSecret 25 = .ok (.iconst 1, 1) := by decide +kernel
theorem dX1_addSecret_26 : decode cX1_addSecret 26 = .ok (.iadd, 1) := by decide +kernel
theorem dX1_addSecret_27 : decode cX1_addSecret 27 = .ok (.putfield 15, 3) := by decide +kernel
theorem dX1_addSecret_30 : decode cX1_addSecret 30 = .ok (.return_, 1) := by decide +kernel
theorem dX1_addPage_0 : decode cX1_addPage 0 = .ok (.aload_n 0, 1) := by decide +kernel
theorem dX1_addPage_1 : decode cX1_addPage 1 = .ok (.getfield 28, 3) := by decide +kernel
theorem dX1_addPage_4 : decode cX1_addPage 4 = .ok (.aload_n 0, 1) := by decide +kernel
theorem dX1_addPage_5 : decode cX1_addPage 5 = .ok (.getfield 18, 3) := by decide +kernel
theorem dX1_addPage_8 : decode cX1_addPage 8 = .ok (.lload_n 1, 1) := by decide +kernel
theorem dX1_addPage_9 : decode cX1_addPage 9 = .ok (.lastore, 1) := by decide +kernel
theorem dX1_addPage_10 : decode cX1_addPage 10 = .ok (.aload_n 0, 1) := by decide +kernel
theorem dX1_addPage_11 : decode cX1_addPage 11 = .ok (.getfield 44, 3) := by decide +kernel
theorem dX1_addPage_14 : decode cX1_addPage 14 = .ok (.aload_n 0, 1) := by decide +kernel
theorem dX1_addPage_15 : decode cX1_addPage 15 = .ok (.getfield 18, 3) := by decide +kernel
theorem dX1_addPage_18 : decode cX1_addPage 18 = .ok (.iload_n 3, 1) := by decide +kernel
theorem dX1_addPage_19 : decode cX1_addPage 19 = .ok (.iastore, 1) := by decide +kernel
theorem dX1_addPage_20 : decode cX1_addPage 20 = .ok (.aload_n 0, 1) := by decide +kernel
theorem dX1_addPage_21 : decode cX1_addPage 21 = .ok (.dup, 1) := by decide +kernel
theorem dX1_addPage_22 : decode cX1_addPage 22 = .ok (.getfield 18, 3) := by decide +kernel
theorem dX1_addPage_25 : decode cX1_addPage 25 = .ok (.iconst 1, 1) := by decide +kernel
theorem dX1_addPage_26 : decode cX1_addPage 26 = .ok (.iadd, 1) := by decide +kernel
theorem dX1_addPage_27 : decode cX1_addPage 27 = .ok (.putfield 18, 3) := by decide +kernel
theorem dX1_addPage_30 : decode cX1_addPage 30 = .ok (.return_, 1) := by decide +kernel
theorem dX1_hasCell_0 : decode cX1_hasCell 0 = .ok (.iload_n 1, 1) := by decide +kernel
theorem dX1_hasCell_1 : decode cX1_hasCell 1 = .ok (.ifCond .lt 15, 3) := by decide +kernel
theorem dX1_hasCell_4 : decode cX1_hasCell 4 = .ok (.iload_n 1, 1) := by decide +kernel
theorem dX1_hasCell_5 : decode cX1_hasCell 5 = .ok (.aload_n 0, 1) := by decide +kernel
theorem dX1_hasCell_6 : decode cX1_hasCell 6 = .ok (.getfield 9, 3) := by decide +kernel
theorem dX1_hasCell_9 : decode cX1_hasCell 9 = .ok (.if_icmp .ge 7, 3) := by decide +kernel
theorem dX1_hasCell_12 : decode cX1_hasCell 12 = .ok (.iconst 1, 1) := by decide +kernel
theorem dX1_hasCell_13 : decode cX1_hasCell 13 = .ok (.goto 4, 3) := by decide +kernel
theorem dX1_hasCell_16 : decode cX1_hasCell 16 = .ok (.iconst 0, 1) := by decide +kernel
theorem dX1_hasCell_17 : decode cX1_hasCell 17 = .ok (.ireturn, 1) := by decide +kernel
theorem dX1_hasSecret_0 : decode cX1_hasSecret 0 = .ok (.iload_n 1, 1) := by decide +kernel
theorem dX1_hasSecret_1 : decode cX1_hasSecret 1 = .ok (.ifCond .lt 15, 3) := by decide +kernel
theorem dX1_hasSecret_4 : decode cX1_hasSecret 4 = .ok (.iload_n 1, 1) := by decide +kernel
theorem dX1_hasSecret_5 : decode cX1_hasSecret 5 = .ok (.aload_n 0, 1) := by decide +kernel
theorem dX1_hasSecret_6 : decode cX1_hasSecret 6 = .ok (.getfield 15, 3) := by decide +kernel
theorem dX1_hasSecret_9 : decode cX1_hasSecret 9 = .ok (.if_icmp .ge 7, 3) := by decide +kernel
theorem dX1_hasSecret_12 : decode cX1_hasSecret 12 = .ok (.iconst 1, 1) := by decide +kernel
theorem dX1_hasSecret_13 : decode cX1_hasSecret 13 = .ok (.goto 4, 3) := by decide +kernel
theorem dX1_hasSecret_16 : decode cX1_hasSecret 16 = .ok (.iconst 0, 1) := by decide +kernel
theorem dX1_hasSecret_17 : decode cX1_hasSecret 17 = .ok (.ireturn, 1) := by decide +kernel
theorem dX1_hasPage_0 : decode cX1_hasPage 0 = .ok (.iload_n 1, 1) := by decide +kernel
theorem dX1_hasPage_1 : decode cX1_hasPage 1 = .ok (.ifCond .lt 15, 3) := by decide +kernel
theorem dX1_hasPage_4 : decode cX1_hasPage 4 = .ok (.iload_n 1, 1) := by decide +kernel
theorem dX1_hasPage_5 : decode cX1_hasPage 5 = .ok (.aload_n 0, 1) := by decide +kernel
theorem dX1_hasPage_6 : decode cX1_hasPage 6 = .ok (.getfield 18, 3) := by decide +kernel
theorem dX1_hasPage_9 : decode cX1_hasPage 9 = .ok (.if_icmp .ge 7, 3) := by decide +kernel
theorem dX1_hasPage_12 : decode cX1_hasPage 12 = .ok (.iconst 1, 1) := by decide +kernel
theorem dX1_hasPage_13 : decode cX1_hasPage 13 = .ok (.goto 4, 3) := by decide +kernel
theorem dX1_hasPage_16 : decode cX1_hasPage 16 = .ok (.iconst 0, 1) := by decide +kernel
theorem dX1_hasPage_17 : decode cX1_hasPage 17 = .ok (.ireturn, 1) := by decide +kernel
theorem dX1_seeing_0 : decode cX1_seeing 0 = .ok (.iconst 1, 1) := by decide +kernel
theorem dX1_seeing_1 : decode cX1_seeing 1 = .ok (.aload_n 0, 1) := by decide +kernel
theorem dX1_seeing_2 : decode cX1_seeing 2 = .ok (.getfield 9, 3) := by decide +kernel
theorem dX1_seeing_5 : decode cX1_seeing 5 = .ok (.ishl, 1) := by decide +kernel
theorem dX1_seeing_6 : decode cX1_seeing 6 = .ok (.iconst 1, 1) := by decide +kernel
theorem dX1_seeing_7 : decode cX1_seeing 7 = .ok (.isub, 1) := by decide +kernel
theorem dX1_seeing_8 : decode cX1_seeing 8 = .ok (.aload_n 0, 1) := by decide +kernel
theorem dX1_seeing_9 : decode cX1_seeing 9 = .ok (.getfield 35, 3) := by decide +kernel
theorem dX1_seeing_12 : decode cX1_seeing 12 = .ok (.iconst (-1), 1) := by decide +kernel
theorem dX1_seeing_13 : decode cX1_seeing 13 = .ok (.ixor, 1) := by decide +kernel
theorem dX1_seeing_14 : decode cX1_seeing 14 = .ok (.iand, 1) := by decide +kernel
theorem dX1_seeing_15 : decode cX1_seeing 15 = .ok (.ireturn, 1) := by decide +kernel
theorem dX1_allSecrets_0 : decode cX1_allSecrets 0 = .ok (.iconst 1, 1) := by decide +kernel
theorem dX1_allSecrets_1 : decode cX1_allSecrets 1 = .ok (.aload_n 0, 1) := by decide +kernel
theorem dX1_allSecrets_2 : decode cX1_allSecrets 2 = .ok (.getfield 15, 3) := by decide +kernel
theorem dX1_allSecrets_5 : decode cX1_allSecrets 5 = .ok (.ishl, 1) := by decide +kernel
theorem dX1_allSecrets_6 : decode cX1_allSecrets 6 = .ok (.iconst 1, 1) := by decide +kernel
theorem dX1_allSecrets_7 : decode cX1_allSecrets 7 = .ok (.isub, 1) := by decide +kernel
theorem dX1_allSecrets_8 : decode cX1_allSecrets 8 = .ok (.ireturn, 1) := by decide +kernel
theorem dX2_init_0 : decode cX2_init 0 = .ok (.aload_n 0, 1) := by decide +kernel
theorem dX2_init_1 : decode cX2_init 1 = .ok (.invokespecial 3, 3) := by decide +kernel
theorem dX2_init_4 : decode cX2_init 4 = .ok (.aload_n 0, 1) := by decide +kernel
theorem dX2_init_5 : decode cX2_init 5 = .ok (.iconst 0, 1) := by decide +kernel
theorem dX2_init_6 : decode cX2_init 6 = .ok (.putfield 9, 3) := by decide +kernel
theorem dX2_init_9 : decode cX2_init 9 = .ok (.return_, 1) := by decide +kernel
theorem dX2_take_0 : decode cX2_take 0 = .ok (.aload_n 2, 1) := by decide +kernel
theorem dX2_take_1 : decode cX2_take 1 = .ok (.invokevirtual 15, 3) := by decide +kernel
theorem dX2_take_4 : decode cX2_take 4 = .ok (.aload_n 0, 1) := by decide +kernel
theorem dX2_take_5 : decode cX2_take 5 = .ok (.iconst 0, 1) := by decide +kernel
theorem dX2_take_6 : decode cX2_take 6 = .ok (.putfield 9, 3) := by decide +kernel
theorem dX2_take_9 : decode cX2_take 9 = .ok (.iconst 1, 1) := by decide +kernel
theorem dX2_take_10 : decode cX2_take 10 = .ok (.istore_n 3, 1) := by decide +kernel
theorem dX2_take_11 : decode cX2_take 11 = .ok (.iconst 0, 1) := by decide +kernel
theorem dX2_take_12 : decode cX2_take 12 = .ok (.istore 4, 2) := by decide +kernel
theorem dX2_take_14 : decode cX2_take 14 = .ok (.iload 4, 2) := by decide +kernel
theorem dX2_take_16 : decode cX2_take 16 = .ok (.sipush 900, 3) := by decide +kernel
theorem dX2_take_19 : decode cX2_take 19 = .ok (.if_icmp .ge 144, 3) := by decide +kernel
theorem dX2_take_22 : decode cX2_take 22 = .ok (.iload_n 3, 1) := by decide +kernel
theorem dX2_take_23 : decode cX2_take 23 = .ok (.ifCond .eq 140, 3) := by decide +kernel
theorem dX2_take_26 : decode cX2_take 26 = .ok (.aload_n 1, 1) := by decide +kernel
theorem dX2_take_27 : decode cX2_take 27 = .ok (.getfield 20, 3) := by decide +kernel
theorem dX2_take_30 : decode cX2_take 30 = .ok (.ifCond .eq 133, 3) := by decide +kernel
theorem dX2_take_33 : decode cX2_take 33 = .ok (.aload_n 1, 1) := by decide +kernel
theorem dX2_take_34 : decode cX2_take 34 = .ok (.getfield 26, 3) := by decide +kernel
theorem dX2_take_37 : decode cX2_take 37 = .ok (.tableswitch 114 0 10 #[59, 114, 114, 114, 68, 114, 77, 114, 86, 95, 105], 59) := by decide +kernel
theorem dX2_take_96 : decode cX2_take 96 = .ok (.aload_n 1, 1) := by decide +kernel
theorem dX2_take_97 : decode cX2_take 97 = .ok (.aload_n 2, 1) := by decide +kernel
theorem dX2_take_98 : decode cX2_take 98 = .ok (.invokestatic 29, 3) := by decide +kernel
theorem dX2_take_101 : decode cX2_take 101 = .ok (.istore_n 3, 1) := by decide +kernel
theorem dX2_take_102 : decode cX2_take 102 = .ok (.goto 55, 3) := by decide +kernel
theorem dX2_take_105 : decode cX2_take 105 = .ok (.aload_n 1, 1) := by decide +kernel
theorem dX2_take_106 : decode cX2_take 106 = .ok (.aload_n 2, 1) := by decide +kernel
theorem dX2_take_107 : decode cX2_take 107 = .ok (.invokestatic 33, 3) := by decide +kernel
theorem dX2_take_110 : decode cX2_take 110 = .ok (.istore_n 3, 1) := by decide +kernel
theorem dX2_take_111 : decode cX2_take 111 = .ok (.goto 46, 3) := by decide +kernel
theorem dX2_take_114 : decode cX2_take 114 = .ok (.aload_n 1, 1) := by decide +kernel
theorem dX2_take_115 : decode cX2_take 115 = .ok (.aload_n 2, 1) := by decide +kernel
theorem dX2_take_116 : decode cX2_take 116 = .ok (.invokestatic 36, 3) := by decide +kernel
theorem dX2_take_119 : decode cX2_take 119 = .ok (.istore_n 3, 1) := by decide +kernel
theorem dX2_take_120 : decode cX2_take 120 = .ok (.goto 37, 3) := by decide +kernel
theorem dX2_take_123 : decode cX2_take 123 = .ok (.aload_n 1, 1) := by decide +kernel
theorem dX2_take_124 : decode cX2_take 124 = .ok (.aload_n 2, 1) := by decide +kernel
theorem dX2_take_125 : decode cX2_take 125 = .ok (.invokestatic 39, 3) := by decide +kernel
theorem dX2_take_128 : decode cX2_take 128 = .ok (.istore_n 3, 1) := by decide +kernel
theorem dX2_take_129 : decode cX2_take 129 = .ok (.goto 28, 3) := by decide +kernel
theorem dX2_take_132 : decode cX2_take 132 = .ok (.aload_n 0, 1) := by decide +kernel
theorem dX2_take_133 : decode cX2_take 133 = .ok (.aload_n 1, 1) := by decide +kernel
theorem dX2_take_134 : decode cX2_take 134 = .ok (.aload_n 2, 1) := by decide +kernel
theorem dX2_take_135 : decode cX2_take 135 = .ok (.invokevirtual 42, 3) := by decide +kernel
theorem dX2_take_138 : decode cX2_take 138 = .ok (.istore_n 3, 1) := by decide +kernel
theorem dX2_take_139 : decode cX2_take 139 = .ok (.goto 18, 3) := by decide +kernel
theorem dX2_take_142 : decode cX2_take 142 = .ok (.aload_n 1, 1) := by decide +kernel
theorem dX2_take_143 : decode cX2_take 143 = .ok (.aload_n 2, 1) := by decide +kernel
theorem dX2_take_144 : decode cX2_take 144 = .ok (.invokestatic 45, 3) := by decide +kernel
theorem dX2_take_147 : decode cX2_take 147 = .ok (.istore_n 3, 1) := by decide +kernel
theorem dX2_take_148 : decode cX2_take 148 = .ok (.goto 9, 3) := by decide +kernel
theorem dX2_take_151 : decode cX2_take 151 = .ok (.aload_n 1, 1) := by decide +kernel
theorem dX2_take_152 : decode cX2_take 152 = .ok (.iconst 2, 1) := by decide +kernel
theorem dX2_take_153 : decode cX2_take 153 = .ok (.invokevirtual 48, 3) := by decide +kernel
theorem dX2_take_156 : decode cX2_take 156 = .ok (.istore_n 3, 1) := by decide +kernel
theorem dX2_take_157 : decode cX2_take 157 = .ok (.iinc 4 1, 3) := by decide +kernel
theorem dX2_take_160 : decode cX2_take 160 = .ok (.goto (-146), 3) := by decide +kernel
theorem dX2_take_163 : decode cX2_take 163 = .ok (.iload_n 3, 1) := by decide +kernel
theorem dX2_take_164 : decode cX2_take 164 = .ok (.ifCond .eq 21, 3) := by decide +kernel
theorem dX2_take_167 : decode cX2_take 167 = .ok (.aload_n 0, 1) := by decide +kernel
theorem dX2_take_168 : decode cX2_take 168 = .ok (.getfield 9, 3) := by decide +kernel
theorem dX2_take_171 : decode cX2_take 171 = .ok (.ifCond .ne 14, 3) := by decide +kernel
theorem dX2_take_174 : decode cX2_take 174 = .ok (.aload_n 2, 1) := by decide +kernel
theorem dX2_take_175 : decode cX2_take 175 = .ok (.getfield 52, 3) := by decide +kernel
theorem dX2_take_178 : decode cX2_take 178 = .ok (.aload_n 2, 1) := by decide +kernel
theorem dX2_take_179 : decode cX2_take 179 = .ok (.getfield 56, 3) := by decide +kernel
theorem dX2_take_182 : decode cX2_take 182 = .ok (.invokevirtual 59, 3) := by decide +kernel
theorem dX2_take_185 : decode cX2_take 185 = .ok (.iload_n 3, 1) := by decide +kernel
theorem dX2_take_186 : decode cX2_take 186 = .ok (.ireturn, 1) := by decide +kernel
theorem dX2_newName_0 : decode cX2_newName 0 = .ok (.aload_n 0, 1) := by decide +kernel
theorem dX2_newName_1 : decode cX2_newName 1 = .ok (.invokevirtual 65, 3) := by decide +kernel
theorem dX2_newName_4 : decode cX2_newName 4 = .ok (.lstore_n 2, 1) := by decide +kernel
theorem dX2_newName_5 : decode cX2_newName 5 = .ok (.lload_n 2, 1) := by decide +kernel
theorem dX2_newName_6 : decode cX2_newName 6 = .ok (.ldc2_w 69, 3) := by decide +kernel
theorem dX2_newName_9 : decode cX2_newName 9 = .ok (.lcmp, 1) := by decide +kernel
theorem dX2_newName_10 : decode cX2_newName 10 = .ok (.ifCond .ne 7, 3) := by decide +kernel
theorem dX2_newName_13 : decode cX2_newName 13 = .ok (.ldc2_w 69, 3) := by decide +kernel
theorem dX2_newName_16 : decode cX2_newName 16 = .ok (.lreturn, 1) := by decide +kernel
theorem dX2_newName_17 : decode cX2_newName 17 = .ok (.aload_n 1, 1) := by decide +kernel
theorem dX2_newName_18 : decode cX2_newName 18 = .ok (.lload_n 2, 1) := by decide +kernel
theorem dX2_newName_19 : decode cX2_newName 19 = .ok (.invokevirtual 71, 3) := by decide +kernel
theorem dX2_newName_22 : decode cX2_newName 22 = .ok (.ifCond .eq 13, 3) := by decide +kernel
theorem dX2_newName_25 : decode cX2_newName 25 = .ok (.aload_n 0, 1) := by decide +kernel
theorem dX2_newName_26 : decode cX2_newName 26 = .ok (.iconst 3, 1) := by decide +kernel
theorem dX2_newName_27 : decode cX2_newName 27 = .ok (.invokevirtual 48, 3) := by decide +kernel
theorem dX2_newName_30 : decode cX2_newName 30 = .ok (.pop, 1) := by decide +kernel
theorem dX2_newName_31 : decode cX2_newName 31 = .ok (.ldc2_w 69, 3) := by decide +kernel
theorem dX2_newName_34 : decode cX2_newName 34 = .ok (.lreturn, 1) := by decide +kernel
theorem dX2_newName_35 : decode cX2_newName 35 = .ok (.aload_n 0, 1) := by decide +kernel
theorem dX2_newName_36 : decode cX2_newName 36 = .ok (.invokevirtual 75, 3) := by decide +kernel
theorem dX2_newName_39 : decode cX2_newName 39 = .ok (.lload_n 2, 1) := by decide +kernel
theorem dX2_newName_40 : decode cX2_newName 40 = .ok (.lreturn, 1) := by decide +kernel
theorem dX2_takeCell_0 : decode cX2_takeCell 0 = .ok (.aload_n 1, 1) := by decide +kernel
theorem dX2_takeCell_1 : decode cX2_takeCell 1 = .ok (.getfield 56, 3) := by decide +kernel
theorem dX2_takeCell_4 : decode cX2_takeCell 4 = .ok (.bipush 8, 2) := by decide +kernel
theorem dX2_takeCell_6 : decode cX2_takeCell 6 = .ok (.if_icmp .lt 10, 3) := by decide +kernel
theorem dX2_takeCell_9 : decode cX2_takeCell 9 = .ok (.aload_n 0, 1) := by decide +kernel
theorem dX2_takeCell_10 : decode cX2_takeCell 10 = .ok (.bipush 6, 2) := by decide +kernel
theorem dX2_takeCell_12 : decode cX2_takeCell 12 = .ok (.invokevirtual 48, 3) := by decide +kernel
theorem dX2_takeCell_15 : decode cX2_takeCell 15 = .ok (.ireturn, 1) := by decide +kernel
theorem dX2_takeCell_16 : decode cX2_takeCell 16 = .ok (.aload_n 0, 1) := by decide +kernel
theorem dX2_takeCell_17 : decode cX2_takeCell 17 = .ok (.invokevirtual 75, 3) := by decide +kernel
theorem dX2_takeCell_20 : decode cX2_takeCell 20 = .ok (.aload_n 0, 1) := by decide +kernel
theorem dX2_takeCell_21 : decode cX2_takeCell 21 = .ok (.aload_n 1, 1) := by decide +kernel
theorem dX2_takeCell_22 : decode cX2_takeCell 22 = .ok (.invokestatic 78, 3) := by decide +kernel
theorem dX2_takeCell_25 : decode cX2_takeCell 25 = .ok (.lstore_n 2, 1) := by decide +kernel
theorem dX2_takeCell_26 : decode cX2_takeCell 26 = .ok (.lload_n 2, 1) := by decide +kernel
theorem dX2_takeCell_27 : decode cX2_takeCell 27 = .ok (.ldc2_w 69, 3) := by decide +kernel
theorem dX2_takeCell_30 : decode cX2_takeCell 30 = .ok (.lcmp, 1) := by decide +kernel
theorem dX2_takeCell_31 : decode cX2_takeCell 31 = .ok (.ifCond .ne 5, 3) := by decide +kernel
theorem dX2_takeCell_34 : decode cX2_takeCell 34 = .ok (.iconst 0, 1) := by decide +kernel
theorem dX2_takeCell_35 : decode cX2_takeCell 35 = .ok (.ireturn, 1) := by decide +kernel
theorem dX2_takeCell_36 : decode cX2_takeCell 36 = .ok (.aload_n 0, 1) := by decide +kernel
theorem dX2_takeCell_37 : decode cX2_takeCell 37 = .ok (.iconst 1, 1) := by decide +kernel
theorem dX2_takeCell_38 : decode cX2_takeCell 38 = .ok (.invokevirtual 82, 3) := by decide +kernel
theorem dX2_takeCell_41 : decode cX2_takeCell 41 = .ok (.ifCond .eq 13, 3) := by decide +kernel
theorem dX2_takeCell_44 : decode cX2_takeCell 44 = .ok (.aload_n 0, 1) := by decide +kernel
theorem dX2_takeCell_45 : decode cX2_takeCell 45 = .ok (.iconst 0, 1) := by decide +kernel
theorem dX2_takeCell_46 : decode cX2_takeCell 46 = .ok (.bipush 20, 2) := by decide +kernel
theorem dX2_takeCell_48 : decode cX2_takeCell 48 = .ok (.invokevirtual 85, 3) := by decide +kernel
theorem dX2_takeCell_51 : decode cX2_takeCell 51 = .ok (.goto 4, 3) := by decide +kernel
theorem dX2_takeCell_54 : decode cX2_takeCell 54 = .ok (.iconst 5, 1) := by decide +kernel
theorem dX2_takeCell_55 : decode cX2_takeCell 55 = .ok (.istore 4, 2) := by decide +kernel
theorem dX2_takeCell_57 : decode cX2_takeCell 57 = .ok (.iload 4, 2) := by decide +kernel
theorem dX2_takeCell_59 : decode cX2_takeCell 59 = .ok (.iconst (-1), 1) := by decide +kernel
theorem dX2_takeCell_60 : decode cX2_takeCell 60 = .ok (.if_icmp .ne 5, 3) := by decide +kernel
theorem dX2_takeCell_63 : decode cX2_takeCell 63 = .ok (.iconst 0, 1) := by decide +kernel
theorem dX2_takeCell_64 : decode cX2_takeCell 64 = .ok (.ireturn, 1) := by decide +kernel
theorem dX2_takeCell_65 : decode cX2_takeCell 65 = .ok (.aload_n 0, 1) := by decide +kernel
theorem dX2_takeCell_66 : decode cX2_takeCell 66 = .ok (.iconst 2, 1) := by decide +kernel
theorem dX2_takeCell_67 : decode cX2_takeCell 67 = .ok (.invokevirtual 82, 3) := by decide +kernel
theorem dX2_takeCell_70 : decode cX2_takeCell 70 = .ok (.istore 5, 2) := by decide +kernel
theorem dX2_takeCell_72 : decode cX2_takeCell 72 = .ok (.aload_n 0, 1) := by decide +kernel
theorem dX2_takeCell_73 : decode cX2_takeCell 73 = .ok (.iconst 3, 1) := by decide +kernel
theorem dX2_takeCell_74 : decode cX2_takeCell 74 = .ok (.invokevirtual 82, 3) := by decide +kernel
theorem dX2_takeCell_77 : decode cX2_takeCell 77 = .ok (.istore 6, 2) := by decide +kernel
theorem dX2_takeCell_79 : decode cX2_takeCell 79 = .ok (.aload_n 0, 1) := by decide +kernel
theorem dX2_takeCell_80 : decode cX2_takeCell 80 = .ok (.invokevirtual 89, 3) := by decide +kernel
theorem dX2_takeCell_83 : decode cX2_takeCell 83 = .ok (.ifCond .ne 5, 3) := by decide +kernel
theorem dX2_takeCell_86 : decode cX2_takeCell 86 = .ok (.iconst 0, 1) := by decide +kernel
theorem dX2_takeCell_87 : decode cX2_takeCell 87 = .ok (.ireturn, 1) := by decide +kernel
theorem dX2_takeCell_88 : decode cX2_takeCell 88 = .ok (.aload_n 1, 1) := by decide +kernel
theorem dX2_takeCell_89 : decode cX2_takeCell 89 = .ok (.lload_n 2, 1) := by decide +kernel
theorem dX2_takeCell_90 : decode cX2_takeCell 90 = .ok (.iload 4, 2) := by decide +kernel
theorem dX2_takeCell_92 : decode cX2_takeCell 92 = .ok (.iload 5, 2) := by decide +kernel
theorem dX2_takeCell_94 : decode cX2_takeCell 94 = .ok (.iload 6, 2) := by decide +kernel
theorem dX2_takeCell_96 : decode cX2_takeCell 96 = .ok (.invokevirtual 93, 3) := by decide +kernel
theorem dX2_takeCell_99 : decode cX2_takeCell 99 = .ok (.iconst 1, 1) := by decide +kernel
theorem dX2_takeCell_100 : decode cX2_takeCell 100 = .ok (.ireturn, 1) := by decide +kernel
theorem dX2_takeSecret_0 : decode cX2_takeSecret 0 = .ok (.aload_n 1, 1) := by decide +kernel
theorem dX2_takeSecret_1 : decode cX2_takeSecret 1 = .ok (.getfield 97, 3) := by decide +kernel
theorem dX2_takeSecret_4 : decode cX2_takeSecret 4 = .ok (.bipush 6, 2) := by decide +kernel
theorem dX2_takeSecret_6 : decode cX2_takeSecret 6 = .ok (.if_icmp .lt 10, 3) := by decide +kernel
theorem dX2_takeSecret_9 : decode cX2_takeSecret 9 = .ok (.aload_n 0, 1) := by decide +kernel
theorem dX2_takeSecret_10 : decode cX2_takeSecret 10 = .ok (.bipush 6, 2) := by decide +kernel
theorem dX2_takeSecret_12 : decode cX2_takeSecret 12 = .ok (.invokevirtual 48, 3) := by decide +kernel
theorem dX2_takeSecret_15 : decode cX2_takeSecret 15 = .ok (.ireturn, 1) := by decide +kernel
theorem dX2_takeSecret_16 : decode cX2_takeSecret 16 = .ok (.aload_n 0, 1) := by decide +kernel
theorem dX2_takeSecret_17 : decode cX2_takeSecret 17 = .ok (.invokevirtual 75, 3) := by decide +kernel
theorem dX2_takeSecret_20 : decode cX2_takeSecret 20 = .ok (.aload_n 0, 1) := by decide +kernel
theorem dX2_takeSecret_21 : decode cX2_takeSecret 21 = .ok (.aload_n 1, 1) := by decide +kernel
theorem dX2_takeSecret_22 : decode cX2_takeSecret 22 = .ok (.invokestatic 78, 3) := by decide +kernel
theorem dX2_takeSecret_25 : decode cX2_takeSecret 25 = .ok (.lstore_n 2, 1) := by decide +kernel
theorem dX2_takeSecret_26 : decode cX2_takeSecret 26 = .ok (.lload_n 2, 1) := by decide +kernel
theorem dX2_takeSecret_27 : decode cX2_takeSecret 27 = .ok (.ldc2_w 69, 3) := by decide +kernel
theorem dX2_takeSecret_30 : decode cX2_takeSecret 30 = .ok (.lcmp, 1) := by decide +kernel
theorem dX2_takeSecret_31 : decode cX2_takeSecret 31 = .ok (.ifCond .ne 7, 3) := by decide +kernel
theorem dX2_takeSecret_34 : decode cX2_takeSecret 34 = .ok (.iconst (-1), 1) := by decide +kernel
theorem dX2_takeSecret_35 : decode cX2_takeSecret 35 = .ok (.goto 11, 3) := by decide +kernel
theorem dX2_takeSecret_38 : decode cX2_takeSecret 38 = .ok (.aload_n 0, 1) := by decide +kernel
theorem dX2_takeSecret_39 : decode cX2_takeSecret 39 = .ok (.iconst 5, 1) := by decide +kernel
theorem dX2_takeSecret_40 : decode cX2_takeSecret 40 = .ok (.iconst 1, 1) := by decide +kernel
theorem dX2_takeSecret_41 : decode cX2_takeSecret 41 = .ok (.bipush 20, 2) := by decide +kernel
theorem dX2_takeSecret_43 : decode cX2_takeSecret 43 = .ok (.invokestatic 100, 3) := by decide +kernel
theorem dX2_takeSecret_46 : decode cX2_takeSecret 46 = .ok (.istore 4, 2) := by decide +kernel
theorem dX2_takeSecret_48 : decode cX2_takeSecret 48 = .ok (.iload 4, 2) := by decide +kernel
theorem dX2_takeSecret_50 : decode cX2_takeSecret 50 = .ok (.iconst (-1), 1) := by decide +kernel
theorem dX2_takeSecret_51 : decode cX2_takeSecret 51 = .ok (.if_icmp .ne 5, 3) := by decide +kernel
theorem dX2_takeSecret_54 : decode cX2_takeSecret 54 = .ok (.iconst 0, 1) := by decide +kernel
theorem dX2_takeSecret_55 : decode cX2_takeSecret 55 = .ok (.ireturn, 1) := by decide +kernel
theorem dX2_takeSecret_56 : decode cX2_takeSecret 56 = .ok (.aload_n 1, 1) := by decide +kernel
theorem dX2_takeSecret_57 : decode cX2_takeSecret 57 = .ok (.lload_n 2, 1) := by decide +kernel
theorem dX2_takeSecret_58 : decode cX2_takeSecret 58 = .ok (.iload 4, 2) := by decide +kernel
theorem dX2_takeSecret_60 : decode cX2_takeSecret 60 = .ok (.invokevirtual 104, 3) := by decide +kernel
theorem dX2_takeSecret_63 : decode cX2_takeSecret 63 = .ok (.iconst 1, 1) := by decide +kernel
theorem dX2_takeSecret_64 : decode cX2_takeSecret 64 = .ok (.ireturn, 1) := by decide +kernel
theorem dX2_takePage_0 : decode cX2_takePage 0 = .ok (.aload_n 1, 1) := by decide +kernel
theorem dX2_takePage_1 : decode cX2_takePage 1 = .ok (.getfield 108, 3) := by decide +kernel
theorem dX2_takePage_4 : decode cX2_takePage 4 = .ok (.bipush 6, 2) := by decide +kernel
theorem dX2_takePage_6 : decode cX2_takePage 6 = .ok (.if_icmp .lt 10, 3) := by decide +kernel
theorem dX2_takePage_9 : decode cX2_takePage 9 = .ok (.aload_n 0, 1) := by decide +kernel
theorem dX2_takePage_10 : decode cX2_takePage 10 = .ok (.bipush 6, 2) := by decide +kernel
theorem dX2_takePage_12 : decode cX2_takePage 12 = .ok (.invokevirtual 48, 3) := by decide +kernel
theorem dX2_takePage_15 : decode cX2_takePage 15 = .ok (.ireturn, 1) := by decide +kernel
theorem dX2_takePage_16 : decode cX2_takePage 16 = .ok (.aload_n 0, 1) := by decide +kernel
theorem dX2_takePage_17 : decode cX2_takePage 17 = .ok (.invokevirtual 75, 3) := by decide +kernel
theorem dX2_takePage_20 : decode cX2_takePage 20 = .ok (.aload_n 0, 1) := by decide +kernel
theorem dX2_takePage_21 : decode cX2_takePage 21 = .ok (.aload_n 1, 1) := by decide +kernel
theorem dX2_takePage_22 : decode cX2_takePage 22 = .ok (.invokestatic 78, 3) := by decide +kernel
theorem dX2_takePage_25 : decode cX2_takePage 25 = .ok (.lstore_n 2, 1) := by decide +kernel
theorem dX2_takePage_26 : decode cX2_takePage 26 = .ok (.lload_n 2, 1) := by decide +kernel
theorem dX2_takePage_27 : decode cX2_takePage 27 = .ok (.ldc2_w 69, 3) := by decide +kernel
theorem dX2_takePage_30 : decode cX2_takePage 30 = .ok (.lcmp, 1) := by decide +kernel
theorem dX2_takePage_31 : decode cX2_takePage 31 = .ok (.ifCond .ne 7, 3) := by decide +kernel
theorem dX2_takePage_34 : decode cX2_takePage 34 = .ok (.iconst (-1), 1) := by decide +kernel
theorem dX2_takePage_35 : decode cX2_takePage 35 = .ok (.goto 12, 3) := by decide +kernel
theorem dX2_takePage_38 : decode cX2_takePage 38 = .ok (.aload_n 0, 1) := by decide +kernel
theorem dX2_takePage_39 : decode cX2_takePage 39 = .ok (.bipush 7, 2) := by decide +kernel
theorem dX2_takePage_41 : decode cX2_takePage 41 = .ok (.iconst 0, 1) := by decide +kernel
theorem dX2_takePage_42 : decode cX2_takePage 42 = .ok (.bipush 60, 2) := by decide +kernel
theorem dX2_takePage_44 : decode cX2_takePage 44 = .ok (.invokestatic 100, 3) := by decide +kernel
theorem dX2_takePage_47 : decode cX2_takePage 47 = .ok (.istore 4, 2) := by decide +kernel
theorem dX2_takePage_49 : decode cX2_takePage 49 = .ok (.iload 4, 2) := by decide +kernel
theorem dX2_takePage_51 : decode cX2_takePage 51 = .ok (.iconst (-1), 1) := by decide +kernel
theorem dX2_takePage_52 : decode cX2_takePage 52 = .ok (.if_icmp .ne 5, 3) := by decide +kernel
theorem dX2_takePage_55 : decode cX2_takePage 55 = .ok (.iconst 0, 1) := by decide +kernel
theorem dX2_takePage_56 : decode cX2_takePage 56 = .ok (.ireturn, 1) := by decide +kernel
theorem dX2_takePage_57 : decode cX2_takePage 57 = .ok (.aload_n 1, 1) := by decide +kernel
theorem dX2_takePage_58 : decode cX2_takePage 58 = .ok (.lload_n 2, 1) := by decide +kernel
theorem dX2_takePage_59 : decode cX2_takePage 59 = .ok (.iload 4, 2) := by decide +kernel
theorem dX2_takePage_61 : decode cX2_takePage 61 = .ok (.invokevirtual 111, 3) := by decide +kernel
theorem dX2_takePage_64 : decode cX2_takePage 64 = .ok (.iconst 1, 1) := by decide +kernel
theorem dX2_takePage_65 : decode cX2_takePage 65 = .ok (.ireturn, 1) := by decide +kernel
theorem dX2_lastNumber_0 : decode cX2_lastNumber 0 = .ok (.aload_n 0, 1) := by decide +kernel
theorem dX2_lastNumber_1 : decode cX2_lastNumber 1 = .ok (.iload_n 1, 1) := by decide +kernel
theorem dX2_lastNumber_2 : decode cX2_lastNumber 2 = .ok (.invokevirtual 82, 3) := by decide +kernel
theorem dX2_lastNumber_5 : decode cX2_lastNumber 5 = .ok (.ifCond .ne 11, 3) := by decide +kernel
theorem dX2_lastNumber_8 : decode cX2_lastNumber 8 = .ok (.aload_n 0, 1) := by decide +kernel
theorem dX2_lastNumber_9 : decode cX2_lastNumber 9 = .ok (.iconst 2, 1) := by decide +kernel
theorem dX2_lastNumber_10 : decode cX2_lastNumber 10 = .ok (.invokevirtual 48, 3) := by decide +kernel
theorem dX2_lastNumber_13 : decode cX2_lastNumber 13 = .ok (.pop, 1) := by decide +kernel
theorem dX2_lastNumber_14 : decode cX2_lastNumber 14 = .ok (.iconst (-1), 1) := by decide +kernel
theorem dX2_lastNumber_15 : decode cX2_lastNumber 15 = .ok (.ireturn, 1) := by decide +kernel
theorem dX2_lastNumber_16 : decode cX2_lastNumber 16 = .ok (.aload_n 0, 1) := by decide +kernel
theorem dX2_lastNumber_17 : decode cX2_lastNumber 17 = .ok (.iload_n 2, 1) := by decide +kernel
theorem dX2_lastNumber_18 : decode cX2_lastNumber 18 = .ok (.iload_n 3, 1) := by decide +kernel
theorem dX2_lastNumber_19 : decode cX2_lastNumber 19 = .ok (.invokevirtual 85, 3) := by decide +kernel
theorem dX2_lastNumber_22 : decode cX2_lastNumber 22 = .ok (.istore 4, 2) := by decide +kernel
theorem dX2_lastNumber_24 : decode cX2_lastNumber 24 = .ok (.iload 4, 2) := by decide +kernel
theorem dX2_lastNumber_26 : decode cX2_lastNumber 26 = .ok (.iconst (-1), 1) := by decide +kernel
theorem dX2_lastNumber_27 : decode cX2_lastNumber 27 = .ok (.if_icmp .eq 15, 3) := by decide +kernel
theorem dX2_lastNumber_30 : decode cX2_lastNumber 30 = .ok (.aload_n 0, 1) := by decide +kernel
theorem dX2_lastNumber_31 : decode cX2_lastNumber 31 = .ok (.invokevirtual 89, 3) := by decide +kernel
theorem dX2_lastNumber_34 : decode cX2_lastNumber 34 = .ok (.ifCond .eq 8, 3) := by decide +kernel
theorem dX2_lastNumber_37 : decode cX2_lastNumber 37 = .ok (.iload 4, 2) := by decide +kernel
theorem dX2_lastNumber_39 : decode cX2_lastNumber 39 = .ok (.goto 4, 3) := by decide +kernel
theorem dX2_lastNumber_42 : decode cX2_lastNumber 42 = .ok (.iconst (-1), 1) := by decide +kernel
theorem dX2_lastNumber_43 : decode cX2_lastNumber 43 = .ok (.ireturn, 1) := by decide +kernel
theorem dX2_takeKnows_0 : decode cX2_takeKnows 0 = .ok (.aload_n 0, 1) := by decide +kernel
theorem dX2_takeKnows_1 : decode cX2_takeKnows 1 = .ok (.invokevirtual 75, 3) := by decide +kernel
theorem dX2_takeKnows_4 : decode cX2_takeKnows 4 = .ok (.aload_n 0, 1) := by decide +kernel
theorem dX2_takeKnows_5 : decode cX2_takeKnows 5 = .ok (.aload_n 1, 1) := by decide +kernel
theorem dX2_takeKnows_6 : decode cX2_takeKnows 6 = .ok (.getfield 114, 3) := by decide +kernel
theorem dX2_takeKnows_9 : decode cX2_takeKnows 9 = .ok (.aload_n 1, 1) := by decide +kernel
theorem dX2_takeKnows_10 : decode cX2_takeKnows 10 = .ok (.getfield 56, 3) := by decide +kernel
theorem dX2_takeKnows_13 : decode cX2_takeKnows 13 = .ok (.invokevirtual 118, 3) := by decide +kernel
theorem dX2_takeKnows_16 : decode cX2_takeKnows 16 = .ok (.istore_n 2, 1) := by decide +kernel
theorem dX2_takeKnows_17 : decode cX2_takeKnows 17 = .ok (.iload_n 2, 1) := by decide +kernel
theorem dX2_takeKnows_18 : decode cX2_takeKnows 18 = .ok (.iconst (-1), 1) := by decide +kernel
theorem dX2_takeKnows_19 : decode cX2_takeKnows 19 = .ok (.if_icmp .ne 7, 3) := by decide +kernel
theorem dX2_takeKnows_22 : decode cX2_takeKnows 22 = .ok (.iconst (-1), 1) := by decide +kernel
theorem dX2_takeKnows_23 : decode cX2_takeKnows 23 = .ok (.goto 15, 3) := by decide +kernel
theorem dX2_takeKnows_26 : decode cX2_takeKnows 26 = .ok (.aload_n 0, 1) := by decide +kernel
theorem dX2_takeKnows_27 : decode cX2_takeKnows 27 = .ok (.aload_n 1, 1) := by decide +kernel
theorem dX2_takeKnows_28 : decode cX2_takeKnows 28 = .ok (.getfield 122, 3) := by decide +kernel
theorem dX2_takeKnows_31 : decode cX2_takeKnows 31 = .ok (.aload_n 1, 1) := by decide +kernel
theorem dX2_takeKnows_32 : decode cX2_takeKnows 32 = .ok (.getfield 97, 3) := by decide +kernel
theorem dX2_takeKnows_35 : decode cX2_takeKnows 35 = .ok (.invokevirtual 118, 3) := by decide +kernel
theorem dX2_takeKnows_38 : decode cX2_takeKnows 38 = .ok (.istore_n 3, 1) := by decide +kernel
theorem dX2_takeKnows_39 : decode cX2_takeKnows 39 = .ok (.iload_n 3, 1) := by decide +kernel
theorem dX2_takeKnows_40 : decode cX2_takeKnows 40 = .ok (.iconst (-1), 1) := by decide +kernel
theorem dX2_takeKnows_41 : decode cX2_takeKnows 41 = .ok (.if_icmp .eq 10, 3) := by decide +kernel
theorem dX2_takeKnows_44 : decode cX2_takeKnows 44 = .ok (.aload_n 0, 1) := by decide +kernel
theorem dX2_takeKnows_45 : decode cX2_takeKnows 45 = .ok (.invokevirtual 89, 3) := by decide +kernel
theorem dX2_takeKnows_48 : decode cX2_takeKnows 48 = .ok (.ifCond .ne 5, 3) := by decide +kernel
theorem dX2_takeKnows_51 : decode cX2_takeKnows 51 = .ok (.iconst 0, 1) := by decide +kernel
theorem dX2_takeKnows_52 : decode cX2_takeKnows 52 = .ok (.ireturn, 1) := by decide +kernel
theorem dX2_takeKnows_53 : decode cX2_takeKnows 53 = .ok (.aload_n 1, 1) := by decide +kernel
theorem dX2_takeKnows_54 : decode cX2_takeKnows 54 = .ok (.getfield 52, 3) := by decide +kernel
theorem dX2_takeKnows_57 : decode cX2_takeKnows 57 = .ok (.getfield 125, 3) := by decide +kernel
theorem dX2_takeKnows_60 : decode cX2_takeKnows 60 = .ok (.iload_n 2, 1) := by decide +kernel
theorem dX2_takeKnows_61 : decode cX2_takeKnows 61 = .ok (.dup2, 1) := by decide +kernel
theorem dX2_takeKnows_62 : decode cX2_takeKnows 62 = .ok (.iaload, 1) := by decide +kernel
theorem dX2_takeKnows_63 : decode cX2_takeKnows 63 = .ok (.iconst 1, 1) := by decide +kernel
theorem dX2_takeKnows_64 : decode cX2_takeKnows 64 = .ok (.iload_n 3, 1) := by decide +kernel
theorem dX2_takeKnows_65 : decode cX2_takeKnows 65 = .ok (.ishl, 1) := by decide +kernel
theorem dX2_takeKnows_66 : decode cX2_takeKnows 66 = .ok (.ior, 1) := by decide +kernel
theorem dX2_takeKnows_67 : decode cX2_takeKnows 67 = .ok (.iastore, 1) := by decide +kernel
theorem dX2_takeKnows_68 : decode cX2_takeKnows 68 = .ok (.iconst 1, 1) := by decide +kernel
theorem dX2_takeKnows_69 : decode cX2_takeKnows 69 = .ok (.ireturn, 1) := by decide +kernel
theorem dX2_takeOrder_0 : decode cX2_takeOrder 0 = .ok (.aload_n 1, 1) := by decide +kernel
theorem dX2_takeOrder_1 : decode cX2_takeOrder 1 = .ok (.invokevirtual 75, 3) := by decide +kernel
theorem dX2_takeOrder_4 : decode cX2_takeOrder 4 = .ok (.aload_n 2, 1) := by decide +kernel
theorem dX2_takeOrder_5 : decode cX2_takeOrder 5 = .ok (.getfield 52, 3) := by decide +kernel
theorem dX2_takeOrder_8 : decode cX2_takeOrder 8 = .ok (.astore_n 3, 1) := by decide +kernel
theorem dX2_takeOrder_9 : decode cX2_takeOrder 9 = .ok (.aload_n 3, 1) := by decide +kernel
theorem dX2_takeOrder_10 : decode cX2_takeOrder 10 = .ok (.iconst 0, 1) := by decide +kernel
theorem dX2_takeOrder_11 : decode cX2_takeOrder 11 = .ok (.putfield 129, 3) := by decide +kernel
theorem dX2_takeOrder_14 : decode cX2_takeOrder 14 = .ok (.aload_n 0, 1) := by decide +kernel
theorem dX2_takeOrder_15 : decode cX2_takeOrder 15 = .ok (.iconst 1, 1) := by decide +kernel
theorem dX2_takeOrder_16 : decode cX2_takeOrder 16 = .ok (.putfield 9, 3) := by decide +kernel
theorem dX2_takeOrder_19 : decode cX2_takeOrder 19 = .ok (.iconst 1, 1) := by decide +kernel
theorem dX2_takeOrder_20 : decode cX2_takeOrder 20 = .ok (.istore 4, 2) := by decide +kernel
theorem dX2_takeOrder_22 : decode cX2_takeOrder 22 = .ok (.iconst 0, 1) := by decide +kernel
theorem dX2_takeOrder_23 : decode cX2_takeOrder 23 = .ok (.istore 5, 2) := by decide +kernel
theorem dX2_takeOrder_25 : decode cX2_takeOrder 25 = .ok (.iload 5, 2) := by decide +kernel
theorem dX2_takeOrder_27 : decode cX2_takeOrder 27 = .ok (.bipush 8, 2) := by decide +kernel
theorem dX2_takeOrder_29 : decode cX2_takeOrder 29 = .ok (.if_icmp .gt 104, 3) := by decide +kernel
theorem dX2_takeOrder_32 : decode cX2_takeOrder 32 = .ok (.iload 4, 2) := by decide +kernel
theorem dX2_takeOrder_34 : decode cX2_takeOrder 34 = .ok (.ifCond .eq 99, 3) := by decide +kernel
theorem dX2_takeOrder_37 : decode cX2_takeOrder 37 = .ok (.aload_n 1, 1) := by decide +kernel
theorem dX2_takeOrder_38 : decode cX2_takeOrder 38 = .ok (.getfield 132, 3) := by decide +kernel
theorem dX2_takeOrder_41 : decode cX2_takeOrder 41 = .ok (.istore 6, 2) := by decide +kernel
theorem dX2_takeOrder_43 : decode cX2_takeOrder 43 = .ok (.aload_n 1, 1) := by decide +kernel
theorem dX2_takeOrder_44 : decode cX2_takeOrder 44 = .ok (.aload_n 2, 1) := by decide +kernel
theorem dX2_takeOrder_45 : decode cX2_takeOrder 45 = .ok (.getfield 114, 3) := by decide +kernel
theorem dX2_takeOrder_48 : decode cX2_takeOrder 48 = .ok (.aload_n 2, 1) := by decide +kernel
theorem dX2_takeOrder_49 : decode cX2_takeOrder 49 = .ok (.getfield 56, 3) := by decide +kernel
theorem dX2_takeOrder_52 : decode cX2_takeOrder 52 = .ok (.invokevirtual 118, 3) := by decide +kernel
theorem dX2_takeOrder_55 : decode cX2_takeOrder 55 = .ok (.istore 7, 2) := by decide +kernel
theorem dX2_takeOrder_57 : decode cX2_takeOrder 57 = .ok (.iload 7, 2) := by decide +kernel
theorem dX2_takeOrder_59 : decode cX2_takeOrder 59 = .ok (.iconst (-1), 1) := by decide +kernel
theorem dX2_takeOrder_60 : decode cX2_takeOrder 60 = .ok (.if_icmp .ne 5, 3) := by decide +kernel
theorem dX2_takeOrder_63 : decode cX2_takeOrder 63 = .ok (.iconst 0, 1) := by decide +kernel
theorem dX2_takeOrder_64 : decode cX2_takeOrder 64 = .ok (.ireturn, 1) := by decide +kernel
theorem dX2_takeOrder_65 : decode cX2_takeOrder 65 = .ok (.aload_n 3, 1) := by decide +kernel
theorem dX2_takeOrder_66 : decode cX2_takeOrder 66 = .ok (.iload 7, 2) := by decide +kernel
theorem dX2_takeOrder_68 : decode cX2_takeOrder 68 = .ok (.invokevirtual 135, 3) := by decide +kernel
theorem dX2_takeOrder_71 : decode cX2_takeOrder 71 = .ok (.iconst (-1), 1) := by decide +kernel
theorem dX2_takeOrder_72 : decode cX2_takeOrder 72 = .ok (.if_icmp .ne 12, 3) := by decide +kernel
theorem dX2_takeOrder_75 : decode cX2_takeOrder 75 = .ok (.aload_n 3, 1) := by decide +kernel
theorem dX2_takeOrder_76 : decode cX2_takeOrder 76 = .ok (.getfield 129, 3) := by decide +kernel
theorem dX2_takeOrder_79 : decode cX2_takeOrder 79 = .ok (.bipush 8, 2) := by decide +kernel
theorem dX2_takeOrder_81 : decode cX2_takeOrder 81 = .ok (.if_icmp .lt 11, 3) := by decide +kernel
theorem dX2_takeOrder_84 : decode cX2_takeOrder 84 = .ok (.aload_n 1, 1) := by decide +kernel
theorem dX2_takeOrder_85 : decode cX2_takeOrder 85 = .ok (.iconst 5, 1) := by decide +kernel
theorem dX2_takeOrder_86 : decode cX2_takeOrder 86 = .ok (.iload 6, 2) := by decide +kernel
theorem dX2_takeOrder_88 : decode cX2_takeOrder 88 = .ok (.invokevirtual 139, 3) := by decide +kernel
theorem dX2_takeOrder_91 : decode cX2_takeOrder 91 = .ok (.ireturn, 1) := by decide +kernel
theorem dX2_takeOrder_92 : decode cX2_takeOrder 92 = .ok (.aload_n 3, 1) := by decide +kernel
theorem dX2_takeOrder_93 : decode cX2_takeOrder 93 = .ok (.getfield 143, 3) := by decide +kernel
theorem dX2_takeOrder_96 : decode cX2_takeOrder 96 = .ok (.aload_n 3, 1) := by decide +kernel
theorem dX2_takeOrder_97 : decode cX2_takeOrder 97 = .ok (.getfield 129, 3) := by decide +kernel
theorem dX2_takeOrder_100 : decode cX2_takeOrder 100 = .ok (.iload 7, 2) := by decide +kernel
theorem dX2_takeOrder_102 : decode cX2_takeOrder 102 = .ok (.iastore, 1) := by decide +kernel
theorem dX2_takeOrder_103 : decode cX2_takeOrder 103 = .ok (.aload_n 3, 1) := by decide +kernel
theorem dX2_takeOrder_104 : decode cX2_takeOrder 104 = .ok (.dup, 1) := by decide +kernel
theorem dX2_takeOrder_105 : decode cX2_takeOrder 105 = .ok (.getfield 129, 3) := by decide +kernel
theorem dX2_takeOrder_108 : decode cX2_takeOrder 108 = .ok (.iconst 1, 1) := by decide +kernel
theorem dX2_takeOrder_109 : decode cX2_takeOrder 109 = .ok (.iadd, 1) := by decide +kernel
theorem dX2_takeOrder_110 : decode cX2_takeOrder 110 = .ok (.putfield 129, 3) := by decide +kernel
theorem dX2_takeOrder_113 : decode cX2_takeOrder 113 = .ok (.aload_n 1, 1) := by decide +kernel
theorem dX2_takeOrder_114 : decode cX2_takeOrder 114 = .ok (.invokevirtual 146, 3) := by decide +kernel
theorem dX2_takeOrder_117 : decode cX2_takeOrder 117 = .ok (.ifCond .ne 7, 3) := by decide +kernel
theorem dX2_takeOrder_120 : decode cX2_takeOrder 120 = .ok (.iconst 1, 1) := by decide +kernel
theorem dX2_takeOrder_121 : decode cX2_takeOrder 121 = .ok (.goto 4, 3) := by decide +kernel
theorem dX2_takeOrder_124 : decode cX2_takeOrder 124 = .ok (.iconst 0, 1) := by decide +kernel
theorem dX2_takeOrder_125 : decode cX2_takeOrder 125 = .ok (.istore 4, 2) := by decide +kernel
theorem dX2_takeOrder_127 : decode cX2_takeOrder 127 = .ok (.iinc 5 1, 3) := by decide +kernel
theorem dX2_takeOrder_130 : decode cX2_takeOrder 130 = .ok (.goto (-105), 3) := by decide +kernel
theorem dX2_takeOrder_133 : decode cX2_takeOrder 133 = .ok (.aload_n 1, 1) := by decide +kernel
theorem dX2_takeOrder_134 : decode cX2_takeOrder 134 = .ok (.invokevirtual 89, 3) := by decide +kernel
theorem dX2_takeOrder_137 : decode cX2_takeOrder 137 = .ok (.ireturn, 1) := by decide +kernel
theorem dX2_takeRead_0 : decode cX2_takeRead 0 = .ok (.aload_n 0, 1) := by decide +kernel
theorem dX2_takeRead_1 : decode cX2_takeRead 1 = .ok (.invokevirtual 75, 3) := by decide +kernel
theorem dX2_takeRead_4 : decode cX2_takeRead 4 = .ok (.aload_n 0, 1) := by decide +kernel
theorem dX2_takeRead_5 : decode cX2_takeRead 5 = .ok (.aload_n 1, 1) := by decide +kernel
theorem dX2_takeRead_6 : decode cX2_takeRead 6 = .ok (.getfield 149, 3) := by decide +kernel
theorem dX2_takeRead_9 : decode cX2_takeRead 9 = .ok (.aload_n 1, 1) := by decide +kernel
theorem dX2_takeRead_10 : decode cX2_takeRead 10 = .ok (.getfield 108, 3) := by decide +kernel
theorem dX2_takeRead_13 : decode cX2_takeRead 13 = .ok (.invokevirtual 118, 3) := by decide +kernel
theorem dX2_takeRead_16 : decode cX2_takeRead 16 = .ok (.istore_n 2, 1) := by decide +kernel
theorem dX2_takeRead_17 : decode cX2_takeRead 17 = .ok (.iload_n 2, 1) := by decide +kernel
theorem dX2_takeRead_18 : decode cX2_takeRead 18 = .ok (.iconst (-1), 1) := by decide +kernel
theorem dX2_takeRead_19 : decode cX2_takeRead 19 = .ok (.if_icmp .ne 7, 3) := by decide +kernel
theorem dX2_takeRead_22 : decode cX2_takeRead 22 = .ok (.iconst (-1), 1) := by decide +kernel
theorem dX2_takeRead_23 : decode cX2_takeRead 23 = .ok (.goto 12, 3) := by decide +kernel
theorem dX2_takeRead_26 : decode cX2_takeRead 26 = .ok (.aload_n 0, 1) := by decide +kernel
theorem dX2_takeRead_27 : decode cX2_takeRead 27 = .ok (.bipush 11, 2) := by decide +kernel
theorem dX2_takeRead_29 : decode cX2_takeRead 29 = .ok (.iconst 0, 1) := by decide +kernel
theorem dX2_takeRead_30 : decode cX2_takeRead 30 = .ok (.bipush 16, 2) := by decide +kernel
theorem dX2_takeRead_32 : decode cX2_takeRead 32 = .ok (.invokestatic 100, 3) := by decide +kernel
theorem dX2_takeRead_35 : decode cX2_takeRead 35 = .ok (.istore_n 3, 1) := by decide +kernel
theorem dX2_takeRead_36 : decode cX2_takeRead 36 = .ok (.iload_n 3, 1) := by decide +kernel
theorem dX2_takeRead_37 : decode cX2_takeRead 37 = .ok (.iconst (-1), 1) := by decide +kernel
theorem dX2_takeRead_38 : decode cX2_takeRead 38 = .ok (.if_icmp .ne 5, 3) := by decide +kernel
theorem dX2_takeRead_41 : decode cX2_takeRead 41 = .ok (.iconst 0, 1) := by decide +kernel
theorem dX2_takeRead_42 : decode cX2_takeRead 42 = .ok (.ireturn, 1) := by decide +kernel
theorem dX2_takeRead_43 : decode cX2_takeRead 43 = .ok (.aload_n 1, 1) := by decide +kernel
theorem dX2_takeRead_44 : decode cX2_takeRead 44 = .ok (.getfield 52, 3) := by decide +kernel
theorem dX2_takeRead_47 : decode cX2_takeRead 47 = .ok (.getfield 152, 3) := by decide +kernel
theorem dX2_takeRead_50 : decode cX2_takeRead 50 = .ok (.iload_n 2, 1) := by decide +kernel
theorem dX2_takeRead_51 : decode cX2_takeRead 51 = .ok (.iload_n 3, 1) := by decide +kernel
theorem dX2_takeRead_52 : decode cX2_takeRead 52 = .ok (.iastore, 1) := by decide +kernel
theorem dX2_takeRead_53 : decode cX2_takeRead 53 = .ok (.iconst 1, 1) := by decide +kernel
theorem dX2_takeRead_54 : decode cX2_takeRead 54 = .ok (.ireturn, 1) := by decide +kernel
theorem dX3_init_0 : decode cX3_init 0 = .ok (.aload_n 0, 1) := by decide +kernel
theorem dX3_init_1 : decode cX3_init 1 = .ok (.invokespecial 3, 3) := by decide +kernel
theorem dX3_init_4 : decode cX3_init 4 = .ok (.aload_n 0, 1) := by decide +kernel
theorem dX3_init_5 : decode cX3_init 5 = .ok (.iconst 0, 1) := by decide +kernel
theorem dX3_init_6 : decode cX3_init 6 = .ok (.putfield 9, 3) := by decide +kernel
theorem dX3_init_9 : decode cX3_init 9 = .ok (.aload_n 0, 1) := by decide +kernel
theorem dX3_init_10 : decode cX3_init 10 = .ok (.iconst 0, 1) := by decide +kernel
theorem dX3_init_11 : decode cX3_init 11 = .ok (.putfield 15, 3) := by decide +kernel
theorem dX3_init_14 : decode cX3_init 14 = .ok (.aload_n 0, 1) := by decide +kernel
theorem dX3_init_15 : decode cX3_init 15 = .ok (.iconst 0, 1) := by decide +kernel
theorem dX3_init_16 : decode cX3_init 16 = .ok (.putfield 18, 3) := by decide +kernel
theorem dX3_init_19 : decode cX3_init 19 = .ok (.aload_n 0, 1) := by decide +kernel
theorem dX3_init_20 : decode cX3_init 20 = .ok (.iconst 0, 1) := by decide +kernel
theorem dX3_init_21 : decode cX3_init 21 = .ok (.putfield 21, 3) := by decide +kernel
theorem dX3_init_24 : decode cX3_init 24 = .ok (.aload_n 0, 1) := by decide +kernel
theorem dX3_init_25 : decode cX3_init 25 = .ok (.iconst 0, 1) := by decide +kernel
theorem dX3_init_26 : decode cX3_init 26 = .ok (.putfield 24, 3) := by decide +kernel
theorem dX3_init_29 : decode cX3_init 29 = .ok (.aload_n 0, 1) := by decide +kernel
theorem dX3_init_30 : decode cX3_init 30 = .ok (.iconst 0, 1) := by decide +kernel
theorem dX3_init_31 : decode cX3_init 31 = .ok (.putfield 27, 3) := by decide +kernel
theorem dX3_init_34 : decode cX3_init 34 = .ok (.aload_n 0, 1) := by decide +kernel
theorem dX3_init_35 : decode cX3_init 35 = .ok (.iconst 0, 1) := by decide +kernel
theorem dX3_init_36 : decode cX3_init 36 = .ok (.putfield 30, 3) := by decide +kernel
theorem dX3_init_39 : decode cX3_init 39 = .ok (.aload_n 0, 1) := by decide +kernel
theorem dX3_init_40 : decode cX3_init 40 = .ok (.bipush 60, 2) := by decide +kernel
theorem dX3_init_42 : decode cX3_init 42 = .ok (.newarray .int, 2) := by decide +kernel
theorem dX3_init_44 : decode cX3_init 44 = .ok (.putfield 35, 3) := by decide +kernel
theorem dX3_init_47 : decode cX3_init 47 = .ok (.aload_n 0, 1) := by decide +kernel
theorem dX3_init_48 : decode cX3_init 48 = .ok (.new 39, 3) := by decide +kernel
theorem dX3_init_51 : decode cX3_init 51 = .ok (.dup, 1) := by decide +kernel
theorem dX3_init_52 : decode cX3_init 52 = .ok (.invokespecial 41, 3) := by decide +kernel
theorem dX3_init_55 : decode cX3_init 55 = .ok (.putfield 42, 3) := by decide +kernel
theorem dX3_init_58 : decode cX3_init 58 = .ok (.return_, 1) := by decide +kernel
theorem dX4_init_0 : decode cX4_init 0 = .ok (.aload_n 0, 1) := by decide +kernel
theorem dX4_init_1 : decode cX4_init 1 = .ok (.invokespecial 3, 3) := by decide +kernel
theorem dX4_init_4 : decode cX4_init 4 = .ok (.aload_n 0, 1) := by decide +kernel
theorem dX4_init_5 : decode cX4_init 5 = .ok (.lconst 0, 1) := by decide +kernel
theorem dX4_init_6 : decode cX4_init 6 = .ok (.putfield 9, 3) := by decide +kernel
theorem dX4_init_9 : decode cX4_init 9 = .ok (.aload_n 0, 1) := by decide +kernel
theorem dX4_init_10 : decode cX4_init 10 = .ok (.lconst 1, 1) := by decide +kernel
theorem dX4_init_11 : decode cX4_init 11 = .ok (.putfield 15, 3) := by decide +kernel
theorem dX4_init_14 : decode cX4_init 14 = .ok (.aload_n 0, 1) := by decide +kernel
theorem dX4_init_15 : decode cX4_init 15 = .ok (.bipush 64, 2) := by decide +kernel
theorem dX4_init_17 : decode cX4_init 17 = .ok (.newarray .long, 2) := by decide +kernel
theorem dX4_init_19 : decode cX4_init 19 = .ok (.putfield 18, 3) := by decide +kernel
theorem dX4_init_22 : decode cX4_init 22 = .ok (.aload_n 0, 1) := by decide +kernel
theorem dX4_init_23 : decode cX4_init 23 = .ok (.bipush 64, 2) := by decide +kernel
theorem dX4_init_25 : decode cX4_init 25 = .ok (.newarray .int, 2) := by decide +kernel
theorem dX4_init_27 : decode cX4_init 27 = .ok (.putfield 22, 3) := by decide +kernel
theorem dX4_init_30 : decode cX4_init 30 = .ok (.return_, 1) := by decide +kernel
theorem dX4_keep_0 : decode cX4_keep 0 = .ok (.lload_n 3, 1) := by decide +kernel
theorem dX4_keep_1 : decode cX4_keep 1 = .ok (.lload_n 1, 1) := by decide +kernel
theorem dX4_keep_2 : decode cX4_keep 2 = .ok (.invokestatic 26, 3) := by decide +kernel
theorem dX4_keep_5 : decode cX4_keep 5 = .ok (.lstore 5, 2) := by decide +kernel
theorem dX4_keep_7 : decode cX4_keep 7 = .ok (.lload 5, 2) := by decide +kernel
theorem dX4_keep_9 : decode cX4_keep 9 = .ok (.lconst 0, 1) := by decide +kernel
theorem dX4_keep_10 : decode cX4_keep 10 = .ok (.lcmp, 1) := by decide +kernel
theorem dX4_keep_11 : decode cX4_keep 11 = .ok (.ifCond .le 19, 3) := by decide +kernel
theorem dX4_keep_14 : decode cX4_keep 14 = .ok (.aload_n 0, 1) := by decide +kernel
theorem dX4_keep_15 : decode cX4_keep 15 = .ok (.lload_n 1, 1) := by decide +kernel
theorem dX4_keep_16 : decode cX4_keep 16 = .ok (.lload 5, 2) := by decide +kernel
theorem dX4_keep_18 : decode cX4_keep 18 = .ok (.ldiv, 1) := by decide +kernel
theorem dX4_keep_19 : decode cX4_keep 19 = .ok (.putfield 9, 3) := by decide +kernel
theorem dX4_keep_22 : decode cX4_keep 22 = .ok (.aload_n 0, 1) := by decide +kernel
theorem dX4_keep_23 : decode cX4_keep 23 = .ok (.lload_n 3, 1) := by decide +kernel
theorem dX4_keep_24 : decode cX4_keep 24 = .ok (.lload 5, 2) := by decide +kernel
theorem dX4_keep_26 : decode cX4_keep 26 = .ok (.ldiv, 1) := by decide +kernel
theorem dX4_keep_27 : decode cX4_keep 27 = .ok (.putfield 15, 3) := by decide +kernel
theorem dX4_keep_30 : decode cX4_keep 30 = .ok (.return_, 1) := by decide +kernel
theorem dX4_commonDivisor_0 : decode cX4_commonDivisor 0 = .ok (.lload_n 0, 1) := by decide +kernel
theorem dX4_commonDivisor_1 : decode cX4_commonDivisor 1 = .ok (.lstore 4, 2) := by decide +kernel
theorem dX4_commonDivisor_3 : decode cX4_commonDivisor 3 = .ok (.lload_n 2, 1) := by decide +kernel
theorem dX4_commonDivisor_4 : decode cX4_commonDivisor 4 = .ok (.lstore 6, 2) := by decide +kernel
theorem dX4_commonDivisor_6 : decode cX4_commonDivisor 6 = .ok (.iconst 0, 1) := by decide +kernel
theorem dX4_commonDivisor_7 : decode cX4_commonDivisor 7 = .ok (.istore 8, 2) := by decide +kernel
theorem dX4_commonDivisor_9 : decode cX4_commonDivisor 9 = .ok (.iload 8, 2) := by decide +kernel
theorem dX4_commonDivisor_11 : decode cX4_commonDivisor 11 = .ok (.sipush 200, 3) := by decide +kernel
theorem dX4_commonDivisor_14 : decode cX4_commonDivisor 14 = .ok (.if_icmp .ge 31, 3) := by decide +kernel
theorem dX4_commonDivisor_17 : decode cX4_commonDivisor 17 = .ok (.lload 6, 2) := by decide +kernel
theorem dX4_commonDivisor_19 : decode cX4_commonDivisor 19 = .ok (.lconst 0, 1) := by decide +kernel
theorem dX4_commonDivisor_20 : decode cX4_commonDivisor 20 = .ok (.lcmp, 1) := by decide +kernel
theorem dX4_commonDivisor_21 : decode cX4_commonDivisor 21 = .ok (.ifCond .eq 24, 3) := by decide +kernel
theorem dX4_commonDivisor_24 : decode cX4_commonDivisor 24 = .ok (.lload 4, 2) := by decide +kernel
theorem dX4_commonDivisor_26 : decode cX4_commonDivisor 26 = .ok (.lload 6, 2) := by decide +kernel
theorem dX4_commonDivisor_28 : decode cX4_commonDivisor 28 = .ok (.lrem, 1) := by decide +kernel
theorem dX4_commonDivisor_29 : decode cX4_commonDivisor 29 = .ok (.lstore 9, 2) := by decide +kernel
theorem dX4_commonDivisor_31 : decode cX4_commonDivisor 31 = .ok (.lload 6, 2) := by decide +kernel
theorem dX4_commonDivisor_33 : decode cX4_commonDivisor 33 = .ok (.lstore 4, 2) := by decide +kernel
theorem dX4_commonDivisor_35 : decode cX4_commonDivisor 35 = .ok (.lload 9, 2) := by decide +kernel
theorem dX4_commonDivisor_37 : decode cX4_commonDivisor 37 = .ok (.lstore 6, 2) := by decide +kernel
theorem dX4_commonDivisor_39 : decode cX4_commonDivisor 39 = .ok (.iinc 8 1, 3) := by decide +kernel
theorem dX4_commonDivisor_42 : decode cX4_commonDivisor 42 = .ok (.goto (-33), 3) := by decide +kernel
theorem dX4_commonDivisor_45 : decode cX4_commonDivisor 45 = .ok (.lload 4, 2) := by decide +kernel
theorem dX4_commonDivisor_47 : decode cX4_commonDivisor 47 = .ok (.lreturn, 1) := by decide +kernel
theorem dX4_tellMix_0 : decode cX4_tellMix 0 = .ok (.aload_n 1, 1) := by decide +kernel
theorem dX4_tellMix_1 : decode cX4_tellMix 1 = .ok (.invokestatic 61, 3) := by decide +kernel
theorem dX4_tellMix_4 : decode cX4_tellMix 4 = .ok (.istore_n 3, 1) := by decide +kernel
theorem dX4_tellMix_5 : decode cX4_tellMix 5 = .ok (.iload_n 3, 1) := by decide +kernel
theorem dX4_tellMix_6 : decode cX4_tellMix 6 = .ok (.iconst (-1), 1) := by decide +kernel
theorem dX4_tellMix_7 : decode cX4_tellMix 7 = .ok (.if_icmp .eq 21, 3) := by decide +kernel
theorem dX4_tellMix_10 : decode cX4_tellMix 10 = .ok (.aload_n 0, 1) := by decide +kernel
theorem dX4_tellMix_11 : decode cX4_tellMix 11 = .ok (.iload_n 2, 1) := by decide +kernel
theorem dX4_tellMix_12 : decode cX4_tellMix 12 = .ok (.iload_n 3, 1) := by decide +kernel
theorem dX4_tellMix_13 : decode cX4_tellMix 13 = .ok (.if_icmp .ne 7, 3) := by decide +kernel
theorem dX4_tellMix_16 : decode cX4_tellMix 16 = .ok (.lconst 1, 1) := by decide +kernel
theorem dX4_tellMix_17 : decode cX4_tellMix 17 = .ok (.goto 4, 3) := by decide +kernel
theorem dX4_tellMix_20 : decode cX4_tellMix 20 = .ok (.lconst 0, 1) := by decide +kernel
theorem dX4_tellMix_21 : decode cX4_tellMix 21 = .ok (.lconst 1, 1) := by decide +kernel
theorem dX4_tellMix_22 : decode cX4_tellMix 22 = .ok (.invokevirtual 57, 3) := by decide +kernel
theorem dX4_tellMix_25 : decode cX4_tellMix 25 = .ok (.goto 16, 3) := by decide +kernel
theorem dX4_tellMix_28 : decode cX4_tellMix 28 = .ok (.aload_n 0, 1) := by decide +kernel
theorem dX4_tellMix_29 : decode cX4_tellMix 29 = .ok (.aload_n 1, 1) := by decide +kernel
theorem dX4_tellMix_30 : decode cX4_tellMix 30 = .ok (.iload_n 2, 1) := by decide +kernel
theorem dX4_tellMix_31 : decode cX4_tellMix 31 = .ok (.invokestatic 71, 3) := by decide +kernel
theorem dX4_tellMix_34 : decode cX4_tellMix 34 = .ok (.aload_n 1, 1) := by decide +kernel
theorem dX4_tellMix_35 : decode cX4_tellMix 35 = .ok (.invokestatic 65, 3) := by decide +kernel
theorem dX4_tellMix_38 : decode cX4_tellMix 38 = .ok (.invokevirtual 57, 3) := by decide +kernel
theorem dX4_tellMix_41 : decode cX4_tellMix 41 = .ok (.return_, 1) := by decide +kernel
theorem dX4_firstSafe_0 : decode cX4_firstSafe 0 = .ok (.iconst 0, 1) := by decide +kernel
theorem dX4_firstSafe_1 : decode cX4_firstSafe 1 = .ok (.istore_n 1, 1) := by decide +kernel
theorem dX4_firstSafe_2 : decode cX4_firstSafe 2 = .ok (.iload_n 1, 1) := by decide +kernel
theorem dX4_firstSafe_3 : decode cX4_firstSafe 3 = .ok (.aload_n 0, 1) := by decide +kernel
theorem dX4_firstSafe_4 : decode cX4_firstSafe 4 = .ok (.getfield 30, 3) := by decide +kernel
theorem dX4_firstSafe_7 : decode cX4_firstSafe 7 = .ok (.if_icmp .ge 37, 3) := by decide +kernel
theorem dX4_firstSafe_10 : decode cX4_firstSafe 10 = .ok (.aload_n 0, 1) := by decide +kernel
theorem dX4_firstSafe_11 : decode cX4_firstSafe 11 = .ok (.getfield 36, 3) := by decide +kernel
theorem dX4_firstSafe_14 : decode cX4_firstSafe 14 = .ok (.getfield 40, 3) := by decide +kernel
theorem dX4_firstSafe_17 : decode cX4_firstSafe 17 = .ok (.iload_n 1, 1) := by decide +kernel
theorem dX4_firstSafe_18 : decode cX4_firstSafe 18 = .ok (.invokestatic 45, 3) := by decide +kernel
theorem dX4_firstSafe_21 : decode cX4_firstSafe 21 = .ok (.ifCond .ne 17, 3) := by decide +kernel
theorem dX4_firstSafe_24 : decode cX4_firstSafe 24 = .ok (.aload_n 0, 1) := by decide +kernel
theorem dX4_firstSafe_25 : decode cX4_firstSafe 25 = .ok (.getfield 36, 3) := by decide +kernel
theorem dX4_firstSafe_28 : decode cX4_firstSafe 28 = .ok (.getfield 52, 3) := by decide +kernel
theorem dX4_firstSafe_31 : decode cX4_firstSafe 31 = .ok (.iload_n 1, 1) := by decide +kernel
theorem dX4_firstSafe_32 : decode cX4_firstSafe 32 = .ok (.iaload, 1) := by decide +kernel
theorem dX4_firstSafe_33 : decode cX4_firstSafe 33 = .ok (.ifCond .ne 5, 3) := by decide +kernel
theorem dX4_firstSafe_36 : decode cX4_firstSafe 36 = .ok (.iload_n 1, 1) := by decide +kernel
theorem dX4_firstSafe_37 : decode cX4_firstSafe 37 = .ok (.ireturn, 1) := by decide +kernel
theorem dX4_firstSafe_38 : decode cX4_firstSafe 38 = .ok (.iinc 1 1, 3) := by decide +kernel
theorem dX4_firstSafe_41 : decode cX4_firstSafe 41 = .ok (.goto (-39), 3) := by decide +kernel
theorem dX4_firstSafe_44 : decode cX4_firstSafe 44 = .ok (.iconst (-1), 1) := by decide +kernel
theorem dX4_firstSafe_45 : decode cX4_firstSafe 45 = .ok (.ireturn, 1) := by decide +kernel
theorem dX4_part_0 : decode cX4_part 0 = .ok (.aload_n 0, 1) := by decide +kernel
theorem dX4_part_1 : decode cX4_part 1 = .ok (.getfield 36, 3) := by decide +kernel
theorem dX4_part_4 : decode cX4_part 4 = .ok (.getfield 52, 3) := by decide +kernel
theorem dX4_part_7 : decode cX4_part 7 = .ok (.iload_n 1, 1) := by decide +kernel
theorem dX4_part_8 : decode cX4_part 8 = .ok (.iaload, 1) := by decide +kernel
theorem dX4_part_9 : decode cX4_part 9 = .ok (.istore_n 2, 1) := by decide +kernel
theorem dX4_part_10 : decode cX4_part 10 = .ok (.iload_n 2, 1) := by decide +kernel
theorem dX4_part_11 : decode cX4_part 11 = .ok (.ifCond .ne 7, 3) := by decide +kernel
theorem dX4_part_14 : decode cX4_part 14 = .ok (.lconst 0, 1) := by decide +kernel
theorem dX4_part_15 : decode cX4_part 15 = .ok (.goto 9, 3) := by decide +kernel
theorem dX4_part_18 : decode cX4_part 18 = .ok (.ldc2_w 69, 3) := by decide +kernel
theorem dX4_part_21 : decode cX4_part 21 = .ok (.iload_n 2, 1) := by decide +kernel
theorem dX4_part_22 : decode cX4_part 22 = .ok (.i2l, 1) := by decide +kernel
theorem dX4_part_23 : decode cX4_part 23 = .ok (.ldiv, 1) := by decide +kernel
theorem dX4_part_24 : decode cX4_part 24 = .ok (.lreturn, 1) := by decide +kernel
theorem dX4_sumOfParts_0 : decode cX4_sumOfParts 0 = .ok (.lconst 0, 1) := by decide +kernel
theorem dX4_sumOfParts_1 : decode cX4_sumOfParts 1 = .ok (.lstore_n 1, 1) := by decide +kernel
theorem dX4_sumOfParts_2 : decode cX4_sumOfParts 2 = .ok (.iconst 0, 1) := by decide +kernel
theorem dX4_sumOfParts_3 : decode cX4_sumOfParts 3 = .ok (.istore_n 3, 1) := by decide +kernel
theorem dX4_sumOfParts_4 : decode cX4_sumOfParts 4 = .ok (.iload_n 3, 1) := by decide +kernel
theorem dX4_sumOfParts_5 : decode cX4_sumOfParts 5 = .ok (.aload_n 0, 1) := by decide +kernel
theorem dX4_sumOfParts_6 : decode cX4_sumOfParts 6 = .ok (.getfield 30, 3) := by decide +kernel
theorem dX4_sumOfParts_9 : decode cX4_sumOfParts 9 = .ok (.if_icmp .ge 31, 3) := by decide +kernel
theorem dX4_sumOfParts_12 : decode cX4_sumOfParts 12 = .ok (.aload_n 0, 1) := by decide +kernel
theorem dX4_sumOfParts_13 : decode cX4_sumOfParts 13 = .ok (.getfield 36, 3) := by decide +kernel
theorem dX4_sumOfParts_16 : decode cX4_sumOfParts 16 = .ok (.getfield 40, 3) := by decide +kernel
theorem dX4_sumOfParts_19 : decode cX4_sumOfParts 19 = .ok (.iload_n 3, 1) := by decide +kernel
theorem dX4_sumOfParts_20 : decode cX4_sumOfParts 20 = .ok (.invokestatic 45, 3) := by decide +kernel
theorem dX4_sumOfParts_23 : decode cX4_sumOfParts 23 = .ok (.ifCond .ne 11, 3) := by decide +kernel
theorem dX4_sumOfParts_26 : decode cX4_sumOfParts 26 = .ok (.lload_n 1, 1) := by decide +kernel
theorem dX4_sumOfParts_27 : decode cX4_sumOfParts 27 = .ok (.aload_n 0, 1) := by decide +kernel
theorem dX4_sumOfParts_28 : decode cX4_sumOfParts 28 = .ok (.iload_n 3, 1) := by decide +kernel
theorem dX4_sumOfParts_29 : decode cX4_sumOfParts 29 = .ok (.invokestatic 71, 3) := by decide +kernel
theorem dX4_sumOfParts_32 : decode cX4_sumOfParts 32 = .ok (.ladd, 1) := by decide +kernel
theorem dX4_sumOfParts_33 : decode cX4_sumOfParts 33 = .ok (.lstore_n 1, 1) := by decide +kernel
theorem dX4_sumOfParts_34 : decode cX4_sumOfParts 34 = .ok (.iinc 3 1, 3) := by decide +kernel
theorem dX4_sumOfParts_37 : decode cX4_sumOfParts 37 = .ok (.goto (-33), 3) := by decide +kernel
theorem dX4_sumOfParts_40 : decode cX4_sumOfParts 40 = .ok (.lload_n 1, 1) := by decide +kernel
theorem dX4_sumOfParts_41 : decode cX4_sumOfParts 41 = .ok (.lreturn, 1) := by decide +kernel
theorem dX5_init_0 : decode cX5_init 0 = .ok (.aload_n 0, 1) := by decide +kernel
theorem dX5_init_1 : decode cX5_init 1 = .ok (.invokespecial 3, 3) := by decide +kernel
theorem dX5_init_4 : decode cX5_init 4 = .ok (.aload_n 0, 1) := by decide +kernel
theorem dX5_init_5 : decode cX5_init 5 = .ok (.iconst 0, 1) := by decide +kernel
theorem dX5_init_6 : decode cX5_init 6 = .ok (.putfield 9, 3) := by decide +kernel
theorem dX5_init_9 : decode cX5_init 9 = .ok (.aload_n 0, 1) := by decide +kernel
theorem dX5_init_10 : decode cX5_init 10 = .ok (.iconst 0, 1) := by decide +kernel
theorem dX5_init_11 : decode cX5_init 11 = .ok (.putfield 15, 3) := by decide +kernel
theorem dX5_init_14 : decode cX5_init 14 = .ok (.aload_n 0, 1) := by decide +kernel
theorem dX5_init_15 : decode cX5_init 15 = .ok (.iconst 0, 1) := by decide +kernel
theorem dX5_init_16 : decode cX5_init 16 = .ok (.putfield 19, 3) := by decide +kernel
theorem dX5_init_19 : decode cX5_init 19 = .ok (.aload_n 0, 1) := by decide +kernel
theorem dX5_init_20 : decode cX5_init 20 = .ok (.bipush 60, 2) := by decide +kernel
theorem dX5_init_22 : decode cX5_init 22 = .ok (.newarray .int, 2) := by decide +kernel
theorem dX5_init_24 : decode cX5_init 24 = .ok (.putfield 22, 3) := by decide +kernel
theorem dX5_init_27 : decode cX5_init 27 = .ok (.aload_n 0, 1) := by decide +kernel
theorem dX5_init_28 : decode cX5_init 28 = .ok (.bipush 60, 2) := by decide +kernel
theorem dX5_init_30 : decode cX5_init 30 = .ok (.newarray .int, 2) := by decide +kernel
theorem dX5_init_32 : decode cX5_init 32 = .ok (.putfield 26, 3) := by decide +kernel
theorem dX5_init_35 : decode cX5_init 35 = .ok (.aload_n 0, 1) := by decide +kernel
theorem dX5_init_36 : decode cX5_init 36 = .ok (.bipush 60, 2) := by decide +kernel
theorem dX5_init_38 : decode cX5_init 38 = .ok (.newarray .int, 2) := by decide +kernel
theorem dX5_init_40 : decode cX5_init 40 = .ok (.putfield 29, 3) := by decide +kernel
theorem dX5_init_43 : decode cX5_init 43 = .ok (.aload_n 0, 1) := by decide +kernel
theorem dX5_init_44 : decode cX5_init 44 = .ok (.bipush 60, 2) := by decide +kernel
theorem dX5_init_46 : decode cX5_init 46 = .ok (.newarray .int, 2) := by decide +kernel
theorem dX5_init_48 : decode cX5_init 48 = .ok (.putfield 32, 3) := by decide +kernel
theorem dX5_init_51 : decode cX5_init 51 = .ok (.return_, 1) := by decide +kernel
theorem dX5_isTest_0 : decode cX5_isTest 0 = .ok (.iload_n 0, 1) := by decide +kernel
theorem dX5_isTest_1 : decode cX5_isTest 1 = .ok (.bipush 8, 2) := by decide +kernel
theorem dX5_isTest_3 : decode cX5_isTest 3 = .ok (.if_icmp .eq 15, 3) := by decide +kernel
theorem dX5_isTest_6 : decode cX5_isTest 6 = .ok (.iload_n 0, 1) := by decide +kernel
theorem dX5_isTest_7 : decode cX5_isTest 7 = .ok (.bipush 19, 2) := by decide +kernel
theorem dX5_isTest_9 : decode cX5_isTest 9 = .ok (.if_icmp .eq 9, 3) := by decide +kernel
theorem dX5_isTest_12 : decode cX5_isTest 12 = .ok (.iload_n 0, 1) := by decide +kernel
theorem dX5_isTest_13 : decode cX5_isTest 13 = .ok (.bipush 20, 2) := by decide +kernel
theorem dX5_isTest_15 : decode cX5_isTest 15 = .ok (.if_icmp .ne 7, 3) := by decide +kernel
theorem dX5_isTest_18 : decode cX5_isTest 18 = .ok (.iconst 1, 1) := by decide +kernel
theorem dX5_isTest_19 : decode cX5_isTest 19 = .ok (.goto 4, 3) := by decide +kernel
theorem dX5_isTest_22 : decode cX5_isTest 22 = .ok (.iconst 0, 1) := by decide +kernel
theorem dX5_isTest_23 : decode cX5_isTest 23 = .ok (.ireturn, 1) := by decide +kernel
theorem dX5_clear_0 : decode cX5_clear 0 = .ok (.aload_n 0, 1) := by decide +kernel
theorem dX5_clear_1 : decode cX5_clear 1 = .ok (.iconst 0, 1) := by decide +kernel
theorem dX5_clear_2 : decode cX5_clear 2 = .ok (.putfield 9, 3) := by decide +kernel
theorem dX5_clear_5 : decode cX5_clear 5 = .ok (.aload_n 0, 1) := by decide +kernel
theorem dX5_clear_6 : decode cX5_clear 6 = .ok (.iconst 0, 1) := by decide +kernel
theorem dX5_clear_7 : decode cX5_clear 7 = .ok (.putfield 15, 3) := by decide +kernel
theorem dX5_clear_10 : decode cX5_clear 10 = .ok (.aload_n 0, 1) := by decide +kernel
theorem dX5_clear_11 : decode cX5_clear 11 = .ok (.iconst 0, 1) := by decide +kernel
theorem dX5_clear_12 : decode cX5_clear 12 = .ok (.putfield 19, 3) := by decide +kernel
theorem dX5_clear_15 : decode cX5_clear 15 = .ok (.return_, 1) := by decide +kernel
theorem dX5_copyFrom_0 : decode cX5_copyFrom 0 = .ok (.aload_n 0, 1) := by decide +kernel
theorem dX5_copyFrom_1 : decode cX5_copyFrom 1 = .ok (.aload_n 1, 1) := by decide +kernel
theorem dX5_copyFrom_2 : decode cX5_copyFrom 2 = .ok (.getfield 9, 3) := by decide +kernel
theorem dX5_copyFrom_5 : decode cX5_copyFrom 5 = .ok (.putfield 9, 3) := by decide +kernel
theorem dX5_copyFrom_8 : decode cX5_copyFrom 8 = .ok (.aload_n 0, 1) := by decide +kernel
theorem dX5_copyFrom_9 : decode cX5_copyFrom 9 = .ok (.aload_n 1, 1) := by decide +kernel
theorem dX5_copyFrom_10 : decode cX5_copyFrom 10 = .ok (.getfield 15, 3) := by decide +kernel
theorem dX5_copyFrom_13 : decode cX5_copyFrom 13 = .ok (.putfield 15, 3) := by decide +kernel
theorem dX5_copyFrom_16 : decode cX5_copyFrom 16 = .ok (.aload_n 0, 1) := by decide +kernel
theorem dX5_copyFrom_17 : decode cX5_copyFrom 17 = .ok (.aload_n 1, 1) := by decide +kernel
theorem dX5_copyFrom_18 : decode cX5_copyFrom 18 = .ok (.getfield 19, 3) := by decide +kernel
theorem dX5_copyFrom_21 : decode cX5_copyFrom 21 = .ok (.putfield 19, 3) := by decide +kernel
theorem dX5_copyFrom_24 : decode cX5_copyFrom 24 = .ok (.aload_n 1, 1) := by decide +kernel
theorem dX5_copyFrom_25 : decode cX5_copyFrom 25 = .ok (.getfield 22, 3) := by decide +kernel
theorem dX5_copyFrom_28 : decode cX5_copyFrom 28 = .ok (.iconst 0, 1) := by decide +kernel
theorem dX5_copyFrom_29 : decode cX5_copyFrom 29 = .ok (.aload_n 0, 1) := by decide +kernel
theorem dX5_copyFrom_30 : decode cX5_copyFrom 30 = .ok (.getfield 22, 3) := by decide +kernel
theorem dX5_copyFrom_33 : decode cX5_copyFrom 33 = .ok (.iconst 0, 1) := by decide +kernel
theorem dX5_copyFrom_34 : decode cX5_copyFrom 34 = .ok (.aload_n 0, 1) := by decide +kernel
theorem dX5_copyFrom_35 : decode cX5_copyFrom 35 = .ok (.getfield 19, 3) := by decide +kernel
theorem dX5_copyFrom_38 : decode cX5_copyFrom 38 = .ok (.invokestatic 35, 3) := by decide +kernel
theorem dX5_copyFrom_41 : decode cX5_copyFrom 41 = .ok (.aload_n 1, 1) := by decide +kernel
theorem dX5_copyFrom_42 : decode cX5_copyFrom 42 = .ok (.getfield 26, 3) := by decide +kernel
theorem dX5_copyFrom_45 : decode cX5_copyFrom 45 = .ok (.iconst 0, 1) := by decide +kernel
theorem dX5_copyFrom_46 : decode cX5_copyFrom 46 = .ok (.aload_n 0, 1) := by decide +kernel
theorem dX5_copyFrom_47 : decode cX5_copyFrom 47 = .ok (.getfield 26, 3) := by decide +kernel
theorem dX5_copyFrom_50 : decode cX5_copyFrom 50 = .ok (.iconst 0, 1) := by decide +kernel
theorem dX5_copyFrom_51 : decode cX5_copyFrom 51 = .ok (.aload_n 0, 1) := by decide +kernel
theorem dX5_copyFrom_52 : decode cX5_copyFrom 52 = .ok (.getfield 19, 3) := by decide +kernel
theorem dX5_copyFrom_55 : decode cX5_copyFrom 55 = .ok (.invokestatic 35, 3) := by decide +kernel
theorem dX5_copyFrom_58 : decode cX5_copyFrom 58 = .ok (.aload_n 1, 1) := by decide +kernel
theorem dX5_copyFrom_59 : decode cX5_copyFrom 59 = .ok (.getfield 29, 3) := by decide +kernel
theorem dX5_copyFrom_62 : decode cX5_copyFrom 62 = .ok (.iconst 0, 1) := by decide +kernel
theorem dX5_copyFrom_63 : decode cX5_copyFrom 63 = .ok (.aload_n 0, 1) := by decide +kernel
theorem dX5_copyFrom_64 : decode cX5_copyFrom 64 = .ok (.getfield 29, 3) := by decide +kernel
theorem dX5_copyFrom_67 : decode cX5_copyFrom 67 = .ok (.iconst 0, 1) := by decide +kernel
theorem dX5_copyFrom_68 : decode cX5_copyFrom 68 = .ok (.aload_n 0, 1) := by decide +kernel
theorem dX5_copyFrom_69 : decode cX5_copyFrom 69 = .ok (.getfield 19, 3) := by decide +kernel
theorem dX5_copyFrom_72 : decode cX5_copyFrom 72 = .ok (.invokestatic 35, 3) := by decide +kernel
theorem dX5_copyFrom_75 : decode cX5_copyFrom 75 = .ok (.aload_n 1, 1) := by decide +kernel
theorem dX5_copyFrom_76 : decode cX5_copyFrom 76 = .ok (.getfield 32, 3) := by decide +kernel
theorem dX5_copyFrom_79 : decode cX5_copyFrom 79 = .ok (.iconst 0, 1) := by decide +kernel
theorem dX5_copyFrom_80 : decode cX5_copyFrom 80 = .ok (.aload_n 0, 1) := by decide +kernel
theorem dX5_copyFrom_81 : decode cX5_copyFrom 81 = .ok (.getfield 32, 3) := by decide +kernel
theorem dX5_copyFrom_84 : decode cX5_copyFrom 84 = .ok (.iconst 0, 1) := by decide +kernel
theorem dX5_copyFrom_85 : decode cX5_copyFrom 85 = .ok (.aload_n 0, 1) := by decide +kernel
theorem dX5_copyFrom_86 : decode cX5_copyFrom 86 = .ok (.getfield 19, 3) := by decide +kernel
theorem dX5_copyFrom_89 : decode cX5_copyFrom 89 = .ok (.invokestatic 35, 3) := by decide +kernel
theorem dX5_copyFrom_92 : decode cX5_copyFrom 92 = .ok (.return_, 1) := by decide +kernel
theorem dX5_add_0 : decode cX5_add 0 = .ok (.aload_n 0, 1) := by decide +kernel
theorem dX5_add_1 : decode cX5_add 1 = .ok (.getfield 19, 3) := by decide +kernel
theorem dX5_add_4 : decode cX5_add 4 = .ok (.bipush 60, 2) := by decide +kernel
theorem dX5_add_6 : decode cX5_add 6 = .ok (.if_icmp .lt 5, 3) := by decide +kernel
theorem dX5_add_9 : decode cX5_add 9 = .ok (.iconst (-1), 1) := by decide +kernel
theorem dX5_add_10 : decode cX5_add 10 = .ok (.ireturn, 1) := by decide +kernel
theorem dX5_add_11 : decode cX5_add 11 = .ok (.aload_n 0, 1) := by decide +kernel
theorem dX5_add_12 : decode cX5_add 12 = .ok (.getfield 22, 3) := by decide +kernel
theorem dX5_add_15 : decode cX5_add 15 = .ok (.aload_n 0, 1) := by decide +kernel
theorem dX5_add_16 : decode cX5_add 16 = .ok (.getfield 19, 3) := by decide +kernel
theorem dX5_add_19 : decode cX5_add 19 = .ok (.iload_n 1, 1) := by decide +kernel
theorem dX5_add_20 : decode cX5_add 20 = .ok (.iastore, 1) := by decide +kernel
theorem dX5_add_21 : decode cX5_add 21 = .ok (.aload_n 0, 1) := by decide +kernel
theorem dX5_add_22 : decode cX5_add 22 = .ok (.getfield 26, 3) := by decide +kernel
theorem dX5_add_25 : decode cX5_add 25 = .ok (.aload_n 0, 1) := by decide +kernel
theorem dX5_add_26 : decode cX5_add 26 = .ok (.getfield 19, 3) := by decide +kernel
theorem dX5_add_29 : decode cX5_add 29 = .ok (.iload_n 2, 1) := by decide +kernel
theorem dX5_add_30 : decode cX5_add 30 = .ok (.iastore, 1) := by decide +kernel
theorem dX5_add_31 : decode cX5_add 31 = .ok (.aload_n 0, 1) := by decide +kernel
theorem dX5_add_32 : decode cX5_add 32 = .ok (.getfield 29, 3) := by decide +kernel
theorem dX5_add_35 : decode cX5_add 35 = .ok (.aload_n 0, 1) := by decide +kernel
theorem dX5_add_36 : decode cX5_add 36 = .ok (.getfield 19, 3) := by decide +kernel
theorem dX5_add_39 : decode cX5_add 39 = .ok (.iload_n 3, 1) := by decide +kernel
theorem dX5_add_40 : decode cX5_add 40 = .ok (.iastore, 1) := by decide +kernel
theorem dX5_add_41 : decode cX5_add 41 = .ok (.aload_n 0, 1) := by decide +kernel
theorem dX5_add_42 : decode cX5_add 42 = .ok (.getfield 32, 3) := by decide +kernel
theorem dX5_add_45 : decode cX5_add 45 = .ok (.aload_n 0, 1) := by decide +kernel
theorem dX5_add_46 : decode cX5_add 46 = .ok (.getfield 19, 3) := by decide +kernel
theorem dX5_add_49 : decode cX5_add 49 = .ok (.iconst (-1), 1) := by decide +kernel
theorem dX5_add_50 : decode cX5_add 50 = .ok (.iastore, 1) := by decide +kernel
theorem dX5_add_51 : decode cX5_add 51 = .ok (.aload_n 0, 1) := by decide +kernel
theorem dX5_add_52 : decode cX5_add 52 = .ok (.dup, 1) := by decide +kernel
theorem dX5_add_53 : decode cX5_add 53 = .ok (.getfield 19, 3) := by decide +kernel
theorem dX5_add_56 : decode cX5_add 56 = .ok (.iconst 1, 1) := by decide +kernel
theorem dX5_add_57 : decode cX5_add 57 = .ok (.iadd, 1) := by decide +kernel
theorem dX5_add_58 : decode cX5_add 58 = .ok (.putfield 19, 3) := by decide +kernel
theorem dX5_add_61 : decode cX5_add 61 = .ok (.aload_n 0, 1) := by decide +kernel
theorem dX5_add_62 : decode cX5_add 62 = .ok (.getfield 19, 3) := by decide +kernel
theorem dX5_add_65 : decode cX5_add 65 = .ok (.iconst 1, 1) := by decide +kernel
theorem dX5_add_66 : decode cX5_add 66 = .ok (.isub, 1) := by decide +kernel
theorem dX5_add_67 : decode cX5_add 67 = .ok (.ireturn, 1) := by decide +kernel
theorem dX5_close_0 : decode cX5_close 0 = .ok (.aload_n 0, 1) := by decide +kernel
theorem dX5_close_1 : decode cX5_close 1 = .ok (.bipush 22, 2) := by decide +kernel
theorem dX5_close_3 : decode cX5_close 3 = .ok (.iconst 0, 1) := by decide +kernel
theorem dX5_close_4 : decode cX5_close 4 = .ok (.iconst 0, 1) := by decide +kernel
theorem dX5_close_5 : decode cX5_close 5 = .ok (.invokevirtual 41, 3) := by decide +kernel
theorem dX5_close_8 : decode cX5_close 8 = .ok (.istore_n 2, 1) := by decide +kernel
theorem dX5_close_9 : decode cX5_close 9 = .ok (.iload_n 2, 1) := by decide +kernel
theorem dX5_close_10 : decode cX5_close 10 = .ok (.iconst (-1), 1) := by decide +kernel
theorem dX5_close_11 : decode cX5_close 11 = .ok (.if_icmp .eq 26, 3) := by decide +kernel
theorem dX5_close_14 : decode cX5_close 14 = .ok (.iload_n 1, 1) := by decide +kernel
theorem dX5_close_15 : decode cX5_close 15 = .ok (.ifCond .lt 22, 3) := by decide +kernel
theorem dX5_close_18 : decode cX5_close 18 = .ok (.iload_n 1, 1) := by decide +kernel
theorem dX5_close_19 : decode cX5_close 19 = .ok (.iload_n 2, 1) := by decide +kernel
theorem dX5_close_20 : decode cX5_close 20 = .ok (.if_icmp .ge 17, 3) := by decide +kernel
theorem dX5_close_23 : decode cX5_close 23 = .ok (.aload_n 0, 1) := by decide +kernel
theorem dX5_close_24 : decode cX5_close 24 = .ok (.getfield 32, 3) := by decide +kernel
theorem dX5_close_27 : decode cX5_close 27 = .ok (.iload_n 2, 1) := by decide +kernel
theorem dX5_close_28 : decode cX5_close 28 = .ok (.iload_n 1, 1) := by decide +kernel
theorem dX5_close_29 : decode cX5_close 29 = .ok (.iastore, 1) := by decide +kernel
theorem dX5_close_30 : decode cX5_close 30 = .ok (.aload_n 0, 1) := by decide +kernel
theorem dX5_close_31 : decode cX5_close 31 = .ok (.getfield 32, 3) := by decide +kernel
theorem dX5_close_34 : decode cX5_close 34 = .ok (.iload_n 1, 1) := by decide +kernel
theorem dX5_close_35 : decode cX5_close 35 = .ok (.iload_n 2, 1) := by decide +kernel
theorem dX5_close_36 : decode cX5_close 36 = .ok (.iastore, 1) := by decide +kernel
theorem dX5_close_37 : decode cX5_close 37 = .ok (.return_, 1) := by decide +kernel
theorem dX6_init_0 : decode cX6_init 0 = .ok (.aload_n 0, 1) := by decide +kernel
theorem dX6_init_1 : decode cX6_init 1 = .ok (.invokespecial 3, 3) := by decide +kernel
theorem dX6_init_4 : decode cX6_init 4 = .ok (.aload_n 0, 1) := by decide +kernel
theorem dX6_init_5 : decode cX6_init 5 = .ok (.iconst 3, 1) := by decide +kernel
theorem dX6_init_6 : decode cX6_init 6 = .ok (.newarray .int, 2) := by decide +kernel
theorem dX6_init_8 : decode cX6_init 8 = .ok (.putfield 9, 3) := by decide +kernel
theorem dX6_init_11 : decode cX6_init 11 = .ok (.aload_n 0, 1) := by decide +kernel
theorem dX6_init_12 : decode cX6_init 12 = .ok (.iconst 0, 1) := by decide +kernel
theorem dX6_init_13 : decode cX6_init 13 = .ok (.putfield 15, 3) := by decide +kernel
theorem dX6_init_16 : decode cX6_init 16 = .ok (.return_, 1) := by decide +kernel
theorem dX6_take_0 : decode cX6_take 0 = .ok (.aload_n 3, 1) := by decide +kernel
theorem dX6_take_1 : decode cX6_take 1 = .ok (.invokevirtual 19, 3) := by decide +kernel
theorem dX6_take_4 : decode cX6_take 4 = .ok (.aload_n 0, 1) := by decide +kernel
theorem dX6_take_5 : decode cX6_take 5 = .ok (.iconst 0, 1) := by decide +kernel
theorem dX6_take_6 : decode cX6_take 6 = .ok (.putfield 15, 3) := by decide +kernel
theorem dX6_take_9 : decode cX6_take 9 = .ok (.iconst 1, 1) := by decide +kernel
theorem dX6_take_10 : decode cX6_take 10 = .ok (.istore 4, 2) := by decide +kernel
theorem dX6_take_12 : decode cX6_take 12 = .ok (.iconst 0, 1) := by decide +kernel
theorem dX6_take_13 : decode cX6_take 13 = .ok (.istore 5, 2) := by decide +kernel
theorem dX6_take_15 : decode cX6_take 15 = .ok (.iload 5, 2) := by decide +kernel
theorem dX6_take_17 : decode cX6_take 17 = .ok (.sipush 300, 3) := by decide +kernel
theorem dX6_take_20 : decode cX6_take 20 = .ok (.if_icmp .ge 48, 3) := by decide +kernel
theorem dX6_take_23 : decode cX6_take 23 = .ok (.iload 4, 2) := by decide +kernel
theorem dX6_take_25 : decode cX6_take 25 = .ok (.ifCond .eq 43, 3) := by decide +kernel
theorem dX6_take_28 : decode cX6_take 28 = .ok (.aload_n 1, 1) := by decide +kernel
theorem dX6_take_29 : decode cX6_take 29 = .ok (.getfield 24, 3) := by decide +kernel
theorem dX6_take_32 : decode cX6_take 32 = .ok (.ifCond .eq 36, 3) := by decide +kernel
theorem dX6_take_35 : decode cX6_take 35 = .ok (.aload_n 1, 1) := by decide +kernel
theorem dX6_take_36 : decode cX6_take 36 = .ok (.getfield 29, 3) := by decide +kernel
theorem dX6_take_39 : decode cX6_take 39 = .ok (.bipush 22, 2) := by decide +kernel
theorem dX6_take_41 : decode cX6_take 41 = .ok (.if_icmp .ne 12, 3) := by decide +kernel
theorem dX6_take_44 : decode cX6_take 44 = .ok (.aload_n 0, 1) := by decide +kernel
theorem dX6_take_45 : decode cX6_take 45 = .ok (.aload_n 1, 1) := by decide +kernel
theorem dX6_take_46 : decode cX6_take 46 = .ok (.aload_n 3, 1) := by decide +kernel
theorem dX6_take_47 : decode cX6_take 47 = .ok (.invokevirtual 32, 3) := by decide +kernel
theorem dX6_take_50 : decode cX6_take 50 = .ok (.goto 10, 3) := by decide +kernel
theorem dX6_take_53 : decode cX6_take 53 = .ok (.aload_n 0, 1) := by decide +kernel
theorem dX6_take_54 : decode cX6_take 54 = .ok (.aload_n 1, 1) := by decide +kernel
theorem dX6_take_55 : decode cX6_take 55 = .ok (.aload_n 2, 1) := by decide +kernel
theorem dX6_take_56 : decode cX6_take 56 = .ok (.aload_n 3, 1) := by decide +kernel
theorem dX6_take_57 : decode cX6_take 57 = .ok (.invokevirtual 36, 3) := by decide +kernel
theorem dX6_take_60 : decode cX6_take 60 = .ok (.istore 4, 2) := by decide +kernel
theorem dX6_take_62 : decode cX6_take 62 = .ok (.iinc 5 1, 3) := by decide +kernel
theorem dX6_take_65 : decode cX6_take 65 = .ok (.goto (-50), 3) := by decide +kernel
theorem dX6_take_68 : decode cX6_take 68 = .ok (.iload 4, 2) := by decide +kernel
theorem dX6_take_70 : decode cX6_take 70 = .ok (.ifCond .eq 17, 3) := by decide +kernel
theorem dX6_take_73 : decode cX6_take 73 = .ok (.aload_n 0, 1) := by decide +kernel
theorem dX6_take_74 : decode cX6_take 74 = .ok (.getfield 15, 3) := by decide +kernel
theorem dX6_take_77 : decode cX6_take 77 = .ok (.ifCond .le 10, 3) := by decide +kernel
theorem dX6_take_80 : decode cX6_take 80 = .ok (.aload_n 1, 1) := by decide +kernel
theorem dX6_take_81 : decode cX6_take 81 = .ok (.iconst 2, 1) := by decide +kernel
theorem dX6_take_82 : decode cX6_take 82 = .ok (.invokevirtual 40, 3) := by decide +kernel
theorem dX6_take_85 : decode cX6_take 85 = .ok (.istore 4, 2) := by decide +kernel
theorem dX6_take_87 : decode cX6_take 87 = .ok (.aload_n 3, 1) := by decide +kernel
theorem dX6_take_88 : decode cX6_take 88 = .ok (.iload 4, 2) := by decide +kernel
theorem dX6_take_90 : decode cX6_take 90 = .ok (.putfield 44, 3) := by decide +kernel
theorem dX6_take_93 : decode cX6_take 93 = .ok (.iload 4, 2) := by decide +kernel
theorem dX6_take_95 : decode cX6_take 95 = .ok (.ireturn, 1) := by decide +kernel
theorem dX6_takeEnd_0 : decode cX6_takeEnd 0 = .ok (.aload_n 0, 1) := by decide +kernel
theorem dX6_takeEnd_1 : decode cX6_takeEnd 1 = .ok (.getfield 15, 3) := by decide +kernel
theorem dX6_takeEnd_4 : decode cX6_takeEnd 4 = .ok (.ifCond .gt 9, 3) := by decide +kernel
theorem dX6_takeEnd_7 : decode cX6_takeEnd 7 = .ok (.aload_n 1, 1) := by decide +kernel
theorem dX6_takeEnd_8 : decode cX6_takeEnd 8 = .ok (.iconst 2, 1) := by decide +kernel
theorem dX6_takeEnd_9 : decode cX6_takeEnd 9 = .ok (.invokevirtual 40, 3) := by decide +kernel
theorem dX6_takeEnd_12 : decode cX6_takeEnd 12 = .ok (.ireturn, 1) := by decide +kernel
theorem dX6_takeEnd_13 : decode cX6_takeEnd 13 = .ok (.aload_n 1, 1) := by decide +kernel
theorem dX6_takeEnd_14 : decode cX6_takeEnd 14 = .ok (.invokevirtual 48, 3) := by decide +kernel
theorem dX6_takeEnd_17 : decode cX6_takeEnd 17 = .ok (.aload_n 1, 1) := by decide +kernel
theorem dX6_takeEnd_18 : decode cX6_takeEnd 18 = .ok (.invokevirtual 51, 3) := by decide +kernel
theorem dX6_takeEnd_21 : decode cX6_takeEnd 21 = .ok (.ifCond .ne 5, 3) := by decide +kernel
theorem dX6_takeEnd_24 : decode cX6_takeEnd 24 = .ok (.iconst 0, 1) := by decide +kernel
theorem dX6_takeEnd_25 : decode cX6_takeEnd 25 = .ok (.ireturn, 1) := by decide +kernel
theorem dX6_takeEnd_26 : decode cX6_takeEnd 26 = .ok (.aload_n 0, 1) := by decide +kernel
theorem dX6_takeEnd_27 : decode cX6_takeEnd 27 = .ok (.dup, 1) := by decide +kernel
theorem dX6_takeEnd_28 : decode cX6_takeEnd 28 = .ok (.getfield 15, 3) := by decide +kernel
theorem dX6_takeEnd_31 : decode cX6_takeEnd 31 = .ok (.iconst 1, 1) := by decide +kernel
theorem dX6_takeEnd_32 : decode cX6_takeEnd 32 = .ok (.isub, 1) := by decide +kernel
theorem dX6_takeEnd_33 : decode cX6_takeEnd 33 = .ok (.putfield 15, 3) := by decide +kernel
theorem dX6_takeEnd_36 : decode cX6_takeEnd 36 = .ok (.aload_n 2, 1) := by decide +kernel
theorem dX6_takeEnd_37 : decode cX6_takeEnd 37 = .ok (.aload_n 0, 1) := by decide +kernel
theorem dX6_takeEnd_38 : decode cX6_takeEnd 38 = .ok (.getfield 9, 3) := by decide +kernel
theorem dX6_takeEnd_41 : decode cX6_takeEnd 41 = .ok (.aload_n 0, 1) := by decide +kernel
theorem dX6_takeEnd_42 : decode cX6_takeEnd 42 = .ok (.getfield 15, 3) := by decide +kernel
theorem dX6_takeEnd_45 : decode cX6_takeEnd 45 = .ok (.iaload, 1) := by decide +kernel
theorem dX6_takeEnd_46 : decode cX6_takeEnd 46 = .ok (.invokevirtual 55, 3) := by decide +kernel
theorem dX6_takeEnd_49 : decode cX6_takeEnd 49 = .ok (.iconst 1, 1) := by decide +kernel
theorem dX6_takeEnd_50 : decode cX6_takeEnd 50 = .ok (.ireturn, 1) := by decide +kernel
theorem dX6_takeStep_0 : decode cX6_takeStep 0 = .ok (.aload_n 1, 1) := by decide +kernel
theorem dX6_takeStep_1 : decode cX6_takeStep 1 = .ok (.getfield 29, 3) := by decide +kernel
theorem dX6_takeStep_4 : decode cX6_takeStep 4 = .ok (.istore 4, 2) := by decide +kernel
theorem dX6_takeStep_6 : decode cX6_takeStep 6 = .ok (.iload 4, 2) := by decide +kernel
theorem dX6_takeStep_8 : decode cX6_takeStep 8 = .ok (.bipush 12, 2) := by decide +kernel
theorem dX6_takeStep_10 : decode cX6_takeStep 10 = .ok (.if_icmp .lt 17, 3) := by decide +kernel
theorem dX6_takeStep_13 : decode cX6_takeStep 13 = .ok (.iload 4, 2) := by decide +kernel
theorem dX6_takeStep_15 : decode cX6_takeStep 15 = .ok (.bipush 19, 2) := by decide +kernel
theorem dX6_takeStep_17 : decode cX6_takeStep 17 = .ok (.if_icmp .eq 10, 3) := by decide +kernel
theorem dX6_takeStep_20 : decode cX6_takeStep 20 = .ok (.iload 4, 2) := by decide +kernel
theorem dX6_takeStep_22 : decode cX6_takeStep 22 = .ok (.bipush 20, 2) := by decide +kernel
theorem dX6_takeStep_24 : decode cX6_takeStep 24 = .ok (.if_icmp .ne 9, 3) := by decide +kernel
theorem dX6_takeStep_27 : decode cX6_takeStep 27 = .ok (.aload_n 1, 1) := by decide +kernel
theorem dX6_takeStep_28 : decode cX6_takeStep 28 = .ok (.iconst 2, 1) := by decide +kernel
theorem dX6_takeStep_29 : decode cX6_takeStep 29 = .ok (.invokevirtual 40, 3) := by decide +kernel
theorem dX6_takeStep_32 : decode cX6_takeStep 32 = .ok (.ireturn, 1) := by decide +kernel
theorem dX6_takeStep_33 : decode cX6_takeStep 33 = .ok (.aload_n 3, 1) := by decide +kernel
theorem dX6_takeStep_34 : decode cX6_takeStep 34 = .ok (.getfield 59, 3) := by decide +kernel
theorem dX6_takeStep_37 : decode cX6_takeStep 37 = .ok (.bipush 30, 2) := by decide +kernel
theorem dX6_takeStep_39 : decode cX6_takeStep 39 = .ok (.if_icmp .lt 10, 3) := by decide +kernel
theorem dX6_takeStep_42 : decode cX6_takeStep 42 = .ok (.aload_n 1, 1) := by decide +kernel
theorem dX6_takeStep_43 : decode cX6_takeStep 43 = .ok (.bipush 6, 2) := by decide +kernel
theorem dX6_takeStep_45 : decode cX6_takeStep 45 = .ok (.invokevirtual 40, 3) := by decide +kernel
theorem dX6_takeStep_48 : decode cX6_takeStep 48 = .ok (.ireturn, 1) := by decide +kernel
theorem dX6_takeStep_49 : decode cX6_takeStep 49 = .ok (.iload 4, 2) := by decide +kernel
theorem dX6_takeStep_51 : decode cX6_takeStep 51 = .ok (.bipush 18, 2) := by decide +kernel
theorem dX6_takeStep_53 : decode cX6_takeStep 53 = .ok (.if_icmp .eq 10, 3) := by decide +kernel
theorem dX6_takeStep_56 : decode cX6_takeStep 56 = .ok (.iload 4, 2) := by decide +kernel
theorem dX6_takeStep_58 : decode cX6_takeStep 58 = .ok (.bipush 21, 2) := by decide +kernel
theorem dX6_takeStep_60 : decode cX6_takeStep 60 = .ok (.if_icmp .ne 18, 3) := by decide +kernel
theorem dX6_takeStep_63 : decode cX6_takeStep 63 = .ok (.aload_n 0, 1) := by decide +kernel
theorem dX6_takeStep_64 : decode cX6_takeStep 64 = .ok (.getfield 15, 3) := by decide +kernel
theorem dX6_takeStep_67 : decode cX6_takeStep 67 = .ok (.iconst 3, 1) := by decide +kernel
theorem dX6_takeStep_68 : decode cX6_takeStep 68 = .ok (.if_icmp .lt 10, 3) := by decide +kernel
theorem dX6_takeStep_71 : decode cX6_takeStep 71 = .ok (.aload_n 1, 1) := by decide +kernel
theorem dX6_takeStep_72 : decode cX6_takeStep 72 = .ok (.bipush 7, 2) := by decide +kernel
theorem dX6_takeStep_74 : decode cX6_takeStep 74 = .ok (.invokevirtual 40, 3) := by decide +kernel
theorem dX6_takeStep_77 : decode cX6_takeStep 77 = .ok (.ireturn, 1) := by decide +kernel
theorem dX6_takeStep_78 : decode cX6_takeStep 78 = .ok (.aload_n 1, 1) := by decide +kernel
theorem dX6_takeStep_79 : decode cX6_takeStep 79 = .ok (.invokevirtual 48, 3) := by decide +kernel
theorem dX6_takeStep_82 : decode cX6_takeStep 82 = .ok (.iload 4, 2) := by decide +kernel
theorem dX6_takeStep_84 : decode cX6_takeStep 84 = .ok (.bipush 18, 2) := by decide +kernel
theorem dX6_takeStep_86 : decode cX6_takeStep 86 = .ok (.if_icmp .ne 27, 3) := by decide +kernel
theorem dX6_takeStep_89 : decode cX6_takeStep 89 = .ok (.aload_n 1, 1) := by decide +kernel
theorem dX6_takeStep_90 : decode cX6_takeStep 90 = .ok (.getfield 29, 3) := by decide +kernel
theorem dX6_takeStep_93 : decode cX6_takeStep 93 = .ok (.istore 4, 2) := by decide +kernel
theorem dX6_takeStep_95 : decode cX6_takeStep 95 = .ok (.iload 4, 2) := by decide +kernel
theorem dX6_takeStep_97 : decode cX6_takeStep 97 = .ok (.invokestatic 62, 3) := by decide +kernel
theorem dX6_takeStep_100 : decode cX6_takeStep 100 = .ok (.ifCond .ne 9, 3) := by decide +kernel
theorem dX6_takeStep_103 : decode cX6_takeStep 103 = .ok (.aload_n 1, 1) := by decide +kernel
theorem dX6_takeStep_104 : decode cX6_takeStep 104 = .ok (.iconst 2, 1) := by decide +kernel
theorem dX6_takeStep_105 : decode cX6_takeStep 105 = .ok (.invokevirtual 40, 3) := by decide +kernel
theorem dX6_takeStep_108 : decode cX6_takeStep 108 = .ok (.ireturn, 1) := by decide +kernel
theorem dX6_takeStep_109 : decode cX6_takeStep 109 = .ok (.aload_n 1, 1) := by decide +kernel
theorem dX6_takeStep_110 : decode cX6_takeStep 110 = .ok (.invokevirtual 48, 3) := by decide +kernel
theorem dX6_takeStep_113 : decode cX6_takeStep 113 = .ok (.aload_n 1, 1) := by decide +kernel
theorem dX6_takeStep_114 : decode cX6_takeStep 114 = .ok (.aload_n 2, 1) := by decide +kernel
theorem dX6_takeStep_115 : decode cX6_takeStep 115 = .ok (.iload 4, 2) := by decide +kernel
theorem dX6_takeStep_117 : decode cX6_takeStep 117 = .ok (.invokestatic 65, 3) := by decide +kernel
theorem dX6_takeStep_120 : decode cX6_takeStep 120 = .ok (.istore 5, 2) := by decide +kernel
theorem dX6_takeStep_122 : decode cX6_takeStep 122 = .ok (.iload 5, 2) := by decide +kernel
theorem dX6_takeStep_124 : decode cX6_takeStep 124 = .ok (.iconst (-1), 1) := by decide +kernel
theorem dX6_takeStep_125 : decode cX6_takeStep 125 = .ok (.if_icmp .ne 7, 3) := by decide +kernel
theorem dX6_takeStep_128 : decode cX6_takeStep 128 = .ok (.iconst (-1), 1) := by decide +kernel
theorem dX6_takeStep_129 : decode cX6_takeStep 129 = .ok (.goto 10, 3) := by decide +kernel
theorem dX6_takeStep_132 : decode cX6_takeStep 132 = .ok (.aload_n 1, 1) := by decide +kernel
theorem dX6_takeStep_133 : decode cX6_takeStep 133 = .ok (.aload_n 2, 1) := by decide +kernel
theorem dX6_takeStep_134 : decode cX6_takeStep 134 = .ok (.iload 4, 2) := by decide +kernel
theorem dX6_takeStep_136 : decode cX6_takeStep 136 = .ok (.invokestatic 69, 3) := by decide +kernel
theorem dX6_takeStep_139 : decode cX6_takeStep 139 = .ok (.istore 6, 2) := by decide +kernel
theorem dX6_takeStep_141 : decode cX6_takeStep 141 = .ok (.iload 6, 2) := by decide +kernel
theorem dX6_takeStep_143 : decode cX6_takeStep 143 = .ok (.iconst (-1), 1) := by decide +kernel
theorem dX6_takeStep_144 : decode cX6_takeStep 144 = .ok (.if_icmp .eq 10, 3) := by decide +kernel
theorem dX6_takeStep_147 : decode cX6_takeStep 147 = .ok (.aload_n 1, 1) := by decide +kernel
theorem dX6_takeStep_148 : decode cX6_takeStep 148 = .ok (.invokevirtual 51, 3) := by decide +kernel
theorem dX6_takeStep_151 : decode cX6_takeStep 151 = .ok (.ifCond .ne 5, 3) := by decide +kernel
theorem dX6_takeStep_154 : decode cX6_takeStep 154 = .ok (.iconst 0, 1) := by decide +kernel
theorem dX6_takeStep_155 : decode cX6_takeStep 155 = .ok (.ireturn, 1) := by decide +kernel
theorem dX6_takeStep_156 : decode cX6_takeStep 156 = .ok (.aload_n 0, 1) := by decide +kernel
theorem dX6_takeStep_157 : decode cX6_takeStep 157 = .ok (.aload_n 3, 1) := by decide +kernel
theorem dX6_takeStep_158 : decode cX6_takeStep 158 = .ok (.iload 4, 2) := by decide +kernel
theorem dX6_takeStep_160 : decode cX6_takeStep 160 = .ok (.iload 5, 2) := by decide +kernel
theorem dX6_takeStep_162 : decode cX6_takeStep 162 = .ok (.iload 6, 2) := by decide +kernel
theorem dX6_takeStep_164 : decode cX6_takeStep 164 = .ok (.invokevirtual 72, 3) := by decide +kernel
theorem dX6_takeStep_167 : decode cX6_takeStep 167 = .ok (.iconst 1, 1) := by decide +kernel
theorem dX6_takeStep_168 : decode cX6_takeStep 168 = .ok (.ireturn, 1) := by decide +kernel
theorem dX6_takeOne_0 : decode cX6_takeOne 0 = .ok (.iload_n 2, 1) := by decide +kernel
theorem dX6_takeOne_1 : decode cX6_takeOne 1 = .ok (.tableswitch 118 8 21 #[79, 118, 118, 118, 71, 79, 79, 92, 92, 118, 118, 92, 105, 71], 71) := by decide +kernel
theorem dX6_takeOne_72 : decode cX6_takeOne 72 = .ok (.aload_n 0, 1) := by decide +kernel
theorem dX6_takeOne_73 : decode cX6_takeOne 73 = .ok (.iconst 1, 1) := by decide +kernel
theorem dX6_takeOne_74 : decode cX6_takeOne 74 = .ok (.bipush 99, 2) := by decide +kernel
theorem dX6_takeOne_76 : decode cX6_takeOne 76 = .ok (.invokevirtual 76, 3) := by decide +kernel
theorem dX6_takeOne_79 : decode cX6_takeOne 79 = .ok (.ireturn, 1) := by decide +kernel
theorem dX6_takeOne_80 : decode cX6_takeOne 80 = .ok (.aload_n 0, 1) := by decide +kernel
theorem dX6_takeOne_81 : decode cX6_takeOne 81 = .ok (.aload_n 1, 1) := by decide +kernel
theorem dX6_takeOne_82 : decode cX6_takeOne 82 = .ok (.getfield 80, 3) := by decide +kernel
theorem dX6_takeOne_85 : decode cX6_takeOne 85 = .ok (.aload_n 1, 1) := by decide +kernel
theorem dX6_takeOne_86 : decode cX6_takeOne 86 = .ok (.getfield 86, 3) := by decide +kernel
theorem dX6_takeOne_89 : decode cX6_takeOne 89 = .ok (.invokevirtual 89, 3) := by decide +kernel
theorem dX6_takeOne_92 : decode cX6_takeOne 92 = .ok (.ireturn, 1) := by decide +kernel
theorem dX6_takeOne_93 : decode cX6_takeOne 93 = .ok (.aload_n 0, 1) := by decide +kernel
theorem dX6_takeOne_94 : decode cX6_takeOne 94 = .ok (.aload_n 1, 1) := by decide +kernel
theorem dX6_takeOne_95 : decode cX6_takeOne 95 = .ok (.getfield 93, 3) := by decide +kernel
theorem dX6_takeOne_98 : decode cX6_takeOne 98 = .ok (.aload_n 1, 1) := by decide +kernel
theorem dX6_takeOne_99 : decode cX6_takeOne 99 = .ok (.getfield 96, 3) := by decide +kernel
theorem dX6_takeOne_102 : decode cX6_takeOne 102 = .ok (.invokevirtual 89, 3) := by decide +kernel
theorem dX6_takeOne_105 : decode cX6_takeOne 105 = .ok (.ireturn, 1) := by decide +kernel
theorem dX6_takeOne_106 : decode cX6_takeOne 106 = .ok (.aload_n 0, 1) := by decide +kernel
theorem dX6_takeOne_107 : decode cX6_takeOne 107 = .ok (.aload_n 1, 1) := by decide +kernel
theorem dX6_takeOne_108 : decode cX6_takeOne 108 = .ok (.getfield 99, 3) := by decide +kernel
theorem dX6_takeOne_111 : decode cX6_takeOne 111 = .ok (.aload_n 1, 1) := by decide +kernel
theorem dX6_takeOne_112 : decode cX6_takeOne 112 = .ok (.getfield 102, 3) := by decide +kernel
theorem dX6_takeOne_115 : decode cX6_takeOne 115 = .ok (.invokevirtual 89, 3) := by decide +kernel
theorem dX6_takeOne_118 : decode cX6_takeOne 118 = .ok (.ireturn, 1) := by decide +kernel
theorem dX6_takeOne_119 : decode cX6_takeOne 119 = .ok (.iconst 0, 1) := by decide +kernel
theorem dX6_takeOne_120 : decode cX6_takeOne 120 = .ok (.ireturn, 1) := by decide +kernel
theorem dX6_takeOther_0 : decode cX6_takeOther 0 = .ok (.iload_n 2, 1) := by decide +kernel
theorem dX6_takeOther_1 : decode cX6_takeOther 1 = .ok (.lookupswitch 53 #[(8, 40), (14, 27)], 27) := by decide +kernel
theorem dX6_takeOther_28 : decode cX6_takeOther 28 = .ok (.aload_n 0, 1) := by decide +kernel
theorem dX6_takeOther_29 : decode cX6_takeOther 29 = .ok (.aload_n 1, 1) := by decide +kernel
theorem dX6_takeOther_30 : decode cX6_takeOther 30 = .ok (.getfield 80, 3) := by decide +kernel
theorem dX6_takeOther_33 : decode cX6_takeOther 33 = .ok (.aload_n 1, 1) := by decide +kernel
theorem dX6_takeOther_34 : decode cX6_takeOther 34 = .ok (.getfield 86, 3) := by decide +kernel
theorem dX6_takeOther_37 : decode cX6_takeOther 37 = .ok (.invokevirtual 89, 3) := by decide +kernel
theorem dX6_takeOther_40 : decode cX6_takeOther 40 = .ok (.ireturn, 1) := by decide +kernel
theorem dX6_takeOther_41 : decode cX6_takeOther 41 = .ok (.aload_n 0, 1) := by decide +kernel
theorem dX6_takeOther_42 : decode cX6_takeOther 42 = .ok (.aload_n 1, 1) := by decide +kernel
theorem dX6_takeOther_43 : decode cX6_takeOther 43 = .ok (.getfield 99, 3) := by decide +kernel
theorem dX6_takeOther_46 : decode cX6_takeOther 46 = .ok (.aload_n 1, 1) := by decide +kernel
theorem dX6_takeOther_47 : decode cX6_takeOther 47 = .ok (.getfield 102, 3) := by decide +kernel
theorem dX6_takeOther_50 : decode cX6_takeOther 50 = .ok (.invokevirtual 89, 3) := by decide +kernel
theorem dX6_takeOther_53 : decode cX6_takeOther 53 = .ok (.ireturn, 1) := by decide +kernel
theorem dX6_takeOther_54 : decode cX6_takeOther 54 = .ok (.iconst 0, 1) := by decide +kernel
theorem dX6_takeOther_55 : decode cX6_takeOther 55 = .ok (.ireturn, 1) := by decide +kernel
theorem dX6_addStep_0 : decode cX6_addStep 0 = .ok (.aload_n 1, 1) := by decide +kernel
theorem dX6_addStep_1 : decode cX6_addStep 1 = .ok (.iload_n 2, 1) := by decide +kernel
theorem dX6_addStep_2 : decode cX6_addStep 2 = .ok (.iload_n 3, 1) := by decide +kernel
theorem dX6_addStep_3 : decode cX6_addStep 3 = .ok (.iload 4, 2) := by decide +kernel
theorem dX6_addStep_5 : decode cX6_addStep 5 = .ok (.invokevirtual 105, 3) := by decide +kernel
theorem dX6_addStep_8 : decode cX6_addStep 8 = .ok (.istore 5, 2) := by decide +kernel
theorem dX6_addStep_10 : decode cX6_addStep 10 = .ok (.aload_n 1, 1) := by decide +kernel
theorem dX6_addStep_11 : decode cX6_addStep 11 = .ok (.dup, 1) := by decide +kernel
theorem dX6_addStep_12 : decode cX6_addStep 12 = .ok (.getfield 59, 3) := by decide +kernel
theorem dX6_addStep_15 : decode cX6_addStep 15 = .ok (.iconst 1, 1) := by decide +kernel
theorem dX6_addStep_16 : decode cX6_addStep 16 = .ok (.iadd, 1) := by decide +kernel
theorem dX6_addStep_17 : decode cX6_addStep 17 = .ok (.putfield 59, 3) := by decide +kernel
theorem dX6_addStep_20 : decode cX6_addStep 20 = .ok (.iload_n 2, 1) := by decide +kernel
theorem dX6_addStep_21 : decode cX6_addStep 21 = .ok (.bipush 21, 2) := by decide +kernel
theorem dX6_addStep_23 : decode cX6_addStep 23 = .ok (.if_icmp .eq 10, 3) := by decide +kernel
theorem dX6_addStep_26 : decode cX6_addStep 26 = .ok (.iload_n 2, 1) := by decide +kernel
theorem dX6_addStep_27 : decode cX6_addStep 27 = .ok (.invokestatic 62, 3) := by decide +kernel
theorem dX6_addStep_30 : decode cX6_addStep 30 = .ok (.ifCond .eq 32, 3) := by decide +kernel
theorem dX6_addStep_33 : decode cX6_addStep 33 = .ok (.aload_n 0, 1) := by decide +kernel
theorem dX6_addStep_34 : decode cX6_addStep 34 = .ok (.getfield 15, 3) := by decide +kernel
theorem dX6_addStep_37 : decode cX6_addStep 37 = .ok (.iconst 3, 1) := by decide +kernel
theorem dX6_addStep_38 : decode cX6_addStep 38 = .ok (.if_icmp .ge 24, 3) := by decide +kernel
theorem dX6_addStep_41 : decode cX6_addStep 41 = .ok (.aload_n 0, 1) := by decide +kernel
theorem dX6_addStep_42 : decode cX6_addStep 42 = .ok (.getfield 9, 3) := by decide +kernel
theorem dX6_addStep_45 : decode cX6_addStep 45 = .ok (.aload_n 0, 1) := by decide +kernel
theorem dX6_addStep_46 : decode cX6_addStep 46 = .ok (.getfield 15, 3) := by decide +kernel
theorem dX6_addStep_49 : decode cX6_addStep 49 = .ok (.iload 5, 2) := by decide +kernel
theorem dX6_addStep_51 : decode cX6_addStep 51 = .ok (.iastore, 1) := by decide +kernel
theorem dX6_addStep_52 : decode cX6_addStep 52 = .ok (.aload_n 0, 1) := by decide +kernel
theorem dX6_addStep_53 : decode cX6_addStep 53 = .ok (.dup, 1) := by decide +kernel
theorem dX6_addStep_54 : decode cX6_addStep 54 = .ok (.getfield 15, 3) := by decide +kernel
theorem dX6_addStep_57 : decode cX6_addStep 57 = .ok (.iconst 1, 1) := by decide +kernel
theorem dX6_addStep_58 : decode cX6_addStep 58 = .ok (.iadd, 1) := by decide +kernel
theorem dX6_addStep_59 : decode cX6_addStep 59 = .ok (.putfield 15, 3) := by decide +kernel
theorem dX6_addStep_62 : decode cX6_addStep 62 = .ok (.return_, 1) := by decide +kernel
theorem dX7_init_0 : decode cX7_init 0 = .ok (.aload_n 0, 1) := by decide +kernel
theorem dX7_init_1 : decode cX7_init 1 = .ok (.invokespecial 3, 3) := by decide +kernel
theorem dX7_init_4 : decode cX7_init 4 = .ok (.aload_n 0, 1) := by decide +kernel
theorem dX7_init_5 : decode cX7_init 5 = .ok (.bipush 8, 2) := by decide +kernel
theorem dX7_init_7 : decode cX7_init 7 = .ok (.newarray .int, 2) := by decide +kernel
theorem dX7_init_9 : decode cX7_init 9 = .ok (.putfield 9, 3) := by decide +kernel
theorem dX7_init_12 : decode cX7_init 12 = .ok (.aload_n 0, 1) := by decide +kernel
theorem dX7_init_13 : decode cX7_init 13 = .ok (.iconst 0, 1) := by decide +kernel
theorem dX7_init_14 : decode cX7_init 14 = .ok (.putfield 15, 3) := by decide +kernel
theorem dX7_init_17 : decode cX7_init 17 = .ok (.aload_n 0, 1) := by decide +kernel
theorem dX7_init_18 : decode cX7_init 18 = .ok (.iconst 0, 1) := by decide +kernel
theorem dX7_init_19 : decode cX7_init 19 = .ok (.putfield 19, 3) := by decide +kernel
theorem dX7_init_22 : decode cX7_init 22 = .ok (.aload_n 0, 1) := by decide +kernel
theorem dX7_init_23 : decode cX7_init 23 = .ok (.bipush 8, 2) := by decide +kernel
theorem dX7_init_25 : decode cX7_init 25 = .ok (.newarray .int, 2) := by decide +kernel
theorem dX7_init_27 : decode cX7_init 27 = .ok (.putfield 22, 3) := by decide +kernel
theorem dX7_init_30 : decode cX7_init 30 = .ok (.aload_n 0, 1) := by decide +kernel
theorem dX7_init_31 : decode cX7_init 31 = .ok (.bipush 8, 2) := by decide +kernel
theorem dX7_init_33 : decode cX7_init 33 = .ok (.newarray .int, 2) := by decide +kernel
theorem dX7_init_35 : decode cX7_init 35 = .ok (.putfield 25, 3) := by decide +kernel
theorem dX7_init_38 : decode cX7_init 38 = .ok (.aload_n 0, 1) := by decide +kernel
theorem dX7_init_39 : decode cX7_init 39 = .ok (.bipush 6, 2) := by decide +kernel
theorem dX7_init_41 : decode cX7_init 41 = .ok (.newarray .int, 2) := by decide +kernel
theorem dX7_init_43 : decode cX7_init 43 = .ok (.putfield 28, 3) := by decide +kernel
theorem dX7_init_46 : decode cX7_init 46 = .ok (.aload_n 0, 1) := by decide +kernel
theorem dX7_init_47 : decode cX7_init 47 = .ok (.bipush 36, 2) := by decide +kernel
theorem dX7_init_49 : decode cX7_init 49 = .ok (.newarray .int, 2) := by decide +kernel
theorem dX7_init_51 : decode cX7_init 51 = .ok (.putfield 31, 3) := by decide +kernel
theorem dX7_init_54 : decode cX7_init 54 = .ok (.aload_n 0, 1) := by decide +kernel
theorem dX7_init_55 : decode cX7_init 55 = .ok (.bipush 6, 2) := by decide +kernel
theorem dX7_init_57 : decode cX7_init 57 = .ok (.newarray .int, 2) := by decide +kernel
theorem dX7_init_59 : decode cX7_init 59 = .ok (.putfield 34, 3) := by decide +kernel
theorem dX7_init_62 : decode cX7_init 62 = .ok (.aload_n 0, 1) := by decide +kernel
theorem dX7_init_63 : decode cX7_init 63 = .ok (.bipush 6, 2) := by decide +kernel
theorem dX7_init_65 : decode cX7_init 65 = .ok (.newarray .int, 2) := by decide +kernel
theorem dX7_init_67 : decode cX7_init 67 = .ok (.putfield 37, 3) := by decide +kernel
theorem dX7_init_70 : decode cX7_init 70 = .ok (.aload_n 0, 1) := by decide +kernel
theorem dX7_init_71 : decode cX7_init 71 = .ok (.iconst 0, 1) := by decide +kernel
theorem dX7_init_72 : decode cX7_init 72 = .ok (.putfield 40, 3) := by decide +kernel
theorem dX7_init_75 : decode cX7_init 75 = .ok (.aload_n 0, 1) := by decide +kernel
theorem dX7_init_76 : decode cX7_init 76 = .ok (.iconst 0, 1) := by decide +kernel
theorem dX7_init_77 : decode cX7_init 77 = .ok (.putfield 43, 3) := by decide +kernel
theorem dX7_init_80 : decode cX7_init 80 = .ok (.aload_n 0, 1) := by decide +kernel
theorem dX7_init_81 : decode cX7_init 81 = .ok (.iconst 0, 1) := by decide +kernel
theorem dX7_init_82 : decode cX7_init 82 = .ok (.putfield 46, 3) := by decide +kernel
theorem dX7_init_85 : decode cX7_init 85 = .ok (.aload_n 0, 1) := by decide +kernel
theorem dX7_init_86 : decode cX7_init 86 = .ok (.iconst 0, 1) := by decide +kernel
theorem dX7_init_87 : decode cX7_init 87 = .ok (.putfield 49, 3) := by decide +kernel
theorem dX7_init_90 : decode cX7_init 90 = .ok (.return_, 1) := by decide +kernel
theorem dX7_has_0 : decode cX7_has 0 = .ok (.iload_n 0, 1) := by decide +kernel
theorem dX7_has_1 : decode cX7_has 1 = .ok (.iload_n 1, 1) := by decide +kernel
theorem dX7_has_2 : decode cX7_has 2 = .ok (.ishr, 1) := by decide +kernel
theorem dX7_has_3 : decode cX7_has 3 = .ok (.iconst 1, 1) := by decide +kernel
theorem dX7_has_4 : decode cX7_has 4 = .ok (.iand, 1) := by decide +kernel
theorem dX7_has_5 : decode cX7_has 5 = .ok (.ifCond .eq 7, 3) := by decide +kernel
theorem dX7_has_8 : decode cX7_has 8 = .ok (.iconst 1, 1) := by decide +kernel
theorem dX7_has_9 : decode cX7_has 9 = .ok (.goto 4, 3) := by decide +kernel
theorem dX7_has_12 : decode cX7_has 12 = .ok (.iconst 0, 1) := by decide +kernel
theorem dX7_has_13 : decode cX7_has 13 = .ok (.ireturn, 1) := by decide +kernel
theorem dX7_clear_0 : decode cX7_clear 0 = .ok (.aload_n 0, 1) := by decide +kernel
theorem dX7_clear_1 : decode cX7_clear 1 = .ok (.iconst 0, 1) := by decide +kernel
theorem dX7_clear_2 : decode cX7_clear 2 = .ok (.putfield 15, 3) := by decide +kernel
theorem dX7_clear_5 : decode cX7_clear 5 = .ok (.aload_n 0, 1) := by decide +kernel
theorem dX7_clear_6 : decode cX7_clear 6 = .ok (.iconst 0, 1) := by decide +kernel
theorem dX7_clear_7 : decode cX7_clear 7 = .ok (.putfield 19, 3) := by decide +kernel
theorem dX7_clear_10 : decode cX7_clear 10 = .ok (.aload_n 0, 1) := by decide +kernel
theorem dX7_clear_11 : decode cX7_clear 11 = .ok (.iconst 0, 1) := by decide +kernel
theorem dX7_clear_12 : decode cX7_clear 12 = .ok (.putfield 40, 3) := by decide +kernel
theorem dX7_clear_15 : decode cX7_clear 15 = .ok (.aload_n 0, 1) := by decide +kernel
theorem dX7_clear_16 : decode cX7_clear 16 = .ok (.iconst 0, 1) := by decide +kernel
theorem dX7_clear_17 : decode cX7_clear 17 = .ok (.putfield 43, 3) := by decide +kernel
theorem dX7_clear_20 : decode cX7_clear 20 = .ok (.aload_n 0, 1) := by decide +kernel
theorem dX7_clear_21 : decode cX7_clear 21 = .ok (.iconst 0, 1) := by decide +kernel
theorem dX7_clear_22 : decode cX7_clear 22 = .ok (.putfield 46, 3) := by decide +kernel
theorem dX7_clear_25 : decode cX7_clear 25 = .ok (.aload_n 0, 1) := by decide +kernel
theorem dX7_clear_26 : decode cX7_clear 26 = .ok (.iconst 0, 1) := by decide +kernel
theorem dX7_clear_27 : decode cX7_clear 27 = .ok (.putfield 49, 3) := by decide +kernel
theorem dX7_clear_30 : decode cX7_clear 30 = .ok (.aload_n 0, 1) := by decide +kernel
theorem dX7_clear_31 : decode cX7_clear 31 = .ok (.getfield 22, 3) := by decide +kernel
theorem dX7_clear_34 : decode cX7_clear 34 = .ok (.iconst 0, 1) := by decide +kernel
theorem dX7_clear_35 : decode cX7_clear 35 = .ok (.invokestatic 52, 3) := by decide +kernel
theorem dX7_clear_38 : decode cX7_clear 38 = .ok (.aload_n 0, 1) := by decide +kernel
theorem dX7_clear_39 : decode cX7_clear 39 = .ok (.getfield 25, 3) := by decide +kernel
theorem dX7_clear_42 : decode cX7_clear 42 = .ok (.iconst 0, 1) := by decide +kernel
theorem dX7_clear_43 : decode cX7_clear 43 = .ok (.invokestatic 52, 3) := by decide +kernel
theorem dX7_clear_46 : decode cX7_clear 46 = .ok (.aload_n 0, 1) := by decide +kernel
theorem dX7_clear_47 : decode cX7_clear 47 = .ok (.getfield 28, 3) := by decide +kernel
theorem dX7_clear_50 : decode cX7_clear 50 = .ok (.iconst 0, 1) := by decide +kernel
theorem dX7_clear_51 : decode cX7_clear 51 = .ok (.invokestatic 52, 3) := by decide +kernel
theorem dX7_clear_54 : decode cX7_clear 54 = .ok (.aload_n 0, 1) := by decide +kernel
theorem dX7_clear_55 : decode cX7_clear 55 = .ok (.getfield 31, 3) := by decide +kernel
theorem dX7_clear_58 : decode cX7_clear 58 = .ok (.iconst 0, 1) := by decide +kernel
theorem dX7_clear_59 : decode cX7_clear 59 = .ok (.invokestatic 52, 3) := by decide +kernel
theorem dX7_clear_62 : decode cX7_clear 62 = .ok (.aload_n 0, 1) := by decide +kernel
theorem dX7_clear_63 : decode cX7_clear 63 = .ok (.getfield 34, 3) := by decide +kernel
theorem dX7_clear_66 : decode cX7_clear 66 = .ok (.iconst 0, 1) := by decide +kernel
theorem dX7_clear_67 : decode cX7_clear 67 = .ok (.invokestatic 52, 3) := by decide +kernel
theorem dX7_clear_70 : decode cX7_clear 70 = .ok (.aload_n 0, 1) := by decide +kernel
theorem dX7_clear_71 : decode cX7_clear 71 = .ok (.getfield 37, 3) := by decide +kernel
theorem dX7_clear_74 : decode cX7_clear 74 = .ok (.iconst 0, 1) := by decide +kernel
theorem dX7_clear_75 : decode cX7_clear 75 = .ok (.invokestatic 52, 3) := by decide +kernel
theorem dX7_clear_78 : decode cX7_clear 78 = .ok (.return_, 1) := by decide +kernel
theorem dX7_copyFrom_0 : decode cX7_copyFrom 0 = .ok (.aload_n 0, 1) := by decide +kernel
theorem dX7_copyFrom_1 : decode cX7_copyFrom 1 = .ok (.aload_n 1, 1) := by decide +kernel
theorem dX7_copyFrom_2 : decode cX7_copyFrom 2 = .ok (.getfield 15, 3) := by decide +kernel
theorem dX7_copyFrom_5 : decode cX7_copyFrom 5 = .ok (.putfield 15, 3) := by decide +kernel
theorem dX7_copyFrom_8 : decode cX7_copyFrom 8 = .ok (.aload_n 0, 1) := by decide +kernel
theorem dX7_copyFrom_9 : decode cX7_copyFrom 9 = .ok (.aload_n 1, 1) := by decide +kernel
theorem dX7_copyFrom_10 : decode cX7_copyFrom 10 = .ok (.getfield 19, 3) := by decide +kernel
theorem dX7_copyFrom_13 : decode cX7_copyFrom 13 = .ok (.putfield 19, 3) := by decide +kernel
theorem dX7_copyFrom_16 : decode cX7_copyFrom 16 = .ok (.aload_n 0, 1) := by decide +kernel
theorem dX7_copyFrom_17 : decode cX7_copyFrom 17 = .ok (.aload_n 1, 1) := by decide +kernel
theorem dX7_copyFrom_18 : decode cX7_copyFrom 18 = .ok (.getfield 40, 3) := by decide +kernel
theorem dX7_copyFrom_21 : decode cX7_copyFrom 21 = .ok (.putfield 40, 3) := by decide +kernel
theorem dX7_copyFrom_24 : decode cX7_copyFrom 24 = .ok (.aload_n 0, 1) := by decide +kernel
theorem dX7_copyFrom_25 : decode cX7_copyFrom 25 = .ok (.aload_n 1, 1) := by decide +kernel
theorem dX7_copyFrom_26 : decode cX7_copyFrom 26 = .ok (.getfield 43, 3) := by decide +kernel
theorem dX7_copyFrom_29 : decode cX7_copyFrom 29 = .ok (.putfield 43, 3) := by decide +kernel
theorem dX7_copyFrom_32 : decode cX7_copyFrom 32 = .ok (.aload_n 0, 1) := by decide +kernel
theorem dX7_copyFrom_33 : decode cX7_copyFrom 33 = .ok (.aload_n 1, 1) := by decide +kernel
theorem dX7_copyFrom_34 : decode cX7_copyFrom 34 = .ok (.getfield 46, 3) := by decide +kernel
theorem dX7_copyFrom_37 : decode cX7_copyFrom 37 = .ok (.putfield 46, 3) := by decide +kernel
theorem dX7_copyFrom_40 : decode cX7_copyFrom 40 = .ok (.aload_n 0, 1) := by decide +kernel
theorem dX7_copyFrom_41 : decode cX7_copyFrom 41 = .ok (.aload_n 1, 1) := by decide +kernel
theorem dX7_copyFrom_42 : decode cX7_copyFrom 42 = .ok (.getfield 49, 3) := by decide +kernel
theorem dX7_copyFrom_45 : decode cX7_copyFrom 45 = .ok (.putfield 49, 3) := by decide +kernel
theorem dX7_copyFrom_48 : decode cX7_copyFrom 48 = .ok (.aload_n 1, 1) := by decide +kernel
theorem dX7_copyFrom_49 : decode cX7_copyFrom 49 = .ok (.getfield 9, 3) := by decide +kernel
theorem dX7_copyFrom_52 : decode cX7_copyFrom 52 = .ok (.iconst 0, 1) := by decide +kernel
theorem dX7_copyFrom_53 : decode cX7_copyFrom 53 = .ok (.aload_n 0, 1) := by decide +kernel
theorem dX7_copyFrom_54 : decode cX7_copyFrom 54 = .ok (.getfield 9, 3) := by decide +kernel
theorem dX7_copyFrom_57 : decode cX7_copyFrom 57 = .ok (.iconst 0, 1) := by decide +kernel
theorem dX7_copyFrom_58 : decode cX7_copyFrom 58 = .ok (.bipush 8, 2) := by decide +kernel
theorem dX7_copyFrom_60 : decode cX7_copyFrom 60 = .ok (.invokestatic 58, 3) := by decide +kernel
theorem dX7_copyFrom_63 : decode cX7_copyFrom 63 = .ok (.aload_n 1, 1) := by decide +kernel
theorem dX7_copyFrom_64 : decode cX7_copyFrom 64 = .ok (.getfield 22, 3) := by decide +kernel
theorem dX7_copyFrom_67 : decode cX7_copyFrom 67 = .ok (.iconst 0, 1) := by decide +kernel
theorem dX7_copyFrom_68 : decode cX7_copyFrom 68 = .ok (.aload_n 0, 1) := by decide +kernel
theorem dX7_copyFrom_69 : decode cX7_copyFrom 69 = .ok (.getfield 22, 3) := by decide +kernel
theorem dX7_copyFrom_72 : decode cX7_copyFrom 72 = .ok (.iconst 0, 1) := by decide +kernel
theorem dX7_copyFrom_73 : decode cX7_copyFrom 73 = .ok (.bipush 8, 2) := by decide +kernel
theorem dX7_copyFrom_75 : decode cX7_copyFrom 75 = .ok (.invokestatic 58, 3) := by decide +kernel
theorem dX7_copyFrom_78 : decode cX7_copyFrom 78 = .ok (.aload_n 1, 1) := by decide +kernel
theorem dX7_copyFrom_79 : decode cX7_copyFrom 79 = .ok (.getfield 25, 3) := by decide +kernel
theorem dX7_copyFrom_82 : decode cX7_copyFrom 82 = .ok (.iconst 0, 1) := by decide +kernel
theorem dX7_copyFrom_83 : decode cX7_copyFrom 83 = .ok (.aload_n 0, 1) := by decide +kernel
theorem dX7_copyFrom_84 : decode cX7_copyFrom 84 = .ok (.getfield 25, 3) := by decide +kernel
theorem dX7_copyFrom_87 : decode cX7_copyFrom 87 = .ok (.iconst 0, 1) := by decide +kernel
theorem dX7_copyFrom_88 : decode cX7_copyFrom 88 = .ok (.bipush 8, 2) := by decide +kernel
theorem dX7_copyFrom_90 : decode cX7_copyFrom 90 = .ok (.invokestatic 58, 3) := by decide +kernel
theorem dX7_copyFrom_93 : decode cX7_copyFrom 93 = .ok (.aload_n 1, 1) := by decide +kernel
theorem dX7_copyFrom_94 : decode cX7_copyFrom 94 = .ok (.getfield 28, 3) := by decide +kernel
theorem dX7_copyFrom_97 : decode cX7_copyFrom 97 = .ok (.iconst 0, 1) := by decide +kernel
theorem dX7_copyFrom_98 : decode cX7_copyFrom 98 = .ok (.aload_n 0, 1) := by decide +kernel
theorem dX7_copyFrom_99 : decode cX7_copyFrom 99 = .ok (.getfield 28, 3) := by decide +kernel
theorem dX7_copyFrom_102 : decode cX7_copyFrom 102 = .ok (.iconst 0, 1) := by decide +kernel
theorem dX7_copyFrom_103 : decode cX7_copyFrom 103 = .ok (.bipush 6, 2) := by decide +kernel
theorem dX7_copyFrom_105 : decode cX7_copyFrom 105 = .ok (.invokestatic 58, 3) := by decide +kernel
theorem dX7_copyFrom_108 : decode cX7_copyFrom 108 = .ok (.aload_n 1, 1) := by decide +kernel
theorem dX7_copyFrom_109 : decode cX7_copyFrom 109 = .ok (.getfield 31, 3) := by decide +kernel
theorem dX7_copyFrom_112 : decode cX7_copyFrom 112 = .ok (.iconst 0, 1) := by decide +kernel
theorem dX7_copyFrom_113 : decode cX7_copyFrom 113 = .ok (.aload_n 0, 1) := by decide +kernel
theorem dX7_copyFrom_114 : decode cX7_copyFrom 114 = .ok (.getfield 31, 3) := by decide +kernel
theorem dX7_copyFrom_117 : decode cX7_copyFrom 117 = .ok (.iconst 0, 1) := by decide +kernel
theorem dX7_copyFrom_118 : decode cX7_copyFrom 118 = .ok (.bipush 36, 2) := by decide +kernel
theorem dX7_copyFrom_120 : decode cX7_copyFrom 120 = .ok (.invokestatic 58, 3) := by decide +kernel
theorem dX7_copyFrom_123 : decode cX7_copyFrom 123 = .ok (.aload_n 1, 1) := by decide +kernel
theorem dX7_copyFrom_124 : decode cX7_copyFrom 124 = .ok (.getfield 34, 3) := by decide +kernel
theorem dX7_copyFrom_127 : decode cX7_copyFrom 127 = .ok (.iconst 0, 1) := by decide +kernel
theorem dX7_copyFrom_128 : decode cX7_copyFrom 128 = .ok (.aload_n 0, 1) := by decide +kernel
theorem dX7_copyFrom_129 : decode cX7_copyFrom 129 = .ok (.getfield 34, 3) := by decide +kernel
theorem dX7_copyFrom_132 : decode cX7_copyFrom 132 = .ok (.iconst 0, 1) := by decide +kernel
theorem dX7_copyFrom_133 : decode cX7_copyFrom 133 = .ok (.bipush 6, 2) := by decide +kernel
theorem dX7_copyFrom_135 : decode cX7_copyFrom 135 = .ok (.invokestatic 58, 3) := by decide +kernel
theorem dX7_copyFrom_138 : decode cX7_copyFrom 138 = .ok (.aload_n 1, 1) := by decide +kernel
theorem dX7_copyFrom_139 : decode cX7_copyFrom 139 = .ok (.getfield 37, 3) := by decide +kernel
theorem dX7_copyFrom_142 : decode cX7_copyFrom 142 = .ok (.iconst 0, 1) := by decide +kernel
theorem dX7_copyFrom_143 : decode cX7_copyFrom 143 = .ok (.aload_n 0, 1) := by decide +kernel
theorem dX7_copyFrom_144 : decode cX7_copyFrom 144 = .ok (.getfield 37, 3) := by decide +kernel
theorem dX7_copyFrom_147 : decode cX7_copyFrom 147 = .ok (.iconst 0, 1) := by decide +kernel
theorem dX7_copyFrom_148 : decode cX7_copyFrom 148 = .ok (.bipush 6, 2) := by decide +kernel
theorem dX7_copyFrom_150 : decode cX7_copyFrom 150 = .ok (.invokestatic 58, 3) := by decide +kernel
theorem dX7_copyFrom_153 : decode cX7_copyFrom 153 = .ok (.return_, 1) := by decide +kernel
theorem dX7_orderAll_0 : decode cX7_orderAll 0 = .ok (.iconst 0, 1) := by decide +kernel
theorem dX7_orderAll_1 : decode cX7_orderAll 1 = .ok (.istore_n 2, 1) := by decide +kernel
theorem dX7_orderAll_2 : decode cX7_orderAll 2 = .ok (.iload_n 2, 1) := by decide +kernel
theorem dX7_orderAll_3 : decode cX7_orderAll 3 = .ok (.iload_n 1, 1) := by decide +kernel
theorem dX7_orderAll_4 : decode cX7_orderAll 4 = .ok (.if_icmp .ge 16, 3) := by decide +kernel
theorem dX7_orderAll_7 : decode cX7_orderAll 7 = .ok (.aload_n 0, 1) := by decide +kernel
theorem dX7_orderAll_8 : decode cX7_orderAll 8 = .ok (.getfield 9, 3) := by decide +kernel
theorem dX7_orderAll_11 : decode cX7_orderAll 11 = .ok (.iload_n 2, 1) := by decide +kernel
theorem dX7_orderAll_12 : decode cX7_orderAll 12 = .ok (.iload_n 2, 1) := by decide +kernel
theorem dX7_orderAll_13 : decode cX7_orderAll 13 = .ok (.iastore, 1) := by decide +kernel
theorem dX7_orderAll_14 : decode cX7_orderAll 14 = .ok (.iinc 2 1, 3) := by decide +kernel
theorem dX7_orderAll_17 : decode cX7_orderAll 17 = .ok (.goto (-15), 3) := by decide +kernel
theorem dX7_orderAll_20 : decode cX7_orderAll 20 = .ok (.aload_n 0, 1) := by decide +kernel
theorem dX7_orderAll_21 : decode cX7_orderAll 21 = .ok (.iload_n 1, 1) := by decide +kernel
theorem dX7_orderAll_22 : decode cX7_orderAll 22 = .ok (.putfield 15, 3) := by decide +kernel
theorem dX7_orderAll_25 : decode cX7_orderAll 25 = .ok (.return_, 1) := by decide +kernel
theorem dX7_orderAnew_0 : decode cX7_orderAnew 0 = .ok (.aload_n 1, 1) := by decide +kernel
theorem dX7_orderAnew_1 : decode cX7_orderAnew 1 = .ok (.iconst 0, 1) := by decide +kernel
theorem dX7_orderAnew_2 : decode cX7_orderAnew 2 = .ok (.aload_n 0, 1) := by decide +kernel
theorem dX7_orderAnew_3 : decode cX7_orderAnew 3 = .ok (.getfield 9, 3) := by decide +kernel
theorem dX7_orderAnew_6 : decode cX7_orderAnew 6 = .ok (.iconst 0, 1) := by decide +kernel
theorem dX7_orderAnew_7 : decode cX7_orderAnew 7 = .ok (.aload_n 0, 1) := by decide +kernel
theorem dX7_orderAnew_8 : decode cX7_orderAnew 8 = .ok (.getfield 15, 3) := by decide +kernel
theorem dX7_orderAnew_11 : decode cX7_orderAnew 11 = .ok (.invokestatic 58, 3) := by decide +kernel
theorem dX7_orderAnew_14 : decode cX7_orderAnew 14 = .ok (.aload_n 0, 1) := by decide +kernel
theorem dX7_orderAnew_15 : decode cX7_orderAnew 15 = .ok (.iconst 0, 1) := by decide +kernel
theorem dX7_orderAnew_16 : decode cX7_orderAnew 16 = .ok (.putfield 19, 3) := by decide +kernel
theorem dX7_orderAnew_19 : decode cX7_orderAnew 19 = .ok (.return_, 1) := by decide +kernel
theorem dX7_placeOf_0 : decode cX7_placeOf 0 = .ok (.iconst 0, 1) := by decide +kernel
theorem dX7_placeOf_1 : decode cX7_placeOf 1 = .ok (.istore_n 2, 1) := by decide +kernel
theorem dX7_placeOf_2 : decode cX7_placeOf 2 = .ok (.iload_n 2, 1) := by decide +kernel
theorem dX7_placeOf_3 : decode cX7_placeOf 3 = .ok (.aload_n 0, 1) := by decide +kernel
theorem dX7_placeOf_4 : decode cX7_placeOf 4 = .ok (.getfield 15, 3) := by decide +kernel
theorem dX7_placeOf_7 : decode cX7_placeOf 7 = .ok (.if_icmp .ge 21, 3) := by decide +kernel
theorem dX7_placeOf_10 : decode cX7_placeOf 10 = .ok (.aload_n 0, 1) := by decide +kernel
theorem dX7_placeOf_11 : decode cX7_placeOf 11 = .ok (.getfield 9, 3) := by decide +kernel
theorem dX7_placeOf_14 : decode cX7_placeOf 14 = .ok (.iload_n 2, 1) := by decide +kernel
theorem dX7_placeOf_15 : decode cX7_placeOf 15 = .ok (.iaload, 1) := by decide +kernel
theorem dX7_placeOf_16 : decode cX7_placeOf 16 = .ok (.iload_n 1, 1) := by decide +kernel
theorem dX7_placeOf_17 : decode cX7_placeOf 17 = .ok (.if_icmp .ne 5, 3) := by decide +kernel
theorem dX7_placeOf_20 : decode cX7_placeOf 20 = .ok (.iload_n 2, 1) := by decide +kernel
theorem dX7_placeOf_21 : decode cX7_placeOf 21 = .ok (.ireturn, 1) := by decide +kernel
theorem dX7_placeOf_22 : decode cX7_placeOf 22 = .ok (.iinc 2 1, 3) := by decide +kernel
theorem dX7_placeOf_25 : decode cX7_placeOf 25 = .ok (.goto (-23), 3) := by decide +kernel
theorem dX7_placeOf_28 : decode cX7_placeOf 28 = .ok (.iconst (-1), 1) := by decide +kernel
theorem dX7_placeOf_29 : decode cX7_placeOf 29 = .ok (.ireturn, 1) := by decide +kernel
theorem dX7_nextPlace_0 : decode cX7_nextPlace 0 = .ok (.iconst 0, 1) := by decide +kernel
theorem dX7_nextPlace_1 : decode cX7_nextPlace 1 = .ok (.istore_n 1, 1) := by decide +kernel
theorem dX7_nextPlace_2 : decode cX7_nextPlace 2 = .ok (.iload_n 1, 1) := by decide +kernel
theorem dX7_nextPlace_3 : decode cX7_nextPlace 3 = .ok (.aload_n 0, 1) := by decide +kernel
theorem dX7_nextPlace_4 : decode cX7_nextPlace 4 = .ok (.getfield 15, 3) := by decide +kernel
theorem dX7_nextPlace_7 : decode cX7_nextPlace 7 = .ok (.if_icmp .ge 61, 3) := by decide +kernel
theorem dX7_nextPlace_10 : decode cX7_nextPlace 10 = .ok (.aload_n 0, 1) := by decide +kernel
theorem dX7_nextPlace_11 : decode cX7_nextPlace 11 = .ok (.getfield 19, 3) := by decide +kernel
theorem dX7_nextPlace_14 : decode cX7_nextPlace 14 = .ok (.iload_n 1, 1) := by decide +kernel
theorem dX7_nextPlace_15 : decode cX7_nextPlace 15 = .ok (.iadd, 1) := by decide +kernel
theorem dX7_nextPlace_16 : decode cX7_nextPlace 16 = .ok (.aload_n 0, 1) := by decide +kernel
theorem dX7_nextPlace_17 : decode cX7_nextPlace 17 = .ok (.getfield 15, 3) := by decide +kernel
theorem dX7_nextPlace_20 : decode cX7_nextPlace 20 = .ok (.if_icmp .ge 12, 3) := by decide +kernel
theorem dX7_nextPlace_23 : decode cX7_nextPlace 23 = .ok (.aload_n 0, 1) := by decide +kernel
theorem dX7_nextPlace_24 : decode cX7_nextPlace 24 = .ok (.getfield 19, 3) := by decide +kernel
theorem dX7_nextPlace_27 : decode cX7_nextPlace 27 = .ok (.iload_n 1, 1) := by decide +kernel
theorem dX7_nextPlace_28 : decode cX7_nextPlace 28 = .ok (.iadd, 1) := by decide +kernel
theorem dX7_nextPlace_29 : decode cX7_nextPlace 29 = .ok (.goto 14, 3) := by decide +kernel
theorem dX7_nextPlace_32 : decode cX7_nextPlace 32 = .ok (.aload_n 0, 1) := by decide +kernel
theorem dX7_nextPlace_33 : decode cX7_nextPlace 33 = .ok (.getfield 19, 3) := by decide +kernel
theorem dX7_nextPlace_36 : decode cX7_nextPlace 36 = .ok (.iload_n 1, 1) := by decide +kernel
theorem dX7_nextPlace_37 : decode cX7_nextPlace 37 = .ok (.iadd, 1) := by decide +kernel
theorem dX7_nextPlace_38 : decode cX7_nextPlace 38 = .ok (.aload_n 0, 1) := by decide +kernel
theorem dX7_nextPlace_39 : decode cX7_nextPlace 39 = .ok (.getfield 15, 3) := by decide +kernel
theorem dX7_nextPlace_42 : decode cX7_nextPlace 42 = .ok (.isub, 1) := by decide +kernel
theorem dX7_nextPlace_43 : decode cX7_nextPlace 43 = .ok (.istore_n 2, 1) := by decide +kernel
theorem dX7_nextPlace_44 : decode cX7_nextPlace 44 = .ok (.aload_n 0, 1) := by decide +kernel
theorem dX7_nextPlace_45 : decode cX7_nextPlace 45 = .ok (.getfield 40, 3) := by decide +kernel
theorem dX7_nextPlace_48 : decode cX7_nextPlace 48 = .ok (.aload_n 0, 1) := by decide +kernel
theorem dX7_nextPlace_49 : decode cX7_nextPlace 49 = .ok (.getfield 9, 3) := by decide +kernel
theorem dX7_nextPlace_52 : decode cX7_nextPlace 52 = .ok (.iload_n 2, 1) := by decide +kernel
theorem dX7_nextPlace_53 : decode cX7_nextPlace 53 = .ok (.iaload, 1) := by decide +kernel
theorem dX7_nextPlace_54 : decode cX7_nextPlace 54 = .ok (.invokestatic 64, 3) := by decide +kernel
theorem dX7_nextPlace_57 : decode cX7_nextPlace 57 = .ok (.ifCond .ne 5, 3) := by decide +kernel
theorem dX7_nextPlace_60 : decode cX7_nextPlace 60 = .ok (.iload_n 2, 1) := by decide +kernel
theorem dX7_nextPlace_61 : decode cX7_nextPlace 61 = .ok (.ireturn, 1) := by decide +kernel
theorem dX7_nextPlace_62 : decode cX7_nextPlace 62 = .ok (.iinc 1 1, 3) := by decide +kernel
theorem dX7_nextPlace_65 : decode cX7_nextPlace 65 = .ok (.goto (-63), 3) := by decide +kernel
theorem dX7_nextPlace_68 : decode cX7_nextPlace 68 = .ok (.iconst (-1), 1) := by decide +kernel
theorem dX7_nextPlace_69 : decode cX7_nextPlace 69 = .ok (.ireturn, 1) := by decide +kernel
theorem dX7_usedInAll_0 : decode cX7_usedInAll 0 = .ok (.iconst 0, 1) := by decide +kernel
theorem dX7_usedInAll_1 : decode cX7_usedInAll 1 = .ok (.istore_n 1, 1) := by decide +kernel
theorem dX7_usedInAll_2 : decode cX7_usedInAll 2 = .ok (.iconst 0, 1) := by decide +kernel
theorem dX7_usedInAll_3 : decode cX7_usedInAll 3 = .ok (.istore_n 2, 1) := by decide +kernel
theorem dX7_usedInAll_4 : decode cX7_usedInAll 4 = .ok (.iload_n 2, 1) := by decide +kernel
theorem dX7_usedInAll_5 : decode cX7_usedInAll 5 = .ok (.bipush 6, 2) := by decide +kernel
theorem dX7_usedInAll_7 : decode cX7_usedInAll 7 = .ok (.if_icmp .ge 18, 3) := by decide +kernel
theorem dX7_usedInAll_10 : decode cX7_usedInAll 10 = .ok (.iload_n 1, 1) := by decide +kernel
theorem dX7_usedInAll_11 : decode cX7_usedInAll 11 = .ok (.aload_n 0, 1) := by decide +kernel
theorem dX7_usedInAll_12 : decode cX7_usedInAll 12 = .ok (.getfield 34, 3) := by decide +kernel
theorem dX7_usedInAll_15 : decode cX7_usedInAll 15 = .ok (.iload_n 2, 1) := by decide +kernel
theorem dX7_usedInAll_16 : decode cX7_usedInAll 16 = .ok (.iaload, 1) := by decide +kernel
theorem dX7_usedInAll_17 : decode cX7_usedInAll 17 = .ok (.iadd, 1) := by decide +kernel
theorem dX7_usedInAll_18 : decode cX7_usedInAll 18 = .ok (.istore_n 1, 1) := by decide +kernel
theorem dX7_usedInAll_19 : decode cX7_usedInAll 19 = .ok (.iinc 2 1, 3) := by decide +kernel
theorem dX7_usedInAll_22 : decode cX7_usedInAll 22 = .ok (.goto (-18), 3) := by decide +kernel
theorem dX7_usedInAll_25 : decode cX7_usedInAll 25 = .ok (.iload_n 1, 1) := by decide +kernel
theorem dX7_usedInAll_26 : decode cX7_usedInAll 26 = .ok (.ireturn, 1) := by decide +kernel
theorem dX7_freeOf_0 : decode cX7_freeOf 0 = .ok (.aload_n 1, 1) := by decide +kernel
theorem dX7_freeOf_1 : decode cX7_freeOf 1 = .ok (.getfield 68, 3) := by decide +kernel
theorem dX7_freeOf_4 : decode cX7_freeOf 4 = .ok (.iload_n 2, 1) := by decide +kernel
theorem dX7_freeOf_5 : decode cX7_freeOf 5 = .ok (.iaload, 1) := by decide +kernel
theorem dX7_freeOf_6 : decode cX7_freeOf 6 = .ok (.aload_n 0, 1) := by decide +kernel
theorem dX7_freeOf_7 : decode cX7_freeOf 7 = .ok (.getfield 34, 3) := by decide +kernel
theorem dX7_freeOf_10 : decode cX7_freeOf 10 = .ok (.iload_n 2, 1) := by decide +kernel
theorem dX7_freeOf_11 : decode cX7_freeOf 11 = .ok (.iaload, 1) := by decide +kernel
theorem dX7_freeOf_12 : decode cX7_freeOf 12 = .ok (.isub, 1) := by decide +kernel
theorem dX7_freeOf_13 : decode cX7_freeOf 13 = .ok (.ireturn, 1) := by decide +kernel
theorem dX7_isReached_0 : decode cX7_isReached 0 = .ok (.iconst 0, 1) := by decide +kernel
theorem dX7_isReached_1 : decode cX7_isReached 1 = .ok (.istore_n 3, 1) := by decide +kernel
theorem dX7_isReached_2 : decode cX7_isReached 2 = .ok (.iload_n 3, 1) := by decide +kernel
theorem dX7_isReached_3 : decode cX7_isReached 3 = .ok (.bipush 8, 2) := by decide +kernel
theorem dX7_isReached_5 : decode cX7_isReached 5 = .ok (.if_icmp .ge 32, 3) := by decide +kernel
theorem dX7_isReached_8 : decode cX7_isReached 8 = .ok (.iload_n 1, 1) := by decide +kernel
theorem dX7_isReached_9 : decode cX7_isReached 9 = .ok (.iload_n 3, 1) := by decide +kernel
theorem dX7_isReached_10 : decode cX7_isReached 10 = .ok (.invokestatic 64, 3) := by decide +kernel
theorem dX7_isReached_13 : decode cX7_isReached 13 = .ok (.ifCond .eq 18, 3) := by decide +kernel
theorem dX7_isReached_16 : decode cX7_isReached 16 = .ok (.iload_n 2, 1) := by decide +kernel
theorem dX7_isReached_17 : decode cX7_isReached 17 = .ok (.aload_n 0, 1) := by decide +kernel
theorem dX7_isReached_18 : decode cX7_isReached 18 = .ok (.getfield 22, 3) := by decide +kernel
theorem dX7_isReached_21 : decode cX7_isReached 21 = .ok (.iload_n 3, 1) := by decide +kernel
theorem dX7_isReached_22 : decode cX7_isReached 22 = .ok (.iaload, 1) := by decide +kernel
theorem dX7_isReached_23 : decode cX7_isReached 23 = .ok (.iconst (-1), 1) := by decide +kernel
theorem dX7_isReached_24 : decode cX7_isReached 24 = .ok (.ixor, 1) := by decide +kernel
theorem dX7_isReached_25 : decode cX7_isReached 25 = .ok (.iand, 1) := by decide +kernel
theorem dX7_isReached_26 : decode cX7_isReached 26 = .ok (.ifCond .eq 5, 3) := by decide +kernel
theorem dX7_isReached_29 : decode cX7_isReached 29 = .ok (.iconst 0, 1) := by decide +kernel
theorem dX7_isReached_30 : decode cX7_isReached 30 = .ok (.ireturn, 1) := by decide +kernel
theorem dX7_isReached_31 : decode cX7_isReached 31 = .ok (.iinc 3 1, 3) := by decide +kernel
theorem dX7_isReached_34 : decode cX7_isReached 34 = .ok (.goto (-32), 3) := by decide +kernel
theorem dX7_isReached_37 : decode cX7_isReached 37 = .ok (.iconst 1, 1) := by decide +kernel
theorem dX7_isReached_38 : decode cX7_isReached 38 = .ok (.ireturn, 1) := by decide +kernel
theorem dX7_swapPlaces_0 : decode cX7_swapPlaces 0 = .ok (.aload_n 0, 1) := by decide +kernel
theorem dX7_swapPlaces_1 : decode cX7_swapPlaces 1 = .ok (.iload_n 1, 1) := by decide +kernel
theorem dX7_swapPlaces_2 : decode cX7_swapPlaces 2 = .ok (.invokevirtual 73, 3) := by decide +kernel
theorem dX7_swapPlaces_5 : decode cX7_swapPlaces 5 = .ok (.istore_n 3, 1) := by decide +kernel
theorem dX7_swapPlaces_6 : decode cX7_swapPlaces 6 = .ok (.aload_n 0, 1) := by decide +kernel
theorem dX7_swapPlaces_7 : decode cX7_swapPlaces 7 = .ok (.iload_n 2, 1) := by decide +kernel
theorem dX7_swapPlaces_8 : decode cX7_swapPlaces 8 = .ok (.invokevirtual 73, 3) := by decide +kernel
theorem dX7_swapPlaces_11 : decode cX7_swapPlaces 11 = .ok (.istore 4, 2) := by decide +kernel
theorem dX7_swapPlaces_13 : decode cX7_swapPlaces 13 = .ok (.iload_n 3, 1) := by decide +kernel
theorem dX7_swapPlaces_14 : decode cX7_swapPlaces 14 = .ok (.iload 4, 2) := by decide +kernel
theorem dX7_swapPlaces_16 : decode cX7_swapPlaces 16 = .ok (.if_icmp .eq 14, 3) := by decide +kernel
theorem dX7_swapPlaces_19 : decode cX7_swapPlaces 19 = .ok (.iload_n 3, 1) := by decide +kernel
theorem dX7_swapPlaces_20 : decode cX7_swapPlaces 20 = .ok (.iconst (-1), 1) := by decide +kernel
theorem dX7_swapPlaces_21 : decode cX7_swapPlaces 21 = .ok (.if_icmp .eq 9, 3) := by decide +kernel
theorem dX7_swapPlaces_24 : decode cX7_swapPlaces 24 = .ok (.iload 4, 2) := by decide +kernel
theorem dX7_swapPlaces_26 : decode cX7_swapPlaces 26 = .ok (.iconst (-1), 1) := by decide +kernel
theorem dX7_swapPlaces_27 : decode cX7_swapPlaces 27 = .ok (.if_icmp .ne 5, 3) := by decide +kernel
theorem dX7_swapPlaces_30 : decode cX7_swapPlaces 30 = .ok (.iconst 0, 1) := by decide +kernel
theorem dX7_swapPlaces_31 : decode cX7_swapPlaces 31 = .ok (.ireturn, 1) := by decide +kernel
theorem dX7_swapPlaces_32 : decode cX7_swapPlaces 32 = .ok (.aload_n 0, 1) := by decide +kernel
theorem dX7_swapPlaces_33 : decode cX7_swapPlaces 33 = .ok (.getfield 9, 3) := by decide +kernel
theorem dX7_swapPlaces_36 : decode cX7_swapPlaces 36 = .ok (.iload_n 3, 1) := by decide +kernel
theorem dX7_swapPlaces_37 : decode cX7_swapPlaces 37 = .ok (.iload_n 2, 1) := by decide +kernel
theorem dX7_swapPlaces_38 : decode cX7_swapPlaces 38 = .ok (.iastore, 1) := by decide +kernel
theorem dX7_swapPlaces_39 : decode cX7_swapPlaces 39 = .ok (.aload_n 0, 1) := by decide +kernel
theorem dX7_swapPlaces_40 : decode cX7_swapPlaces 40 = .ok (.getfield 9, 3) := by decide +kernel
theorem dX7_swapPlaces_43 : decode cX7_swapPlaces 43 = .ok (.iload 4, 2) := by decide +kernel
theorem dX7_swapPlaces_45 : decode cX7_swapPlaces 45 = .ok (.iload_n 1, 1) := by decide +kernel
theorem dX7_swapPlaces_46 : decode cX7_swapPlaces 46 = .ok (.iastore, 1) := by decide +kernel
theorem dX7_swapPlaces_47 : decode cX7_swapPlaces 47 = .ok (.iconst 1, 1) := by decide +kernel
theorem dX7_swapPlaces_48 : decode cX7_swapPlaces 48 = .ok (.ireturn, 1) := by decide +kernel
theorem dX7_erasePage_0 : decode cX7_erasePage 0 = .ok (.aload_n 0, 1) := by decide +kernel
theorem dX7_erasePage_1 : decode cX7_erasePage 1 = .ok (.getfield 34, 3) := by decide +kernel
theorem dX7_erasePage_4 : decode cX7_erasePage 4 = .ok (.iload_n 1, 1) := by decide +kernel
theorem dX7_erasePage_5 : decode cX7_erasePage 5 = .ok (.iaload, 1) := by decide +kernel
theorem dX7_erasePage_6 : decode cX7_erasePage 6 = .ok (.istore_n 2, 1) := by decide +kernel
theorem dX7_erasePage_7 : decode cX7_erasePage 7 = .ok (.iconst 0, 1) := by decide +kernel
theorem dX7_erasePage_8 : decode cX7_erasePage 8 = .ok (.istore_n 3, 1) := by decide +kernel
theorem dX7_erasePage_9 : decode cX7_erasePage 9 = .ok (.iload_n 3, 1) := by decide +kernel
theorem dX7_erasePage_10 : decode cX7_erasePage 10 = .ok (.bipush 6, 2) := by decide +kernel
theorem dX7_erasePage_12 : decode cX7_erasePage 12 = .ok (.if_icmp .ge 21, 3) := by decide +kernel
theorem dX7_erasePage_15 : decode cX7_erasePage 15 = .ok (.aload_n 0, 1) := by decide +kernel
theorem dX7_erasePage_16 : decode cX7_erasePage 16 = .ok (.getfield 31, 3) := by decide +kernel
theorem dX7_erasePage_19 : decode cX7_erasePage 19 = .ok (.iload_n 1, 1) := by decide +kernel
theorem dX7_erasePage_20 : decode cX7_erasePage 20 = .ok (.bipush 6, 2) := by decide +kernel
theorem dX7_erasePage_22 : decode cX7_erasePage 22 = .ok (.imul, 1) := by decide +kernel
theorem dX7_erasePage_23 : decode cX7_erasePage 23 = .ok (.iload_n 3, 1) := by decide +kernel
theorem dX7_erasePage_24 : decode cX7_erasePage 24 = .ok (.iadd, 1) := by decide +kernel
theorem dX7_erasePage_25 : decode cX7_erasePage 25 = .ok (.iconst 0, 1) := by decide +kernel
theorem dX7_erasePage_26 : decode cX7_erasePage 26 = .ok (.iastore, 1) := by decide +kernel
theorem dX7_erasePage_27 : decode cX7_erasePage 27 = .ok (.iinc 3 1, 3) := by decide +kernel
theorem dX7_erasePage_30 : decode cX7_erasePage 30 = .ok (.goto (-21), 3) := by decide +kernel
theorem dX7_erasePage_33 : decode cX7_erasePage 33 = .ok (.aload_n 0, 1) := by decide +kernel
theorem dX7_erasePage_34 : decode cX7_erasePage 34 = .ok (.getfield 34, 3) := by decide +kernel
theorem dX7_erasePage_37 : decode cX7_erasePage 37 = .ok (.iload_n 1, 1) := by decide +kernel
theorem dX7_erasePage_38 : decode cX7_erasePage 38 = .ok (.iconst 0, 1) := by decide +kernel
theorem dX7_erasePage_39 : decode cX7_erasePage 39 = .ok (.iastore, 1) := by decide +kernel
theorem dX7_erasePage_40 : decode cX7_erasePage 40 = .ok (.aload_n 0, 1) := by decide +kernel
theorem dX7_erasePage_41 : decode cX7_erasePage 41 = .ok (.getfield 37, 3) := by decide +kernel
theorem dX7_erasePage_44 : decode cX7_erasePage 44 = .ok (.iload_n 1, 1) := by decide +kernel
theorem dX7_erasePage_45 : decode cX7_erasePage 45 = .ok (.iconst 0, 1) := by decide +kernel
theorem dX7_erasePage_46 : decode cX7_erasePage 46 = .ok (.iastore, 1) := by decide +kernel
theorem dX7_erasePage_47 : decode cX7_erasePage 47 = .ok (.iload_n 2, 1) := by decide +kernel
theorem dX7_erasePage_48 : decode cX7_erasePage 48 = .ok (.ireturn, 1) := by decide +kernel
theorem dX7_goOn_0 : decode cX7_goOn 0 = .ok (.aload_n 0, 1) := by decide +kernel
theorem dX7_goOn_1 : decode cX7_goOn 1 = .ok (.invokevirtual 77, 3) := by decide +kernel
theorem dX7_goOn_4 : decode cX7_goOn 4 = .ok (.istore_n 1, 1) := by decide +kernel
theorem dX7_goOn_5 : decode cX7_goOn 5 = .ok (.iload_n 1, 1) := by decide +kernel
theorem dX7_goOn_6 : decode cX7_goOn 6 = .ok (.iconst (-1), 1) := by decide +kernel
theorem dX7_goOn_7 : decode cX7_goOn 7 = .ok (.if_icmp .ne 5, 3) := by decide +kernel
theorem dX7_goOn_10 : decode cX7_goOn 10 = .ok (.iconst (-1), 1) := by decide +kernel
theorem dX7_goOn_11 : decode cX7_goOn 11 = .ok (.ireturn, 1) := by decide +kernel
theorem dX7_goOn_12 : decode cX7_goOn 12 = .ok (.aload_n 0, 1) := by decide +kernel
theorem dX7_goOn_13 : decode cX7_goOn 13 = .ok (.iload_n 1, 1) := by decide +kernel
theorem dX7_goOn_14 : decode cX7_goOn 14 = .ok (.iconst 1, 1) := by decide +kernel
theorem dX7_goOn_15 : decode cX7_goOn 15 = .ok (.iadd, 1) := by decide +kernel
theorem dX7_goOn_16 : decode cX7_goOn 16 = .ok (.aload_n 0, 1) := by decide +kernel
theorem dX7_goOn_17 : decode cX7_goOn 17 = .ok (.getfield 15, 3) := by decide +kernel
theorem dX7_goOn_20 : decode cX7_goOn 20 = .ok (.if_icmp .ge 9, 3) := by decide +kernel
theorem dX7_goOn_23 : decode cX7_goOn 23 = .ok (.iload_n 1, 1) := by decide +kernel
theorem dX7_goOn_24 : decode cX7_goOn 24 = .ok (.iconst 1, 1) := by decide +kernel
theorem dX7_goOn_25 : decode cX7_goOn 25 = .ok (.iadd, 1) := by decide +kernel
theorem dX7_goOn_26 : decode cX7_goOn 26 = .ok (.goto 4, 3) := by decide +kernel
theorem dX7_goOn_29 : decode cX7_goOn 29 = .ok (.iconst 0, 1) := by decide +kernel
theorem dX7_goOn_30 : decode cX7_goOn 30 = .ok (.putfield 19, 3) := by decide +kernel
theorem dX7_goOn_33 : decode cX7_goOn 33 = .ok (.aload_n 0, 1) := by decide +kernel
theorem dX7_goOn_34 : decode cX7_goOn 34 = .ok (.getfield 9, 3) := by decide +kernel
theorem dX7_goOn_37 : decode cX7_goOn 37 = .ok (.iload_n 1, 1) := by decide +kernel
theorem dX7_goOn_38 : decode cX7_goOn 38 = .ok (.iaload, 1) := by decide +kernel
theorem dX7_goOn_39 : decode cX7_goOn 39 = .ok (.ireturn, 1) := by decide +kernel
theorem dX7_pass_0 : decode cX7_pass 0 = .ok (.aload_n 0, 1) := by decide +kernel
theorem dX7_pass_1 : decode cX7_pass 1 = .ok (.dup, 1) := by decide +kernel
theorem dX7_pass_2 : decode cX7_pass 2 = .ok (.getfield 46, 3) := by decide +kernel
theorem dX7_pass_5 : decode cX7_pass 5 = .ok (.iconst 1, 1) := by decide +kernel
theorem dX7_pass_6 : decode cX7_pass 6 = .ok (.iadd, 1) := by decide +kernel
theorem dX7_pass_7 : decode cX7_pass 7 = .ok (.putfield 46, 3) := by decide +kernel
theorem dX7_pass_10 : decode cX7_pass 10 = .ok (.aload_n 0, 1) := by decide +kernel
theorem dX7_pass_11 : decode cX7_pass 11 = .ok (.invokevirtual 81, 3) := by decide +kernel
theorem dX7_pass_14 : decode cX7_pass 14 = .ok (.istore_n 2, 1) := by decide +kernel
theorem dX7_pass_15 : decode cX7_pass 15 = .ok (.iload_n 2, 1) := by decide +kernel
theorem dX7_pass_16 : decode cX7_pass 16 = .ok (.iconst (-1), 1) := by decide +kernel
theorem dX7_pass_17 : decode cX7_pass 17 = .ok (.if_icmp .ne 5, 3) := by decide +kernel
theorem dX7_pass_20 : decode cX7_pass 20 = .ok (.iconst 0, 1) := by decide +kernel
theorem dX7_pass_21 : decode cX7_pass 21 = .ok (.ireturn, 1) := by decide +kernel
theorem dX7_pass_22 : decode cX7_pass 22 = .ok (.aload_n 0, 1) := by decide +kernel
theorem dX7_pass_23 : decode cX7_pass 23 = .ok (.getfield 22, 3) := by decide +kernel
theorem dX7_pass_26 : decode cX7_pass 26 = .ok (.iload_n 2, 1) := by decide +kernel
theorem dX7_pass_27 : decode cX7_pass 27 = .ok (.iaload, 1) := by decide +kernel
theorem dX7_pass_28 : decode cX7_pass 28 = .ok (.istore_n 3, 1) := by decide +kernel
theorem dX7_pass_29 : decode cX7_pass 29 = .ok (.aload_n 0, 1) := by decide +kernel
theorem dX7_pass_30 : decode cX7_pass 30 = .ok (.getfield 49, 3) := by decide +kernel
theorem dX7_pass_33 : decode cX7_pass 33 = .ok (.istore 4, 2) := by decide +kernel
theorem dX7_pass_35 : decode cX7_pass 35 = .ok (.aload_n 1, 1) := by decide +kernel
theorem dX7_pass_36 : decode cX7_pass 36 = .ok (.getfield 84, 3) := by decide +kernel
theorem dX7_pass_39 : decode cX7_pass 39 = .ok (.iload_n 2, 1) := by decide +kernel
theorem dX7_pass_40 : decode cX7_pass 40 = .ok (.invokestatic 64, 3) := by decide +kernel
theorem dX7_pass_43 : decode cX7_pass 43 = .ok (.ifCond .ne 34, 3) := by decide +kernel
theorem dX7_pass_46 : decode cX7_pass 46 = .ok (.aload_n 0, 1) := by decide +kernel
theorem dX7_pass_47 : decode cX7_pass 47 = .ok (.getfield 22, 3) := by decide +kernel
theorem dX7_pass_50 : decode cX7_pass 50 = .ok (.iload_n 2, 1) := by decide +kernel
theorem dX7_pass_51 : decode cX7_pass 51 = .ok (.dup2, 1) := by decide +kernel
theorem dX7_pass_52 : decode cX7_pass 52 = .ok (.iaload, 1) := by decide +kernel
theorem dX7_pass_53 : decode cX7_pass 53 = .ok (.aload_n 0, 1) := by decide +kernel
theorem dX7_pass_54 : decode cX7_pass 54 = .ok (.aload_n 1, 1) := by decide +kernel
theorem dX7_pass_55 : decode cX7_pass 55 = .ok (.invokevirtual 87, 3) := by decide +kernel
theorem dX7_pass_58 : decode cX7_pass 58 = .ok (.ior, 1) := by decide +kernel
theorem dX7_pass_59 : decode cX7_pass 59 = .ok (.iastore, 1) := by decide +kernel
theorem dX7_pass_60 : decode cX7_pass 60 = .ok (.aload_n 1, 1) := by decide +kernel
theorem dX7_pass_61 : decode cX7_pass 61 = .ok (.getfield 91, 3) := by decide +kernel
theorem dX7_pass_64 : decode cX7_pass 64 = .ok (.iload_n 2, 1) := by decide +kernel
theorem dX7_pass_65 : decode cX7_pass 65 = .ok (.invokestatic 64, 3) := by decide +kernel
theorem dX7_pass_68 : decode cX7_pass 68 = .ok (.ifCond .eq 9, 3) := by decide +kernel
theorem dX7_pass_71 : decode cX7_pass 71 = .ok (.aload_n 0, 1) := by decide +kernel
theorem dX7_pass_72 : decode cX7_pass 72 = .ok (.aload_n 1, 1) := by decide +kernel
theorem dX7_pass_73 : decode cX7_pass 73 = .ok (.iload_n 3, 1) := by decide +kernel
theorem dX7_pass_74 : decode cX7_pass 74 = .ok (.invokevirtual 94, 3) := by decide +kernel
theorem dX7_pass_77 : decode cX7_pass 77 = .ok (.aload_n 0, 1) := by decide +kernel
theorem dX7_pass_78 : decode cX7_pass 78 = .ok (.aload_n 1, 1) := by decide +kernel
theorem dX7_pass_79 : decode cX7_pass 79 = .ok (.iload_n 2, 1) := by decide +kernel
theorem dX7_pass_80 : decode cX7_pass 80 = .ok (.invokevirtual 98, 3) := by decide +kernel
theorem dX7_pass_83 : decode cX7_pass 83 = .ok (.aload_n 0, 1) := by decide +kernel
theorem dX7_pass_84 : decode cX7_pass 84 = .ok (.getfield 22, 3) := by decide +kernel
theorem dX7_pass_87 : decode cX7_pass 87 = .ok (.iload_n 2, 1) := by decide +kernel
theorem dX7_pass_88 : decode cX7_pass 88 = .ok (.iaload, 1) := by decide +kernel
theorem dX7_pass_89 : decode cX7_pass 89 = .ok (.iload_n 3, 1) := by decide +kernel
theorem dX7_pass_90 : decode cX7_pass 90 = .ok (.if_icmp .ne 12, 3) := by decide +kernel
theorem dX7_pass_93 : decode cX7_pass 93 = .ok (.aload_n 0, 1) := by decide +kernel
theorem dX7_pass_94 : decode cX7_pass 94 = .ok (.getfield 49, 3) := by decide +kernel
theorem dX7_pass_97 : decode cX7_pass 97 = .ok (.iload 4, 2) := by decide +kernel
theorem dX7_pass_99 : decode cX7_pass 99 = .ok (.if_icmp .eq 7, 3) := by decide +kernel
theorem dX7_pass_102 : decode cX7_pass 102 = .ok (.iconst 1, 1) := by decide +kernel
theorem dX7_pass_103 : decode cX7_pass 103 = .ok (.goto 4, 3) := by decide +kernel
theorem dX7_pass_106 : decode cX7_pass 106 = .ok (.iconst 0, 1) := by decide +kernel
theorem dX7_pass_107 : decode cX7_pass 107 = .ok (.ireturn, 1) := by decide +kernel
theorem dX7_passMany_0 : decode cX7_passMany 0 = .ok (.iconst 0, 1) := by decide +kernel
theorem dX7_passMany_1 : decode cX7_passMany 1 = .ok (.istore_n 3, 1) := by decide +kernel
theorem dX7_passMany_2 : decode cX7_passMany 2 = .ok (.iconst 0, 1) := by decide +kernel
theorem dX7_passMany_3 : decode cX7_passMany 3 = .ok (.istore 4, 2) := by decide +kernel
theorem dX7_passMany_5 : decode cX7_passMany 5 = .ok (.iload_n 3, 1) := by decide +kernel
theorem dX7_passMany_6 : decode cX7_passMany 6 = .ok (.iload_n 2, 1) := by decide +kernel
theorem dX7_passMany_7 : decode cX7_passMany 7 = .ok (.if_icmp .ge 36, 3) := by decide +kernel
theorem dX7_passMany_10 : decode cX7_passMany 10 = .ok (.iload 4, 2) := by decide +kernel
theorem dX7_passMany_12 : decode cX7_passMany 12 = .ok (.aload_n 0, 1) := by decide +kernel
theorem dX7_passMany_13 : decode cX7_passMany 13 = .ok (.getfield 15, 3) := by decide +kernel
theorem dX7_passMany_16 : decode cX7_passMany 16 = .ok (.if_icmp .ge 27, 3) := by decide +kernel
theorem dX7_passMany_19 : decode cX7_passMany 19 = .ok (.aload_n 0, 1) := by decide +kernel
theorem dX7_passMany_20 : decode cX7_passMany 20 = .ok (.aload_n 1, 1) := by decide +kernel
theorem dX7_passMany_21 : decode cX7_passMany 21 = .ok (.invokevirtual 101, 3) := by decide +kernel
theorem dX7_passMany_24 : decode cX7_passMany 24 = .ok (.ifCond .eq 7, 3) := by decide +kernel
theorem dX7_passMany_27 : decode cX7_passMany 27 = .ok (.iconst 0, 1) := by decide +kernel
theorem dX7_passMany_28 : decode cX7_passMany 28 = .ok (.goto 7, 3) := by decide +kernel
theorem dX7_passMany_31 : decode cX7_passMany 31 = .ok (.iload 4, 2) := by decide +kernel
theorem dX7_passMany_33 : decode cX7_passMany 33 = .ok (.iconst 1, 1) := by decide +kernel
theorem dX7_passMany_34 : decode cX7_passMany 34 = .ok (.iadd, 1) := by decide +kernel
theorem dX7_passMany_35 : decode cX7_passMany 35 = .ok (.istore 4, 2) := by decide +kernel
theorem dX7_passMany_37 : decode cX7_passMany 37 = .ok (.iinc 3 1, 3) := by decide +kernel
theorem dX7_passMany_40 : decode cX7_passMany 40 = .ok (.goto (-35), 3) := by decide +kernel
theorem dX7_passMany_43 : decode cX7_passMany 43 = .ok (.aload_n 0, 1) := by decide +kernel
theorem dX7_passMany_44 : decode cX7_passMany 44 = .ok (.iload_n 2, 1) := by decide +kernel
theorem dX7_passMany_45 : decode cX7_passMany 45 = .ok (.iload_n 3, 1) := by decide +kernel
theorem dX7_passMany_46 : decode cX7_passMany 46 = .ok (.isub, 1) := by decide +kernel
theorem dX7_passMany_47 : decode cX7_passMany 47 = .ok (.invokevirtual 105, 3) := by decide +kernel
theorem dX7_passMany_50 : decode cX7_passMany 50 = .ok (.return_, 1) := by decide +kernel
theorem dX7_skip_0 : decode cX7_skip 0 = .ok (.iconst 0, 1) := by decide +kernel
theorem dX7_skip_1 : decode cX7_skip 1 = .ok (.istore_n 2, 1) := by decide +kernel
theorem dX7_skip_2 : decode cX7_skip 2 = .ok (.iconst 0, 1) := by decide +kernel
theorem dX7_skip_3 : decode cX7_skip 3 = .ok (.istore_n 3, 1) := by decide +kernel
theorem dX7_skip_4 : decode cX7_skip 4 = .ok (.iload_n 3, 1) := by decide +kernel
theorem dX7_skip_5 : decode cX7_skip 5 = .ok (.aload_n 0, 1) := by decide +kernel
theorem dX7_skip_6 : decode cX7_skip 6 = .ok (.getfield 15, 3) := by decide +kernel
theorem dX7_skip_9 : decode cX7_skip 9 = .ok (.if_icmp .ge 33, 3) := by decide +kernel
theorem dX7_skip_12 : decode cX7_skip 12 = .ok (.iload_n 2, 1) := by decide +kernel
theorem dX7_skip_13 : decode cX7_skip 13 = .ok (.aload_n 0, 1) := by decide +kernel
theorem dX7_skip_14 : decode cX7_skip 14 = .ok (.getfield 40, 3) := by decide +kernel
theorem dX7_skip_17 : decode cX7_skip 17 = .ok (.aload_n 0, 1) := by decide +kernel
theorem dX7_skip_18 : decode cX7_skip 18 = .ok (.getfield 9, 3) := by decide +kernel
theorem dX7_skip_21 : decode cX7_skip 21 = .ok (.iload_n 3, 1) := by decide +kernel
theorem dX7_skip_22 : decode cX7_skip 22 = .ok (.iaload, 1) := by decide +kernel
theorem dX7_skip_23 : decode cX7_skip 23 = .ok (.invokestatic 64, 3) := by decide +kernel
theorem dX7_skip_26 : decode cX7_skip 26 = .ok (.ifCond .eq 7, 3) := by decide +kernel
theorem dX7_skip_29 : decode cX7_skip 29 = .ok (.iconst 0, 1) := by decide +kernel
theorem dX7_skip_30 : decode cX7_skip 30 = .ok (.goto 4, 3) := by decide +kernel
theorem dX7_skip_33 : decode cX7_skip 33 = .ok (.iconst 1, 1) := by decide +kernel
theorem dX7_skip_34 : decode cX7_skip 34 = .ok (.iadd, 1) := by decide +kernel
theorem dX7_skip_35 : decode cX7_skip 35 = .ok (.istore_n 2, 1) := by decide +kernel
theorem dX7_skip_36 : decode cX7_skip 36 = .ok (.iinc 3 1, 3) := by decide +kernel
theorem dX7_skip_39 : decode cX7_skip 39 = .ok (.goto (-35), 3) := by decide +kernel
theorem dX7_skip_42 : decode cX7_skip 42 = .ok (.aload_n 0, 1) := by decide +kernel
theorem dX7_skip_43 : decode cX7_skip 43 = .ok (.dup, 1) := by decide +kernel
theorem dX7_skip_44 : decode cX7_skip 44 = .ok (.getfield 46, 3) := by decide +kernel
theorem dX7_skip_47 : decode cX7_skip 47 = .ok (.iload_n 1, 1) := by decide +kernel
theorem dX7_skip_48 : decode cX7_skip 48 = .ok (.iadd, 1) := by decide +kernel
theorem dX7_skip_49 : decode cX7_skip 49 = .ok (.putfield 46, 3) := by decide +kernel
theorem dX7_skip_52 : decode cX7_skip 52 = .ok (.iload_n 1, 1) := by decide +kernel
theorem dX7_skip_53 : decode cX7_skip 53 = .ok (.ifCond .le 17, 3) := by decide +kernel
theorem dX7_skip_56 : decode cX7_skip 56 = .ok (.iload_n 2, 1) := by decide +kernel
theorem dX7_skip_57 : decode cX7_skip 57 = .ok (.ifCond .le 13, 3) := by decide +kernel
theorem dX7_skip_60 : decode cX7_skip 60 = .ok (.iload_n 1, 1) := by decide +kernel
theorem dX7_skip_61 : decode cX7_skip 61 = .ok (.iconst 1, 1) := by decide +kernel
theorem dX7_skip_62 : decode cX7_skip 62 = .ok (.isub, 1) := by decide +kernel
theorem dX7_skip_63 : decode cX7_skip 63 = .ok (.iload_n 2, 1) := by decide +kernel
theorem dX7_skip_64 : decode cX7_skip 64 = .ok (.irem, 1) := by decide +kernel
theorem dX7_skip_65 : decode cX7_skip 65 = .ok (.iconst 1, 1) := by decide +kernel
theorem dX7_skip_66 : decode cX7_skip 66 = .ok (.iadd, 1) := by decide +kernel
theorem dX7_skip_67 : decode cX7_skip 67 = .ok (.goto 4, 3) := by decide +kernel
theorem dX7_skip_70 : decode cX7_skip 70 = .ok (.iconst 0, 1) := by decide +kernel
theorem dX7_skip_71 : decode cX7_skip 71 = .ok (.istore_n 3, 1) := by decide +kernel
theorem dX7_skip_72 : decode cX7_skip 72 = .ok (.iconst 0, 1) := by decide +kernel
theorem dX7_skip_73 : decode cX7_skip 73 = .ok (.istore 4, 2) := by decide +kernel
theorem dX7_skip_75 : decode cX7_skip 75 = .ok (.iload 4, 2) := by decide +kernel
theorem dX7_skip_77 : decode cX7_skip 77 = .ok (.iload_n 3, 1) := by decide +kernel
theorem dX7_skip_78 : decode cX7_skip 78 = .ok (.if_icmp .ge 14, 3) := by decide +kernel
theorem dX7_skip_81 : decode cX7_skip 81 = .ok (.aload_n 0, 1) := by decide +kernel
theorem dX7_skip_82 : decode cX7_skip 82 = .ok (.invokevirtual 81, 3) := by decide +kernel
theorem dX7_skip_85 : decode cX7_skip 85 = .ok (.pop, 1) := by decide +kernel
theorem dX7_skip_86 : decode cX7_skip 86 = .ok (.iinc 4 1, 3) := by decide +kernel
theorem dX7_skip_89 : decode cX7_skip 89 = .ok (.goto (-14), 3) := by decide +kernel
theorem dX7_skip_92 : decode cX7_skip 92 = .ok (.return_, 1) := by decide +kernel
theorem dX7_standingInAll_0 : decode cX7_standingInAll 0 = .ok (.iconst 0, 1) := by decide +kernel
theorem dX7_standingInAll_1 : decode cX7_standingInAll 1 = .ok (.istore_n 2, 1) := by decide +kernel
theorem dX7_standingInAll_2 : decode cX7_standingInAll 2 = .ok (.iconst 0, 1) := by decide +kernel
theorem dX7_standingInAll_3 : decode cX7_standingInAll 3 = .ok (.istore_n 3, 1) := by decide +kernel
theorem dX7_standingInAll_4 : decode cX7_standingInAll 4 = .ok (.iload_n 3, 1) := by decide +kernel
theorem dX7_standingInAll_5 : decode cX7_standingInAll 5 = .ok (.aload_n 1, 1) := by decide +kernel
theorem dX7_standingInAll_6 : decode cX7_standingInAll 6 = .ok (.getfield 109, 3) := by decide +kernel
theorem dX7_standingInAll_9 : decode cX7_standingInAll 9 = .ok (.if_icmp .ge 33, 3) := by decide +kernel
theorem dX7_standingInAll_12 : decode cX7_standingInAll 12 = .ok (.iload_n 2, 1) := by decide +kernel
theorem dX7_standingInAll_13 : decode cX7_standingInAll 13 = .ok (.aload_n 0, 1) := by decide +kernel
theorem dX7_standingInAll_14 : decode cX7_standingInAll 14 = .ok (.getfield 43, 3) := by decide +kernel
theorem dX7_standingInAll_17 : decode cX7_standingInAll 17 = .ok (.iload_n 3, 1) := by decide +kernel
theorem dX7_standingInAll_18 : decode cX7_standingInAll 18 = .ok (.invokestatic 64, 3) := by decide +kernel
theorem dX7_standingInAll_21 : decode cX7_standingInAll 21 = .ok (.ifCond .eq 7, 3) := by decide +kernel
theorem dX7_standingInAll_24 : decode cX7_standingInAll 24 = .ok (.iconst 0, 1) := by decide +kernel
theorem dX7_standingInAll_25 : decode cX7_standingInAll 25 = .ok (.goto 9, 3) := by decide +kernel
theorem dX7_standingInAll_28 : decode cX7_standingInAll 28 = .ok (.aload_n 0, 1) := by decide +kernel
theorem dX7_standingInAll_29 : decode cX7_standingInAll 29 = .ok (.getfield 37, 3) := by decide +kernel
theorem dX7_standingInAll_32 : decode cX7_standingInAll 32 = .ok (.iload_n 3, 1) := by decide +kernel
theorem dX7_standingInAll_33 : decode cX7_standingInAll 33 = .ok (.iaload, 1) := by decide +kernel
theorem dX7_standingInAll_34 : decode cX7_standingInAll 34 = .ok (.ior, 1) := by decide +kernel
theorem dX7_standingInAll_35 : decode cX7_standingInAll 35 = .ok (.istore_n 2, 1) := by decide +kernel
theorem dX7_standingInAll_36 : decode cX7_standingInAll 36 = .ok (.iinc 3 1, 3) := by decide +kernel
theorem dX7_standingInAll_39 : decode cX7_standingInAll 39 = .ok (.goto (-35), 3) := by decide +kernel
theorem dX7_standingInAll_42 : decode cX7_standingInAll 42 = .ok (.iload_n 2, 1) := by decide +kernel
theorem dX7_standingInAll_43 : decode cX7_standingInAll 43 = .ok (.ireturn, 1) := by decide +kernel
theorem dX7_eraseFirstNew_0 : decode cX7_eraseFirstNew 0 = .ok (.iconst 0, 1) := by decide +kernel
theorem dX7_eraseFirstNew_1 : decode cX7_eraseFirstNew 1 = .ok (.istore_n 3, 1) := by decide +kernel
theorem dX7_eraseFirstNew_2 : decode cX7_eraseFirstNew 2 = .ok (.iload_n 3, 1) := by decide +kernel
theorem dX7_eraseFirstNew_3 : decode cX7_eraseFirstNew 3 = .ok (.aload_n 1, 1) := by decide +kernel
theorem dX7_eraseFirstNew_4 : decode cX7_eraseFirstNew 4 = .ok (.getfield 109, 3) := by decide +kernel
theorem dX7_eraseFirstNew_7 : decode cX7_eraseFirstNew 7 = .ok (.if_icmp .ge 77, 3) := by decide +kernel
theorem dX7_eraseFirstNew_10 : decode cX7_eraseFirstNew 10 = .ok (.aload_n 0, 1) := by decide +kernel
theorem dX7_eraseFirstNew_11 : decode cX7_eraseFirstNew 11 = .ok (.getfield 43, 3) := by decide +kernel
theorem dX7_eraseFirstNew_14 : decode cX7_eraseFirstNew 14 = .ok (.iload_n 3, 1) := by decide +kernel
theorem dX7_eraseFirstNew_15 : decode cX7_eraseFirstNew 15 = .ok (.invokestatic 64, 3) := by decide +kernel
theorem dX7_eraseFirstNew_18 : decode cX7_eraseFirstNew 18 = .ok (.ifCond .eq 7, 3) := by decide +kernel
theorem dX7_eraseFirstNew_21 : decode cX7_eraseFirstNew 21 = .ok (.iconst 0, 1) := by decide +kernel
theorem dX7_eraseFirstNew_22 : decode cX7_eraseFirstNew 22 = .ok (.goto 13, 3) := by decide +kernel
theorem dX7_eraseFirstNew_25 : decode cX7_eraseFirstNew 25 = .ok (.aload_n 0, 1) := by decide +kernel
theorem dX7_eraseFirstNew_26 : decode cX7_eraseFirstNew 26 = .ok (.getfield 37, 3) := by decide +kernel
theorem dX7_eraseFirstNew_29 : decode cX7_eraseFirstNew 29 = .ok (.iload_n 3, 1) := by decide +kernel
theorem dX7_eraseFirstNew_30 : decode cX7_eraseFirstNew 30 = .ok (.iaload, 1) := by decide +kernel
theorem dX7_eraseFirstNew_31 : decode cX7_eraseFirstNew 31 = .ok (.iload_n 2, 1) := by decide +kernel
theorem dX7_eraseFirstNew_32 : decode cX7_eraseFirstNew 32 = .ok (.iconst (-1), 1) := by decide +kernel
theorem dX7_eraseFirstNew_33 : decode cX7_eraseFirstNew 33 = .ok (.ixor, 1) := by decide +kernel
theorem dX7_eraseFirstNew_34 : decode cX7_eraseFirstNew 34 = .ok (.iand, 1) := by decide +kernel
theorem dX7_eraseFirstNew_35 : decode cX7_eraseFirstNew 35 = .ok (.istore 4, 2) := by decide +kernel
theorem dX7_eraseFirstNew_37 : decode cX7_eraseFirstNew 37 = .ok (.iconst 0, 1) := by decide +kernel
theorem dX7_eraseFirstNew_38 : decode cX7_eraseFirstNew 38 = .ok (.istore 5, 2) := by decide +kernel
theorem dX7_eraseFirstNew_40 : decode cX7_eraseFirstNew 40 = .ok (.iload 5, 2) := by decide +kernel
theorem dX7_eraseFirstNew_42 : decode cX7_eraseFirstNew 42 = .ok (.aload_n 1, 1) := by decide +kernel
theorem dX7_eraseFirstNew_43 : decode cX7_eraseFirstNew 43 = .ok (.getfield 112, 3) := by decide +kernel
theorem dX7_eraseFirstNew_46 : decode cX7_eraseFirstNew 46 = .ok (.if_icmp .ge 32, 3) := by decide +kernel
theorem dX7_eraseFirstNew_49 : decode cX7_eraseFirstNew 49 = .ok (.iload 4, 2) := by decide +kernel
theorem dX7_eraseFirstNew_51 : decode cX7_eraseFirstNew 51 = .ok (.ifCond .eq 27, 3) := by decide +kernel
theorem dX7_eraseFirstNew_54 : decode cX7_eraseFirstNew 54 = .ok (.iload 4, 2) := by decide +kernel
theorem dX7_eraseFirstNew_56 : decode cX7_eraseFirstNew 56 = .ok (.iload 5, 2) := by decide +kernel
theorem dX7_eraseFirstNew_58 : decode cX7_eraseFirstNew 58 = .ok (.invokestatic 64, 3) := by decide +kernel
theorem dX7_eraseFirstNew_61 : decode cX7_eraseFirstNew 61 = .ok (.ifCond .eq 11, 3) := by decide +kernel
theorem dX7_eraseFirstNew_64 : decode cX7_eraseFirstNew 64 = .ok (.aload_n 0, 1) := by decide +kernel
theorem dX7_eraseFirstNew_65 : decode cX7_eraseFirstNew 65 = .ok (.iload_n 3, 1) := by decide +kernel
theorem dX7_eraseFirstNew_66 : decode cX7_eraseFirstNew 66 = .ok (.iload 5, 2) := by decide +kernel
theorem dX7_eraseFirstNew_68 : decode cX7_eraseFirstNew 68 = .ok (.invokevirtual 115, 3) := by decide +kernel
theorem dX7_eraseFirstNew_71 : decode cX7_eraseFirstNew 71 = .ok (.return_, 1) := by decide +kernel
theorem dX7_eraseFirstNew_72 : decode cX7_eraseFirstNew 72 = .ok (.iinc 5 1, 3) := by decide +kernel
theorem dX7_eraseFirstNew_75 : decode cX7_eraseFirstNew 75 = .ok (.goto (-35), 3) := by decide +kernel
theorem dX7_eraseFirstNew_78 : decode cX7_eraseFirstNew 78 = .ok (.iinc 3 1, 3) := by decide +kernel
theorem dX7_eraseFirstNew_81 : decode cX7_eraseFirstNew 81 = .ok (.goto (-79), 3) := by decide +kernel
theorem dX7_eraseFirstNew_84 : decode cX7_eraseFirstNew 84 = .ok (.return_, 1) := by decide +kernel
theorem dX7_eraseSecret_0 : decode cX7_eraseSecret 0 = .ok (.iload_n 1, 1) := by decide +kernel
theorem dX7_eraseSecret_1 : decode cX7_eraseSecret 1 = .ok (.bipush 6, 2) := by decide +kernel
theorem dX7_eraseSecret_3 : decode cX7_eraseSecret 3 = .ok (.imul, 1) := by decide +kernel
theorem dX7_eraseSecret_4 : decode cX7_eraseSecret 4 = .ok (.iload_n 2, 1) := by decide +kernel
theorem dX7_eraseSecret_5 : decode cX7_eraseSecret 5 = .ok (.iadd, 1) := by decide +kernel
theorem dX7_eraseSecret_6 : decode cX7_eraseSecret 6 = .ok (.istore_n 3, 1) := by decide +kernel
theorem dX7_eraseSecret_7 : decode cX7_eraseSecret 7 = .ok (.aload_n 0, 1) := by decide +kernel
theorem dX7_eraseSecret_8 : decode cX7_eraseSecret 8 = .ok (.getfield 34, 3) := by decide +kernel
theorem dX7_eraseSecret_11 : decode cX7_eraseSecret 11 = .ok (.iload_n 1, 1) := by decide +kernel
theorem dX7_eraseSecret_12 : decode cX7_eraseSecret 12 = .ok (.dup2, 1) := by decide +kernel
theorem dX7_eraseSecret_13 : decode cX7_eraseSecret 13 = .ok (.iaload, 1) := by decide +kernel
theorem dX7_eraseSecret_14 : decode cX7_eraseSecret 14 = .ok (.aload_n 0, 1) := by decide +kernel
theorem dX7_eraseSecret_15 : decode cX7_eraseSecret 15 = .ok (.getfield 31, 3) := by decide +kernel
theorem dX7_eraseSecret_18 : decode cX7_eraseSecret 18 = .ok (.iload_n 3, 1) := by decide +kernel
theorem dX7_eraseSecret_19 : decode cX7_eraseSecret 19 = .ok (.iaload, 1) := by decide +kernel
theorem dX7_eraseSecret_20 : decode cX7_eraseSecret 20 = .ok (.isub, 1) := by decide +kernel
theorem dX7_eraseSecret_21 : decode cX7_eraseSecret 21 = .ok (.iastore, 1) := by decide +kernel
theorem dX7_eraseSecret_22 : decode cX7_eraseSecret 22 = .ok (.aload_n 0, 1) := by decide +kernel
theorem dX7_eraseSecret_23 : decode cX7_eraseSecret 23 = .ok (.getfield 31, 3) := by decide +kernel
theorem dX7_eraseSecret_26 : decode cX7_eraseSecret 26 = .ok (.iload_n 3, 1) := by decide +kernel
theorem dX7_eraseSecret_27 : decode cX7_eraseSecret 27 = .ok (.iconst 0, 1) := by decide +kernel
theorem dX7_eraseSecret_28 : decode cX7_eraseSecret 28 = .ok (.iastore, 1) := by decide +kernel
theorem dX7_eraseSecret_29 : decode cX7_eraseSecret 29 = .ok (.aload_n 0, 1) := by decide +kernel
theorem dX7_eraseSecret_30 : decode cX7_eraseSecret 30 = .ok (.getfield 37, 3) := by decide +kernel
theorem dX7_eraseSecret_33 : decode cX7_eraseSecret 33 = .ok (.iload_n 1, 1) := by decide +kernel
theorem dX7_eraseSecret_34 : decode cX7_eraseSecret 34 = .ok (.dup2, 1) := by decide +kernel
theorem dX7_eraseSecret_35 : decode cX7_eraseSecret 35 = .ok (.iaload, 1) := by decide +kernel
theorem dX7_eraseSecret_36 : decode cX7_eraseSecret 36 = .ok (.iconst 1, 1) := by decide +kernel
theorem dX7_eraseSecret_37 : decode cX7_eraseSecret 37 = .ok (.iload_n 2, 1) := by decide +kernel
theorem dX7_eraseSecret_38 : decode cX7_eraseSecret 38 = .ok (.ishl, 1) := by decide +kernel
theorem dX7_eraseSecret_39 : decode cX7_eraseSecret 39 = .ok (.iconst (-1), 1) := by decide +kernel
theorem dX7_eraseSecret_40 : decode cX7_eraseSecret 40 = .ok (.ixor, 1) := by decide +kernel
theorem dX7_eraseSecret_41 : decode cX7_eraseSecret 41 = .ok (.iand, 1) := by decide +kernel
theorem dX7_eraseSecret_42 : decode cX7_eraseSecret 42 = .ok (.iastore, 1) := by decide +kernel
theorem dX7_eraseSecret_43 : decode cX7_eraseSecret 43 = .ok (.return_, 1) := by decide +kernel
theorem dX7_makePricks_0 : decode cX7_makePricks 0 = .ok (.aload_n 1, 1) := by decide +kernel
theorem dX7_makePricks_1 : decode cX7_makePricks 1 = .ok (.getfield 119, 3) := by decide +kernel
theorem dX7_makePricks_4 : decode cX7_makePricks 4 = .ok (.iload_n 2, 1) := by decide +kernel
theorem dX7_makePricks_5 : decode cX7_makePricks 5 = .ok (.iaload, 1) := by decide +kernel
theorem dX7_makePricks_6 : decode cX7_makePricks 6 = .ok (.istore_n 3, 1) := by decide +kernel
theorem dX7_makePricks_7 : decode cX7_makePricks 7 = .ok (.aload_n 0, 1) := by decide +kernel
theorem dX7_makePricks_8 : decode cX7_makePricks 8 = .ok (.getfield 22, 3) := by decide +kernel
theorem dX7_makePricks_11 : decode cX7_makePricks 11 = .ok (.iload_n 2, 1) := by decide +kernel
theorem dX7_makePricks_12 : decode cX7_makePricks 12 = .ok (.iaload, 1) := by decide +kernel
theorem dX7_makePricks_13 : decode cX7_makePricks 13 = .ok (.aload_n 0, 1) := by decide +kernel
theorem dX7_makePricks_14 : decode cX7_makePricks 14 = .ok (.aload_n 1, 1) := by decide +kernel
theorem dX7_makePricks_15 : decode cX7_makePricks 15 = .ok (.invokevirtual 87, 3) := by decide +kernel
theorem dX7_makePricks_18 : decode cX7_makePricks 18 = .ok (.iconst (-1), 1) := by decide +kernel
theorem dX7_makePricks_19 : decode cX7_makePricks 19 = .ok (.ixor, 1) := by decide +kernel
theorem dX7_makePricks_20 : decode cX7_makePricks 20 = .ok (.iand, 1) := by decide +kernel
theorem dX7_makePricks_21 : decode cX7_makePricks 21 = .ok (.istore 4, 2) := by decide +kernel
theorem dX7_makePricks_23 : decode cX7_makePricks 23 = .ok (.iconst 0, 1) := by decide +kernel
theorem dX7_makePricks_24 : decode cX7_makePricks 24 = .ok (.istore 5, 2) := by decide +kernel
theorem dX7_makePricks_26 : decode cX7_makePricks 26 = .ok (.iload 5, 2) := by decide +kernel
theorem dX7_makePricks_28 : decode cX7_makePricks 28 = .ok (.aload_n 1, 1) := by decide +kernel
theorem dX7_makePricks_29 : decode cX7_makePricks 29 = .ok (.getfield 112, 3) := by decide +kernel
theorem dX7_makePricks_32 : decode cX7_makePricks 32 = .ok (.if_icmp .ge 55, 3) := by decide +kernel
theorem dX7_makePricks_35 : decode cX7_makePricks 35 = .ok (.iload_n 3, 1) := by decide +kernel
theorem dX7_makePricks_36 : decode cX7_makePricks 36 = .ok (.ifCond .le 51, 3) := by decide +kernel
theorem dX7_makePricks_39 : decode cX7_makePricks 39 = .ok (.iload 4, 2) := by decide +kernel
theorem dX7_makePricks_41 : decode cX7_makePricks 41 = .ok (.iload 5, 2) := by decide +kernel
theorem dX7_makePricks_43 : decode cX7_makePricks 43 = .ok (.invokestatic 64, 3) := by decide +kernel
theorem dX7_makePricks_46 : decode cX7_makePricks 46 = .ok (.ifCond .eq 13, 3) := by decide +kernel
theorem dX7_makePricks_49 : decode cX7_makePricks 49 = .ok (.aload_n 0, 1) := by decide +kernel
theorem dX7_makePricks_50 : decode cX7_makePricks 50 = .ok (.aload_n 1, 1) := by decide +kernel
theorem dX7_makePricks_51 : decode cX7_makePricks 51 = .ok (.iload 5, 2) := by decide +kernel
theorem dX7_makePricks_53 : decode cX7_makePricks 53 = .ok (.invokevirtual 122, 3) := by decide +kernel
theorem dX7_makePricks_56 : decode cX7_makePricks 56 = .ok (.goto 4, 3) := by decide +kernel
theorem dX7_makePricks_59 : decode cX7_makePricks 59 = .ok (.iconst (-1), 1) := by decide +kernel
theorem dX7_makePricks_60 : decode cX7_makePricks 60 = .ok (.istore 6, 2) := by decide +kernel
theorem dX7_makePricks_62 : decode cX7_makePricks 62 = .ok (.iload 6, 2) := by decide +kernel
theorem dX7_makePricks_64 : decode cX7_makePricks 64 = .ok (.iconst (-1), 1) := by decide +kernel
theorem dX7_makePricks_65 : decode cX7_makePricks 65 = .ok (.if_icmp .eq 16, 3) := by decide +kernel
theorem dX7_makePricks_68 : decode cX7_makePricks 68 = .ok (.iload_n 3, 1) := by decide +kernel
theorem dX7_makePricks_69 : decode cX7_makePricks 69 = .ok (.aload_n 0, 1) := by decide +kernel
theorem dX7_makePricks_70 : decode cX7_makePricks 70 = .ok (.aload_n 1, 1) := by decide +kernel
theorem dX7_makePricks_71 : decode cX7_makePricks 71 = .ok (.iload 6, 2) := by decide +kernel
theorem dX7_makePricks_73 : decode cX7_makePricks 73 = .ok (.iload 5, 2) := by decide +kernel
theorem dX7_makePricks_75 : decode cX7_makePricks 75 = .ok (.iload_n 3, 1) := by decide +kernel
theorem dX7_makePricks_76 : decode cX7_makePricks 76 = .ok (.invokevirtual 126, 3) := by decide +kernel
theorem dX7_makePricks_79 : decode cX7_makePricks 79 = .ok (.isub, 1) := by decide +kernel
theorem dX7_makePricks_80 : decode cX7_makePricks 80 = .ok (.istore_n 3, 1) := by decide +kernel
theorem dX7_makePricks_81 : decode cX7_makePricks 81 = .ok (.iinc 5 1, 3) := by decide +kernel
theorem dX7_makePricks_84 : decode cX7_makePricks 84 = .ok (.goto (-58), 3) := by decide +kernel
theorem dX7_makePricks_87 : decode cX7_makePricks 87 = .ok (.aload_n 0, 1) := by decide +kernel
theorem dX7_makePricks_88 : decode cX7_makePricks 88 = .ok (.getfield 25, 3) := by decide +kernel
theorem dX7_makePricks_91 : decode cX7_makePricks 91 = .ok (.iload_n 2, 1) := by decide +kernel
theorem dX7_makePricks_92 : decode cX7_makePricks 92 = .ok (.dup2, 1) := by decide +kernel
theorem dX7_makePricks_93 : decode cX7_makePricks 93 = .ok (.iaload, 1) := by decide +kernel
theorem dX7_makePricks_94 : decode cX7_makePricks 94 = .ok (.aload_n 1, 1) := by decide +kernel
theorem dX7_makePricks_95 : decode cX7_makePricks 95 = .ok (.getfield 119, 3) := by decide +kernel
theorem dX7_makePricks_98 : decode cX7_makePricks 98 = .ok (.iload_n 2, 1) := by decide +kernel
theorem dX7_makePricks_99 : decode cX7_makePricks 99 = .ok (.iaload, 1) := by decide +kernel
theorem dX7_makePricks_100 : decode cX7_makePricks 100 = .ok (.iload_n 3, 1) := by decide +kernel
theorem dX7_makePricks_101 : decode cX7_makePricks 101 = .ok (.isub, 1) := by decide +kernel
theorem dX7_makePricks_102 : decode cX7_makePricks 102 = .ok (.iadd, 1) := by decide +kernel
theorem dX7_makePricks_103 : decode cX7_makePricks 103 = .ok (.iastore, 1) := by decide +kernel
theorem dX7_makePricks_104 : decode cX7_makePricks 104 = .ok (.aload_n 0, 1) := by decide +kernel
theorem dX7_makePricks_105 : decode cX7_makePricks 105 = .ok (.dup, 1) := by decide +kernel
theorem dX7_makePricks_106 : decode cX7_makePricks 106 = .ok (.getfield 49, 3) := by decide +kernel
theorem dX7_makePricks_109 : decode cX7_makePricks 109 = .ok (.aload_n 1, 1) := by decide +kernel
theorem dX7_makePricks_110 : decode cX7_makePricks 110 = .ok (.getfield 119, 3) := by decide +kernel
theorem dX7_makePricks_113 : decode cX7_makePricks 113 = .ok (.iload_n 2, 1) := by decide +kernel
theorem dX7_makePricks_114 : decode cX7_makePricks 114 = .ok (.iaload, 1) := by decide +kernel
theorem dX7_makePricks_115 : decode cX7_makePricks 115 = .ok (.iload_n 3, 1) := by decide +kernel
theorem dX7_makePricks_116 : decode cX7_makePricks 116 = .ok (.isub, 1) := by decide +kernel
theorem dX7_makePricks_117 : decode cX7_makePricks 117 = .ok (.iadd, 1) := by decide +kernel
theorem dX7_makePricks_118 : decode cX7_makePricks 118 = .ok (.putfield 49, 3) := by decide +kernel
theorem dX7_makePricks_121 : decode cX7_makePricks 121 = .ok (.return_, 1) := by decide +kernel
theorem dX7_pageFor_0 : decode cX7_pageFor 0 = .ok (.iconst (-1), 1) := by decide +kernel
theorem dX7_pageFor_1 : decode cX7_pageFor 1 = .ok (.istore_n 3, 1) := by decide +kernel
theorem dX7_pageFor_2 : decode cX7_pageFor 2 = .ok (.iconst (-1), 1) := by decide +kernel
theorem dX7_pageFor_3 : decode cX7_pageFor 3 = .ok (.istore 4, 2) := by decide +kernel
theorem dX7_pageFor_5 : decode cX7_pageFor 5 = .ok (.iconst 0, 1) := by decide +kernel
theorem dX7_pageFor_6 : decode cX7_pageFor 6 = .ok (.istore 5, 2) := by decide +kernel
theorem dX7_pageFor_8 : decode cX7_pageFor 8 = .ok (.iload 5, 2) := by decide +kernel
theorem dX7_pageFor_10 : decode cX7_pageFor 10 = .ok (.aload_n 1, 1) := by decide +kernel
theorem dX7_pageFor_11 : decode cX7_pageFor 11 = .ok (.getfield 109, 3) := by decide +kernel
theorem dX7_pageFor_14 : decode cX7_pageFor 14 = .ok (.if_icmp .ge 66, 3) := by decide +kernel
theorem dX7_pageFor_17 : decode cX7_pageFor 17 = .ok (.aload_n 0, 1) := by decide +kernel
theorem dX7_pageFor_18 : decode cX7_pageFor 18 = .ok (.getfield 31, 3) := by decide +kernel
theorem dX7_pageFor_21 : decode cX7_pageFor 21 = .ok (.iload 5, 2) := by decide +kernel
theorem dX7_pageFor_23 : decode cX7_pageFor 23 = .ok (.bipush 6, 2) := by decide +kernel
theorem dX7_pageFor_25 : decode cX7_pageFor 25 = .ok (.imul, 1) := by decide +kernel
theorem dX7_pageFor_26 : decode cX7_pageFor 26 = .ok (.iload_n 2, 1) := by decide +kernel
theorem dX7_pageFor_27 : decode cX7_pageFor 27 = .ok (.iadd, 1) := by decide +kernel
theorem dX7_pageFor_28 : decode cX7_pageFor 28 = .ok (.iaload, 1) := by decide +kernel
theorem dX7_pageFor_29 : decode cX7_pageFor 29 = .ok (.istore 6, 2) := by decide +kernel
theorem dX7_pageFor_31 : decode cX7_pageFor 31 = .ok (.aload_n 0, 1) := by decide +kernel
theorem dX7_pageFor_32 : decode cX7_pageFor 32 = .ok (.getfield 43, 3) := by decide +kernel
theorem dX7_pageFor_35 : decode cX7_pageFor 35 = .ok (.iload 5, 2) := by decide +kernel
theorem dX7_pageFor_37 : decode cX7_pageFor 37 = .ok (.invokestatic 64, 3) := by decide +kernel
theorem dX7_pageFor_40 : decode cX7_pageFor 40 = .ok (.ifCond .ne 34, 3) := by decide +kernel
theorem dX7_pageFor_43 : decode cX7_pageFor 43 = .ok (.aload_n 0, 1) := by decide +kernel
theorem dX7_pageFor_44 : decode cX7_pageFor 44 = .ok (.getfield 34, 3) := by decide +kernel
theorem dX7_pageFor_47 : decode cX7_pageFor 47 = .ok (.iload 5, 2) := by decide +kernel
theorem dX7_pageFor_49 : decode cX7_pageFor 49 = .ok (.iaload, 1) := by decide +kernel
theorem dX7_pageFor_50 : decode cX7_pageFor 50 = .ok (.aload_n 1, 1) := by decide +kernel
theorem dX7_pageFor_51 : decode cX7_pageFor 51 = .ok (.getfield 68, 3) := by decide +kernel
theorem dX7_pageFor_54 : decode cX7_pageFor 54 = .ok (.iload 5, 2) := by decide +kernel
theorem dX7_pageFor_56 : decode cX7_pageFor 56 = .ok (.iaload, 1) := by decide +kernel
theorem dX7_pageFor_57 : decode cX7_pageFor 57 = .ok (.if_icmp .ge 17, 3) := by decide +kernel
theorem dX7_pageFor_60 : decode cX7_pageFor 60 = .ok (.iload 6, 2) := by decide +kernel
theorem dX7_pageFor_62 : decode cX7_pageFor 62 = .ok (.iload 4, 2) := by decide +kernel
theorem dX7_pageFor_64 : decode cX7_pageFor 64 = .ok (.if_icmp .le 10, 3) := by decide +kernel
theorem dX7_pageFor_67 : decode cX7_pageFor 67 = .ok (.iload 6, 2) := by decide +kernel
theorem dX7_pageFor_69 : decode cX7_pageFor 69 = .ok (.istore 4, 2) := by decide +kernel
theorem dX7_pageFor_71 : decode cX7_pageFor 71 = .ok (.iload 5, 2) := by decide +kernel
theorem dX7_pageFor_73 : decode cX7_pageFor 73 = .ok (.istore_n 3, 1) := by decide +kernel
theorem dX7_pageFor_74 : decode cX7_pageFor 74 = .ok (.iinc 5 1, 3) := by decide +kernel
theorem dX7_pageFor_77 : decode cX7_pageFor 77 = .ok (.goto (-69), 3) := by decide +kernel
theorem dX7_pageFor_80 : decode cX7_pageFor 80 = .ok (.iload_n 3, 1) := by decide +kernel
theorem dX7_pageFor_81 : decode cX7_pageFor 81 = .ok (.ireturn, 1) := by decide +kernel
theorem dX7_makeOn_0 : decode cX7_makeOn 0 = .ok (.iload_n 2, 1) := by decide +kernel
theorem dX7_makeOn_1 : decode cX7_makeOn 1 = .ok (.bipush 6, 2) := by decide +kernel
theorem dX7_makeOn_3 : decode cX7_makeOn 3 = .ok (.imul, 1) := by decide +kernel
theorem dX7_makeOn_4 : decode cX7_makeOn 4 = .ok (.iload_n 3, 1) := by decide +kernel
theorem dX7_makeOn_5 : decode cX7_makeOn 5 = .ok (.iadd, 1) := by decide +kernel
theorem dX7_makeOn_6 : decode cX7_makeOn 6 = .ok (.istore 5, 2) := by decide +kernel
theorem dX7_makeOn_8 : decode cX7_makeOn 8 = .ok (.aload_n 1, 1) := by decide +kernel
theorem dX7_makeOn_9 : decode cX7_makeOn 9 = .ok (.getfield 130, 3) := by decide +kernel
theorem dX7_makeOn_12 : decode cX7_makeOn 12 = .ok (.iload_n 3, 1) := by decide +kernel
theorem dX7_makeOn_13 : decode cX7_makeOn 13 = .ok (.iaload, 1) := by decide +kernel
theorem dX7_makeOn_14 : decode cX7_makeOn 14 = .ok (.aload_n 0, 1) := by decide +kernel
theorem dX7_makeOn_15 : decode cX7_makeOn 15 = .ok (.getfield 31, 3) := by decide +kernel
theorem dX7_makeOn_18 : decode cX7_makeOn 18 = .ok (.iload 5, 2) := by decide +kernel
theorem dX7_makeOn_20 : decode cX7_makeOn 20 = .ok (.iaload, 1) := by decide +kernel
theorem dX7_makeOn_21 : decode cX7_makeOn 21 = .ok (.isub, 1) := by decide +kernel
theorem dX7_makeOn_22 : decode cX7_makeOn 22 = .ok (.istore 6, 2) := by decide +kernel
theorem dX7_makeOn_24 : decode cX7_makeOn 24 = .ok (.iload 4, 2) := by decide +kernel
theorem dX7_makeOn_26 : decode cX7_makeOn 26 = .ok (.iload 6, 2) := by decide +kernel
theorem dX7_makeOn_28 : decode cX7_makeOn 28 = .ok (.aload_n 0, 1) := by decide +kernel
theorem dX7_makeOn_29 : decode cX7_makeOn 29 = .ok (.aload_n 1, 1) := by decide +kernel
theorem dX7_makeOn_30 : decode cX7_makeOn 30 = .ok (.iload_n 2, 1) := by decide +kernel
theorem dX7_makeOn_31 : decode cX7_makeOn 31 = .ok (.invokevirtual 133, 3) := by decide +kernel
theorem dX7_makeOn_34 : decode cX7_makeOn 34 = .ok (.invokestatic 136, 3) := by decide +kernel
theorem dX7_makeOn_37 : decode cX7_makeOn 37 = .ok (.invokestatic 136, 3) := by decide +kernel
theorem dX7_makeOn_40 : decode cX7_makeOn 40 = .ok (.istore 7, 2) := by decide +kernel
theorem dX7_makeOn_42 : decode cX7_makeOn 42 = .ok (.aload_n 0, 1) := by decide +kernel
theorem dX7_makeOn_43 : decode cX7_makeOn 43 = .ok (.getfield 31, 3) := by decide +kernel
theorem dX7_makeOn_46 : decode cX7_makeOn 46 = .ok (.iload 5, 2) := by decide +kernel
theorem dX7_makeOn_48 : decode cX7_makeOn 48 = .ok (.dup2, 1) := by decide +kernel
theorem dX7_makeOn_49 : decode cX7_makeOn 49 = .ok (.iaload, 1) := by decide +kernel
theorem dX7_makeOn_50 : decode cX7_makeOn 50 = .ok (.iload 7, 2) := by decide +kernel
theorem dX7_makeOn_52 : decode cX7_makeOn 52 = .ok (.iadd, 1) := by decide +kernel
theorem dX7_makeOn_53 : decode cX7_makeOn 53 = .ok (.iastore, 1) := by decide +kernel
theorem dX7_makeOn_54 : decode cX7_makeOn 54 = .ok (.aload_n 0, 1) := by decide +kernel
theorem dX7_makeOn_55 : decode cX7_makeOn 55 = .ok (.getfield 34, 3) := by decide +kernel
theorem dX7_makeOn_58 : decode cX7_makeOn 58 = .ok (.iload_n 2, 1) := by decide +kernel
theorem dX7_makeOn_59 : decode cX7_makeOn 59 = .ok (.dup2, 1) := by decide +kernel
theorem dX7_makeOn_60 : decode cX7_makeOn 60 = .ok (.iaload, 1) := by decide +kernel
theorem dX7_makeOn_61 : decode cX7_makeOn 61 = .ok (.iload 7, 2) := by decide +kernel
theorem dX7_makeOn_63 : decode cX7_makeOn 63 = .ok (.iadd, 1) := by decide +kernel
theorem dX7_makeOn_64 : decode cX7_makeOn 64 = .ok (.iastore, 1) := by decide +kernel
theorem dX7_makeOn_65 : decode cX7_makeOn 65 = .ok (.iload 7, 2) := by decide +kernel
theorem dX7_makeOn_67 : decode cX7_makeOn 67 = .ok (.iload 6, 2) := by decide +kernel
theorem dX7_makeOn_69 : decode cX7_makeOn 69 = .ok (.if_icmp .ne 15, 3) := by decide +kernel
theorem dX7_makeOn_72 : decode cX7_makeOn 72 = .ok (.aload_n 0, 1) := by decide +kernel
theorem dX7_makeOn_73 : decode cX7_makeOn 73 = .ok (.getfield 37, 3) := by decide +kernel
theorem dX7_makeOn_76 : decode cX7_makeOn 76 = .ok (.iload_n 2, 1) := by decide +kernel
theorem dX7_makeOn_77 : decode cX7_makeOn 77 = .ok (.dup2, 1) := by decide +kernel
theorem dX7_makeOn_78 : decode cX7_makeOn 78 = .ok (.iaload, 1) := by decide +kernel
theorem dX7_makeOn_79 : decode cX7_makeOn 79 = .ok (.iconst 1, 1) := by decide +kernel
theorem dX7_makeOn_80 : decode cX7_makeOn 80 = .ok (.iload_n 3, 1) := by decide +kernel
theorem dX7_makeOn_81 : decode cX7_makeOn 81 = .ok (.ishl, 1) := by decide +kernel
theorem dX7_makeOn_82 : decode cX7_makeOn 82 = .ok (.ior, 1) := by decide +kernel
theorem dX7_makeOn_83 : decode cX7_makeOn 83 = .ok (.iastore, 1) := by decide +kernel
theorem dX7_makeOn_84 : decode cX7_makeOn 84 = .ok (.iload 7, 2) := by decide +kernel
theorem dX7_makeOn_86 : decode cX7_makeOn 86 = .ok (.ireturn, 1) := by decide +kernel
theorem dX8_init_0 : decode cX8_init 0 = .ok (.aload_n 0, 1) := by decide +kernel
theorem dX8_init_1 : decode cX8_init 1 = .ok (.invokespecial 3, 3) := by decide +kernel
theorem dX8_init_4 : decode cX8_init 4 = .ok (.aload_n 0, 1) := by decide +kernel
theorem dX8_init_5 : decode cX8_init 5 = .ok (.sipush 900, 3) := by decide +kernel
theorem dX8_init_8 : decode cX8_init 8 = .ok (.newarray .byte, 2) := by decide +kernel
theorem dX8_init_10 : decode cX8_init 10 = .ok (.putfield 9, 3) := by decide +kernel
theorem dX8_init_13 : decode cX8_init 13 = .ok (.aload_n 0, 1) := by decide +kernel
theorem dX8_init_14 : decode cX8_init 14 = .ok (.iconst 0, 1) := by decide +kernel
theorem dX8_init_15 : decode cX8_init 15 = .ok (.putfield 15, 3) := by decide +kernel
theorem dX8_init_18 : decode cX8_init 18 = .ok (.aload_n 0, 1) := by decide +kernel
theorem dX8_init_19 : decode cX8_init 19 = .ok (.iconst 0, 1) := by decide +kernel
theorem dX8_init_20 : decode cX8_init 20 = .ok (.putfield 19, 3) := by decide +kernel
theorem dX8_init_23 : decode cX8_init 23 = .ok (.aload_n 0, 1) := by decide +kernel
theorem dX8_init_24 : decode cX8_init 24 = .ok (.iconst 0, 1) := by decide +kernel
theorem dX8_init_25 : decode cX8_init 25 = .ok (.putfield 22, 3) := by decide +kernel
theorem dX8_init_28 : decode cX8_init 28 = .ok (.aload_n 0, 1) := by decide +kernel
theorem dX8_init_29 : decode cX8_init 29 = .ok (.iconst 0, 1) := by decide +kernel
theorem dX8_init_30 : decode cX8_init 30 = .ok (.putfield 25, 3) := by decide +kernel
theorem dX8_init_33 : decode cX8_init 33 = .ok (.aload_n 0, 1) := by decide +kernel
theorem dX8_init_34 : decode cX8_init 34 = .ok (.iconst 0, 1) := by decide +kernel
theorem dX8_init_35 : decode cX8_init 35 = .ok (.putfield 28, 3) := by decide +kernel
theorem dX8_init_38 : decode cX8_init 38 = .ok (.aload_n 0, 1) := by decide +kernel
theorem dX8_init_39 : decode cX8_init 39 = .ok (.ldc2_w 31, 3) := by decide +kernel
theorem dX8_init_42 : decode cX8_init 42 = .ok (.putfield 33, 3) := by decide +kernel
theorem dX8_init_45 : decode cX8_init 45 = .ok (.aload_n 0, 1) := by decide +kernel
theorem dX8_init_46 : decode cX8_init 46 = .ok (.iconst (-1), 1) := by decide +kernel
theorem dX8_init_47 : decode cX8_init 47 = .ok (.putfield 37, 3) := by decide +kernel
theorem dX8_init_50 : decode cX8_init 50 = .ok (.aload_n 0, 1) := by decide +kernel
theorem dX8_init_51 : decode cX8_init 51 = .ok (.iconst 0, 1) := by decide +kernel
theorem dX8_init_52 : decode cX8_init 52 = .ok (.putfield 40, 3) := by decide +kernel
theorem dX8_init_55 : decode cX8_init 55 = .ok (.aload_n 0, 1) := by decide +kernel
theorem dX8_init_56 : decode cX8_init 56 = .ok (.iconst (-1), 1) := by decide +kernel
theorem dX8_init_57 : decode cX8_init 57 = .ok (.putfield 43, 3) := by decide +kernel
theorem dX8_init_60 : decode cX8_init 60 = .ok (.aload_n 0, 1) := by decide +kernel
theorem dX8_init_61 : decode cX8_init 61 = .ok (.iconst (-1), 1) := by decide +kernel
theorem dX8_init_62 : decode cX8_init 62 = .ok (.putfield 46, 3) := by decide +kernel
theorem dX8_init_65 : decode cX8_init 65 = .ok (.aload_n 0, 1) := by decide +kernel
theorem dX8_init_66 : decode cX8_init 66 = .ok (.bipush 24, 2) := by decide +kernel
theorem dX8_init_68 : decode cX8_init 68 = .ok (.newarray .long, 2) := by decide +kernel
theorem dX8_init_70 : decode cX8_init 70 = .ok (.putfield 49, 3) := by decide +kernel
theorem dX8_init_73 : decode cX8_init 73 = .ok (.iconst 0, 1) := by decide +kernel
theorem dX8_init_74 : decode cX8_init 74 = .ok (.istore_n 1, 1) := by decide +kernel
theorem dX8_init_75 : decode cX8_init 75 = .ok (.lconst 0, 1) := by decide +kernel
theorem dX8_init_76 : decode cX8_init 76 = .ok (.lstore_n 2, 1) := by decide +kernel
theorem dX8_init_77 : decode cX8_init 77 = .ok (.iconst 0, 1) := by decide +kernel
theorem dX8_init_78 : decode cX8_init 78 = .ok (.istore 4, 2) := by decide +kernel
theorem dX8_init_80 : decode cX8_init 80 = .ok (.iload 4, 2) := by decide +kernel
theorem dX8_init_82 : decode cX8_init 82 = .ok (.ldc 53, 2) := by decide +kernel
theorem dX8_init_84 : decode cX8_init 84 = .ok (.invokevirtual 55, 3) := by decide +kernel
theorem dX8_init_87 : decode cX8_init 87 = .ok (.if_icmp .ge 53, 3) := by decide +kernel
theorem dX8_init_90 : decode cX8_init 90 = .ok (.iload_n 1, 1) := by decide +kernel
theorem dX8_init_91 : decode cX8_init 91 = .ok (.bipush 24, 2) := by decide +kernel
theorem dX8_init_93 : decode cX8_init 93 = .ok (.if_icmp .ge 47, 3) := by decide +kernel
theorem dX8_init_96 : decode cX8_init 96 = .ok (.ldc 53, 2) := by decide +kernel
theorem dX8_init_98 : decode cX8_init 98 = .ok (.iload 4, 2) := by decide +kernel
theorem dX8_init_100 : decode cX8_init 100 = .ok (.invokevirtual 61, 3) := by decide +kernel
theorem dX8_init_103 : decode cX8_init 103 = .ok (.istore 5, 2) := by decide +kernel
theorem dX8_init_105 : decode cX8_init 105 = .ok (.iload 5, 2) := by decide +kernel
theorem dX8_init_107 : decode cX8_init 107 = .ok (.bipush 32, 2) := by decide +kernel
theorem dX8_init_109 : decode cX8_init 109 = .ok (.if_icmp .ne 18, 3) := by decide +kernel
theorem dX8_init_112 : decode cX8_init 112 = .ok (.aload_n 0, 1) := by decide +kernel
theorem dX8_init_113 : decode cX8_init 113 = .ok (.getfield 49, 3) := by decide +kernel
theorem dX8_init_116 : decode cX8_init 116 = .ok (.iload_n 1, 1) := by decide +kernel
theorem dX8_init_117 : decode cX8_init 117 = .ok (.lload_n 2, 1) := by decide +kernel
theorem dX8_init_118 : decode cX8_init 118 = .ok (.lastore, 1) := by decide +kernel
theorem dX8_init_119 : decode cX8_init 119 = .ok (.lconst 0, 1) := by decide +kernel
theorem dX8_init_120 : decode cX8_init 120 = .ok (.lstore_n 2, 1) := by decide +kernel
theorem dX8_init_121 : decode cX8_init 121 = .ok (.iinc 1 1, 3) := by decide +kernel
theorem dX8_init_124 : decode cX8_init 124 = .ok (.goto 10, 3) := by decide +kernel
theorem dX8_init_127 : decode cX8_init 127 = .ok (.lload_n 2, 1) := by decide +kernel
theorem dX8_init_128 : decode cX8_init 128 = .ok (.iload 5, 2) := by decide +kernel
theorem dX8_init_130 : decode cX8_init 130 = .ok (.invokestatic 65, 3) := by decide +kernel
theorem dX8_init_133 : decode cX8_init 133 = .ok (.lstore_n 2, 1) := by decide +kernel
theorem dX8_init_134 : decode cX8_init 134 = .ok (.iinc 4 1, 3) := by decide +kernel
theorem dX8_init_137 : decode cX8_init 137 = .ok (.goto (-57), 3) := by decide +kernel
theorem dX8_init_140 : decode cX8_init 140 = .ok (.return_, 1) := by decide +kernel
theorem dX8_withLetter_0 : decode cX8_withLetter 0 = .ok (.lload_n 0, 1) := by decide +kernel
theorem dX8_withLetter_1 : decode cX8_withLetter 1 = .ok (.ldc2_w 69, 3) := by decide +kernel
theorem dX8_withLetter_4 : decode cX8_withLetter 4 = .ok (.lmul, 1) := by decide +kernel
theorem dX8_withLetter_5 : decode cX8_withLetter 5 = .ok (.iload_n 2, 1) := by decide +kernel
theorem dX8_withLetter_6 : decode cX8_withLetter 6 = .ok (.bipush 97, 2) := by decide +kernel
theorem dX8_withLetter_8 : decode cX8_withLetter 8 = .ok (.isub, 1) := by decide +kernel
theorem dX8_withLetter_9 : decode cX8_withLetter 9 = .ok (.iconst 1, 1) := by decide +kernel
theorem dX8_withLetter_10 : decode cX8_withLetter 10 = .ok (.iadd, 1) := by decide +kernel
theorem dX8_withLetter_11 : decode cX8_withLetter 11 = .ok (.i2l, 1) := by decide +kernel
theorem dX8_withLetter_12 : decode cX8_withLetter 12 = .ok (.ladd, 1) := by decide +kernel
theorem dX8_withLetter_13 : decode cX8_withLetter 13 = .ok (.lreturn, 1) := by decide +kernel
theorem dX8_hasRoomFor_0 : decode cX8_hasRoomFor 0 = .ok (.aload_n 0, 1) := by decide +kernel
theorem dX8_hasRoomFor_1 : decode cX8_hasRoomFor 1 = .ok (.getfield 15, 3) := by decide +kernel
theorem dX8_hasRoomFor_4 : decode cX8_hasRoomFor 4 = .ok (.iload_n 1, 1) := by decide +kernel
theorem dX8_hasRoomFor_5 : decode cX8_hasRoomFor 5 = .ok (.iadd, 1) := by decide +kernel
theorem dX8_hasRoomFor_6 : decode cX8_hasRoomFor 6 = .ok (.sipush 900, 3) := by decide +kernel
theorem dX8_hasRoomFor_9 : decode cX8_hasRoomFor 9 = .ok (.if_icmp .gt 7, 3) := by decide +kernel
theorem dX8_hasRoomFor_12 : decode cX8_hasRoomFor 12 = .ok (.iconst 1, 1) := by decide +kernel
theorem dX8_hasRoomFor_13 : decode cX8_hasRoomFor 13 = .ok (.goto 4, 3) := by decide +kernel
theorem dX8_hasRoomFor_16 : decode cX8_hasRoomFor 16 = .ok (.iconst 0, 1) := by decide +kernel
theorem dX8_hasRoomFor_17 : decode cX8_hasRoomFor 17 = .ok (.ireturn, 1) := by decide +kernel
theorem dX8_append_0 : decode cX8_append 0 = .ok (.bipush 24, 2) := by decide +kernel
theorem dX8_append_2 : decode cX8_append 2 = .ok (.istore_n 2, 1) := by decide +kernel
theorem dX8_append_3 : decode cX8_append 3 = .ok (.iload_n 2, 1) := by decide +kernel
theorem dX8_append_4 : decode cX8_append 4 = .ok (.ifCond .lt 42, 3) := by decide +kernel
theorem dX8_append_7 : decode cX8_append 7 = .ok (.aload_n 0, 1) := by decide +kernel
theorem dX8_append_8 : decode cX8_append 8 = .ok (.getfield 15, 3) := by decide +kernel
theorem dX8_append_11 : decode cX8_append 11 = .ok (.sipush 900, 3) := by decide +kernel
theorem dX8_append_14 : decode cX8_append 14 = .ok (.if_icmp .ge 32, 3) := by decide +kernel
theorem dX8_append_17 : decode cX8_append 17 = .ok (.aload_n 0, 1) := by decide +kernel
theorem dX8_append_18 : decode cX8_append 18 = .ok (.getfield 9, 3) := by decide +kernel
theorem dX8_append_21 : decode cX8_append 21 = .ok (.aload_n 0, 1) := by decide +kernel
theorem dX8_append_22 : decode cX8_append 22 = .ok (.getfield 15, 3) := by decide +kernel
theorem dX8_append_25 : decode cX8_append 25 = .ok (.iload_n 1, 1) := by decide +kernel
theorem dX8_append_26 : decode cX8_append 26 = .ok (.iload_n 2, 1) := by decide +kernel
theorem dX8_append_27 : decode cX8_append 27 = .ok (.ishr, 1) := by decide +kernel
theorem dX8_append_28 : decode cX8_append 28 = .ok (.i2b, 1) := by decide +kernel
theorem dX8_append_29 : decode cX8_append 29 = .ok (.bastore, 1) := by decide +kernel
theorem dX8_append_30 : decode cX8_append 30 = .ok (.aload_n 0, 1) := by decide +kernel
theorem dX8_append_31 : decode cX8_append 31 = .ok (.dup, 1) := by decide +kernel
theorem dX8_append_32 : decode cX8_append 32 = .ok (.getfield 15, 3) := by decide +kernel
theorem dX8_append_35 : decode cX8_append 35 = .ok (.iconst 1, 1) := by decide +kernel
theorem dX8_append_36 : decode cX8_append 36 = .ok (.iadd, 1) := by decide +kernel
theorem dX8_append_37 : decode cX8_append 37 = .ok (.putfield 15, 3) := by decide +kernel
theorem dX8_append_40 : decode cX8_append 40 = .ok (.iinc 2 (-8), 3) := by decide +kernel
theorem dX8_append_43 : decode cX8_append 43 = .ok (.goto (-40), 3) := by decide +kernel
theorem dX8_append_46 : decode cX8_append 46 = .ok (.return_, 1) := by decide +kernel
theorem dX8_empty_0 : decode cX8_empty 0 = .ok (.aload_n 0, 1) := by decide +kernel
theorem dX8_empty_1 : decode cX8_empty 1 = .ok (.iconst 0, 1) := by decide +kernel
theorem dX8_empty_2 : decode cX8_empty 2 = .ok (.putfield 15, 3) := by decide +kernel
theorem dX8_empty_5 : decode cX8_empty 5 = .ok (.return_, 1) := by decide +kernel
theorem dX8_begin_0 : decode cX8_begin 0 = .ok (.iload_n 1, 1) := by decide +kernel
theorem dX8_begin_1 : decode cX8_begin 1 = .ok (.ifCond .lt 11, 3) := by decide +kernel
theorem dX8_begin_4 : decode cX8_begin 4 = .ok (.iload_n 1, 1) := by decide +kernel
theorem dX8_begin_5 : decode cX8_begin 5 = .ok (.aload_n 0, 1) := by decide +kernel
theorem dX8_begin_6 : decode cX8_begin 6 = .ok (.getfield 15, 3) := by decide +kernel
theorem dX8_begin_9 : decode cX8_begin 9 = .ok (.if_icmp .le 5, 3) := by decide +kernel
theorem dX8_begin_12 : decode cX8_begin 12 = .ok (.iconst 0, 1) := by decide +kernel
theorem dX8_begin_13 : decode cX8_begin 13 = .ok (.ireturn, 1) := by decide +kernel
theorem dX8_begin_14 : decode cX8_begin 14 = .ok (.aload_n 0, 1) := by decide +kernel
theorem dX8_begin_15 : decode cX8_begin 15 = .ok (.iload_n 1, 1) := by decide +kernel
theorem dX8_begin_16 : decode cX8_begin 16 = .ok (.putfield 19, 3) := by decide +kernel
theorem dX8_begin_19 : decode cX8_begin 19 = .ok (.aload_n 0, 1) := by decide +kernel
theorem dX8_begin_20 : decode cX8_begin 20 = .ok (.iconst 0, 1) := by decide +kernel
theorem dX8_begin_21 : decode cX8_begin 21 = .ok (.putfield 22, 3) := by decide +kernel
theorem dX8_begin_24 : decode cX8_begin 24 = .ok (.aload_n 0, 1) := by decide +kernel
theorem dX8_begin_25 : decode cX8_begin 25 = .ok (.iconst 0, 1) := by decide +kernel
theorem dX8_begin_26 : decode cX8_begin 26 = .ok (.putfield 43, 3) := by decide +kernel
theorem dX8_begin_29 : decode cX8_begin 29 = .ok (.aload_n 0, 1) := by decide +kernel
theorem dX8_begin_30 : decode cX8_begin 30 = .ok (.iconst (-1), 1) := by decide +kernel
theorem dX8_begin_31 : decode cX8_begin 31 = .ok (.putfield 46, 3) := by decide +kernel
theorem dX8_begin_34 : decode cX8_begin 34 = .ok (.aload_n 0, 1) := by decide +kernel
theorem dX8_begin_35 : decode cX8_begin 35 = .ok (.invokevirtual 71, 3) := by decide +kernel
theorem dX8_begin_38 : decode cX8_begin 38 = .ok (.iconst 1, 1) := by decide +kernel
theorem dX8_begin_39 : decode cX8_begin 39 = .ok (.ireturn, 1) := by decide +kernel
theorem dX8_forward_0 : decode cX8_forward 0 = .ok (.aload_n 0, 1) := by decide +kernel
theorem dX8_forward_1 : decode cX8_forward 1 = .ok (.getfield 22, 3) := by decide +kernel
theorem dX8_forward_4 : decode cX8_forward 4 = .ok (.aload_n 0, 1) := by decide +kernel
theorem dX8_forward_5 : decode cX8_forward 5 = .ok (.getfield 19, 3) := by decide +kernel
theorem dX8_forward_8 : decode cX8_forward 8 = .ok (.if_icmp .ge 44, 3) := by decide +kernel
theorem dX8_forward_11 : decode cX8_forward 11 = .ok (.aload_n 0, 1) := by decide +kernel
theorem dX8_forward_12 : decode cX8_forward 12 = .ok (.getfield 9, 3) := by decide +kernel
theorem dX8_forward_15 : decode cX8_forward 15 = .ok (.aload_n 0, 1) := by decide +kernel
theorem dX8_forward_16 : decode cX8_forward 16 = .ok (.getfield 22, 3) := by decide +kernel
theorem dX8_forward_19 : decode cX8_forward 19 = .ok (.baload, 1) := by decide +kernel
theorem dX8_forward_20 : decode cX8_forward 20 = .ok (.bipush 10, 2) := by decide +kernel
theorem dX8_forward_22 : decode cX8_forward 22 = .ok (.if_icmp .eq 17, 3) := by decide +kernel
theorem dX8_forward_25 : decode cX8_forward 25 = .ok (.aload_n 0, 1) := by decide +kernel
theorem dX8_forward_26 : decode cX8_forward 26 = .ok (.getfield 9, 3) := by decide +kernel
theorem dX8_forward_29 : decode cX8_forward 29 = .ok (.aload_n 0, 1) := by decide +kernel
theorem dX8_forward_30 : decode cX8_forward 30 = .ok (.getfield 22, 3) := by decide +kernel
theorem dX8_forward_33 : decode cX8_forward 33 = .ok (.baload, 1) := by decide +kernel
theorem dX8_forward_34 : decode cX8_forward 34 = .ok (.bipush 32, 2) := by decide +kernel
theorem dX8_forward_36 : decode cX8_forward 36 = .ok (.if_icmp .ne 16, 3) := by decide +kernel
theorem dX8_forward_39 : decode cX8_forward 39 = .ok (.aload_n 0, 1) := by decide +kernel
theorem dX8_forward_40 : decode cX8_forward 40 = .ok (.dup, 1) := by decide +kernel
theorem dX8_forward_41 : decode cX8_forward 41 = .ok (.getfield 22, 3) := by decide +kernel
theorem dX8_forward_44 : decode cX8_forward 44 = .ok (.iconst 1, 1) := by decide +kernel
theorem dX8_forward_45 : decode cX8_forward 45 = .ok (.iadd, 1) := by decide +kernel
theorem dX8_forward_46 : decode cX8_forward 46 = .ok (.putfield 22, 3) := by decide +kernel
theorem dX8_forward_49 : decode cX8_forward 49 = .ok (.goto (-49), 3) := by decide +kernel
theorem dX8_forward_52 : decode cX8_forward 52 = .ok (.aload_n 0, 1) := by decide +kernel
theorem dX8_forward_53 : decode cX8_forward 53 = .ok (.aload_n 0, 1) := by decide +kernel
theorem dX8_forward_54 : decode cX8_forward 54 = .ok (.getfield 22, 3) := by decide +kernel
theorem dX8_forward_57 : decode cX8_forward 57 = .ok (.putfield 28, 3) := by decide +kernel
theorem dX8_forward_60 : decode cX8_forward 60 = .ok (.aload_n 0, 1) := by decide +kernel
theorem dX8_forward_61 : decode cX8_forward 61 = .ok (.iconst (-1), 1) := by decide +kernel
theorem dX8_forward_62 : decode cX8_forward 62 = .ok (.putfield 37, 3) := by decide +kernel
theorem dX8_forward_65 : decode cX8_forward 65 = .ok (.aload_n 0, 1) := by decide +kernel
theorem dX8_forward_66 : decode cX8_forward 66 = .ok (.getfield 22, 3) := by decide +kernel
theorem dX8_forward_69 : decode cX8_forward 69 = .ok (.aload_n 0, 1) := by decide +kernel
theorem dX8_forward_70 : decode cX8_forward 70 = .ok (.getfield 19, 3) := by decide +kernel
theorem dX8_forward_73 : decode cX8_forward 73 = .ok (.if_icmp .lt 11, 3) := by decide +kernel
theorem dX8_forward_76 : decode cX8_forward 76 = .ok (.aload_n 0, 1) := by decide +kernel
theorem dX8_forward_77 : decode cX8_forward 77 = .ok (.iconst 0, 1) := by decide +kernel
theorem dX8_forward_78 : decode cX8_forward 78 = .ok (.putfield 25, 3) := by decide +kernel
theorem dX8_forward_81 : decode cX8_forward 81 = .ok (.goto 81, 3) := by decide +kernel
theorem dX8_forward_84 : decode cX8_forward 84 = .ok (.aload_n 0, 1) := by decide +kernel
theorem dX8_forward_85 : decode cX8_forward 85 = .ok (.getfield 9, 3) := by decide +kernel
theorem dX8_forward_88 : decode cX8_forward 88 = .ok (.aload_n 0, 1) := by decide +kernel
theorem dX8_forward_89 : decode cX8_forward 89 = .ok (.getfield 22, 3) := by decide +kernel
theorem dX8_forward_92 : decode cX8_forward 92 = .ok (.baload, 1) := by decide +kernel
theorem dX8_forward_93 : decode cX8_forward 93 = .ok (.invokestatic 74, 3) := by decide +kernel
theorem dX8_forward_96 : decode cX8_forward 96 = .ok (.ifCond .eq 10, 3) := by decide +kernel
theorem dX8_forward_99 : decode cX8_forward 99 = .ok (.aload_n 0, 1) := by decide +kernel
theorem dX8_forward_100 : decode cX8_forward 100 = .ok (.invokevirtual 78, 3) := by decide +kernel
theorem dX8_forward_103 : decode cX8_forward 103 = .ok (.goto 59, 3) := by decide +kernel
theorem dX8_forward_106 : decode cX8_forward 106 = .ok (.aload_n 0, 1) := by decide +kernel
theorem dX8_forward_107 : decode cX8_forward 107 = .ok (.getfield 9, 3) := by decide +kernel
theorem dX8_forward_110 : decode cX8_forward 110 = .ok (.aload_n 0, 1) := by decide +kernel
theorem dX8_forward_111 : decode cX8_forward 111 = .ok (.getfield 22, 3) := by decide +kernel
theorem dX8_forward_114 : decode cX8_forward 114 = .ok (.baload, 1) := by decide +kernel
theorem dX8_forward_115 : decode cX8_forward 115 = .ok (.invokestatic 81, 3) := by decide +kernel
theorem dX8_forward_118 : decode cX8_forward 118 = .ok (.ifCond .eq 10, 3) := by decide +kernel
theorem dX8_forward_121 : decode cX8_forward 121 = .ok (.aload_n 0, 1) := by decide +kernel
theorem dX8_forward_122 : decode cX8_forward 122 = .ok (.invokevirtual 84, 3) := by decide +kernel
theorem dX8_forward_125 : decode cX8_forward 125 = .ok (.goto 37, 3) := by decide +kernel
theorem dX8_forward_128 : decode cX8_forward 128 = .ok (.aload_n 0, 1) := by decide +kernel
theorem dX8_forward_129 : decode cX8_forward 129 = .ok (.aload_n 0, 1) := by decide +kernel
theorem dX8_forward_130 : decode cX8_forward 130 = .ok (.getfield 9, 3) := by decide +kernel
theorem dX8_forward_133 : decode cX8_forward 133 = .ok (.aload_n 0, 1) := by decide +kernel
theorem dX8_forward_134 : decode cX8_forward 134 = .ok (.getfield 22, 3) := by decide +kernel
theorem dX8_forward_137 : decode cX8_forward 137 = .ok (.baload, 1) := by decide +kernel
theorem dX8_forward_138 : decode cX8_forward 138 = .ok (.invokestatic 87, 3) := by decide +kernel
theorem dX8_forward_141 : decode cX8_forward 141 = .ok (.ifCond .eq 7, 3) := by decide +kernel
theorem dX8_forward_144 : decode cX8_forward 144 = .ok (.iconst 3, 1) := by decide +kernel
theorem dX8_forward_145 : decode cX8_forward 145 = .ok (.goto 4, 3) := by decide +kernel
theorem dX8_forward_148 : decode cX8_forward 148 = .ok (.iconst 4, 1) := by decide +kernel
theorem dX8_forward_149 : decode cX8_forward 149 = .ok (.putfield 25, 3) := by decide +kernel
theorem dX8_forward_152 : decode cX8_forward 152 = .ok (.aload_n 0, 1) := by decide +kernel
theorem dX8_forward_153 : decode cX8_forward 153 = .ok (.dup, 1) := by decide +kernel
theorem dX8_forward_154 : decode cX8_forward 154 = .ok (.getfield 22, 3) := by decide +kernel
theorem dX8_forward_157 : decode cX8_forward 157 = .ok (.iconst 1, 1) := by decide +kernel
theorem dX8_forward_158 : decode cX8_forward 158 = .ok (.iadd, 1) := by decide +kernel
theorem dX8_forward_159 : decode cX8_forward 159 = .ok (.putfield 22, 3) := by decide +kernel
theorem dX8_forward_162 : decode cX8_forward 162 = .ok (.return_, 1) := by decide +kernel
theorem dX8_isLetter_0 : decode cX8_isLetter 0 = .ok (.iload_n 0, 1) := by decide +kernel
theorem dX8_isLetter_1 : decode cX8_isLetter 1 = .ok (.bipush 97, 2) := by decide +kernel
theorem dX8_isLetter_3 : decode cX8_isLetter 3 = .ok (.if_icmp .lt 13, 3) := by decide +kernel
theorem dX8_isLetter_6 : decode cX8_isLetter 6 = .ok (.iload_n 0, 1) := by decide +kernel
theorem dX8_isLetter_7 : decode cX8_isLetter 7 = .ok (.bipush 122, 2) := by decide +kernel
theorem dX8_isLetter_9 : decode cX8_isLetter 9 = .ok (.if_icmp .gt 7, 3) := by decide +kernel
theorem dX8_isLetter_12 : decode cX8_isLetter 12 = .ok (.iconst 1, 1) := by decide +kernel
theorem dX8_isLetter_13 : decode cX8_isLetter 13 = .ok (.goto 4, 3) := by decide +kernel
theorem dX8_isLetter_16 : decode cX8_isLetter 16 = .ok (.iconst 0, 1) := by decide +kernel
theorem dX8_isLetter_17 : decode cX8_isLetter 17 = .ok (.ireturn, 1) := by decide +kernel
theorem dX8_isDigit_0 : decode cX8_isDigit 0 = .ok (.iload_n 0, 1) := by decide +kernel
theorem dX8_isDigit_1 : decode cX8_isDigit 1 = .ok (.bipush 48, 2) := by decide +kernel
theorem dX8_isDigit_3 : decode cX8_isDigit 3 = .ok (.if_icmp .lt 13, 3) := by decide +kernel
theorem dX8_isDigit_6 : decode cX8_isDigit 6 = .ok (.iload_n 0, 1) := by decide +kernel
theorem dX8_isDigit_7 : decode cX8_isDigit 7 = .ok (.bipush 57, 2) := by decide +kernel
theorem dX8_isDigit_9 : decode cX8_isDigit 9 = .ok (.if_icmp .gt 7, 3) := by decide +kernel
theorem dX8_isDigit_12 : decode cX8_isDigit 12 = .ok (.iconst 1, 1) := by decide +kernel
theorem dX8_isDigit_13 : decode cX8_isDigit 13 = .ok (.goto 4, 3) := by decide +kernel
theorem dX8_isDigit_16 : decode cX8_isDigit 16 = .ok (.iconst 0, 1) := by decide +kernel
theorem dX8_isDigit_17 : decode cX8_isDigit 17 = .ok (.ireturn, 1) := by decide +kernel
theorem dX8_isSign_0 : decode cX8_isSign 0 = .ok (.iload_n 0, 1) := by decide +kernel
theorem dX8_isSign_1 : decode cX8_isSign 1 = .ok (.bipush 59, 2) := by decide +kernel
theorem dX8_isSign_3 : decode cX8_isSign 3 = .ok (.if_icmp .lt 13, 3) := by decide +kernel
theorem dX8_isSign_6 : decode cX8_isSign 6 = .ok (.iload_n 0, 1) := by decide +kernel
theorem dX8_isSign_7 : decode cX8_isSign 7 = .ok (.bipush 62, 2) := by decide +kernel
theorem dX8_isSign_9 : decode cX8_isSign 9 = .ok (.if_icmp .gt 7, 3) := by decide +kernel
theorem dX8_isSign_12 : decode cX8_isSign 12 = .ok (.iconst 1, 1) := by decide +kernel
theorem dX8_isSign_13 : decode cX8_isSign 13 = .ok (.goto 4, 3) := by decide +kernel
theorem dX8_isSign_16 : decode cX8_isSign 16 = .ok (.iconst 0, 1) := by decide +kernel
theorem dX8_isSign_17 : decode cX8_isSign 17 = .ok (.ireturn, 1) := by decide +kernel
theorem dX8_takeWord_0 : decode cX8_takeWord 0 = .ok (.lconst 0, 1) := by decide +kernel
theorem dX8_takeWord_1 : decode cX8_takeWord 1 = .ok (.lstore_n 1, 1) := by decide +kernel
theorem dX8_takeWord_2 : decode cX8_takeWord 2 = .ok (.aload_n 0, 1) := by decide +kernel
theorem dX8_takeWord_3 : decode cX8_takeWord 3 = .ok (.getfield 22, 3) := by decide +kernel
theorem dX8_takeWord_6 : decode cX8_takeWord 6 = .ok (.aload_n 0, 1) := by decide +kernel
theorem dX8_takeWord_7 : decode cX8_takeWord 7 = .ok (.getfield 19, 3) := by decide +kernel
theorem dX8_takeWord_10 : decode cX8_takeWord 10 = .ok (.if_icmp .ge 45, 3) := by decide +kernel
theorem dX8_takeWord_13 : decode cX8_takeWord 13 = .ok (.aload_n 0, 1) := by decide +kernel
theorem dX8_takeWord_14 : decode cX8_takeWord 14 = .ok (.getfield 9, 3) := by decide +kernel
theorem dX8_takeWord_17 : decode cX8_takeWord 17 = .ok (.aload_n 0, 1) := by decide +kernel
theorem dX8_takeWord_18 : decode cX8_takeWord 18 = .ok (.getfield 22, 3) := by decide +kernel
theorem dX8_takeWord_21 : decode cX8_takeWord 21 = .ok (.baload, 1) := by decide +kernel
theorem dX8_takeWord_22 : decode cX8_takeWord 22 = .ok (.invokestatic 74, 3) := by decide +kernel
theorem dX8_takeWord_25 : decode cX8_takeWord 25 = .ok (.ifCond .eq 30, 3) := by decide +kernel
theorem dX8_takeWord_28 : decode cX8_takeWord 28 = .ok (.lload_n 1, 1) := by decide +kernel
theorem dX8_takeWord_29 : decode cX8_takeWord 29 = .ok (.aload_n 0, 1) := by decide +kernel
theorem dX8_takeWord_30 : decode cX8_takeWord 30 = .ok (.getfield 9, 3) := by decide +kernel
theorem dX8_takeWord_33 : decode cX8_takeWord 33 = .ok (.aload_n 0, 1) := by decide +kernel
theorem dX8_takeWord_34 : decode cX8_takeWord 34 = .ok (.getfield 22, 3) := by decide +kernel
theorem dX8_takeWord_37 : decode cX8_takeWord 37 = .ok (.baload, 1) := by decide +kernel
theorem dX8_takeWord_38 : decode cX8_takeWord 38 = .ok (.invokestatic 65, 3) := by decide +kernel
theorem dX8_takeWord_41 : decode cX8_takeWord 41 = .ok (.lstore_n 1, 1) := by decide +kernel
theorem dX8_takeWord_42 : decode cX8_takeWord 42 = .ok (.aload_n 0, 1) := by decide +kernel
theorem dX8_takeWord_43 : decode cX8_takeWord 43 = .ok (.dup, 1) := by decide +kernel
theorem dX8_takeWord_44 : decode cX8_takeWord 44 = .ok (.getfield 22, 3) := by decide +kernel
theorem dX8_takeWord_47 : decode cX8_takeWord 47 = .ok (.iconst 1, 1) := by decide +kernel
theorem dX8_takeWord_48 : decode cX8_takeWord 48 = .ok (.iadd, 1) := by decide +kernel
theorem dX8_takeWord_49 : decode cX8_takeWord 49 = .ok (.putfield 22, 3) := by decide +kernel
theorem dX8_takeWord_52 : decode cX8_takeWord 52 = .ok (.goto (-50), 3) := by decide +kernel
theorem dX8_takeWord_55 : decode cX8_takeWord 55 = .ok (.aload_n 0, 1) := by decide +kernel
theorem dX8_takeWord_56 : decode cX8_takeWord 56 = .ok (.iconst 1, 1) := by decide +kernel
theorem dX8_takeWord_57 : decode cX8_takeWord 57 = .ok (.putfield 25, 3) := by decide +kernel
theorem dX8_takeWord_60 : decode cX8_takeWord 60 = .ok (.aload_n 0, 1) := by decide +kernel
theorem dX8_takeWord_61 : decode cX8_takeWord 61 = .ok (.aload_n 0, 1) := by decide +kernel
theorem dX8_takeWord_62 : decode cX8_takeWord 62 = .ok (.getfield 22, 3) := by decide +kernel
theorem dX8_takeWord_65 : decode cX8_takeWord 65 = .ok (.aload_n 0, 1) := by decide +kernel
theorem dX8_takeWord_66 : decode cX8_takeWord 66 = .ok (.getfield 28, 3) := by decide +kernel
theorem dX8_takeWord_69 : decode cX8_takeWord 69 = .ok (.isub, 1) := by decide +kernel
theorem dX8_takeWord_70 : decode cX8_takeWord 70 = .ok (.bipush 8, 2) := by decide +kernel
theorem dX8_takeWord_72 : decode cX8_takeWord 72 = .ok (.if_icmp .le 9, 3) := by decide +kernel
theorem dX8_takeWord_75 : decode cX8_takeWord 75 = .ok (.ldc2_w 31, 3) := by decide +kernel
theorem dX8_takeWord_78 : decode cX8_takeWord 78 = .ok (.goto 4, 3) := by decide +kernel
theorem dX8_takeWord_81 : decode cX8_takeWord 81 = .ok (.lload_n 1, 1) := by decide +kernel
theorem dX8_takeWord_82 : decode cX8_takeWord 82 = .ok (.putfield 33, 3) := by decide +kernel
theorem dX8_takeWord_85 : decode cX8_takeWord 85 = .ok (.iconst 0, 1) := by decide +kernel
theorem dX8_takeWord_86 : decode cX8_takeWord 86 = .ok (.istore_n 3, 1) := by decide +kernel
theorem dX8_takeWord_87 : decode cX8_takeWord 87 = .ok (.iload_n 3, 1) := by decide +kernel
theorem dX8_takeWord_88 : decode cX8_takeWord 88 = .ok (.bipush 24, 2) := by decide +kernel
theorem dX8_takeWord_90 : decode cX8_takeWord 90 = .ok (.if_icmp .ge 28, 3) := by decide +kernel
theorem dX8_takeWord_93 : decode cX8_takeWord 93 = .ok (.aload_n 0, 1) := by decide +kernel
theorem dX8_takeWord_94 : decode cX8_takeWord 94 = .ok (.getfield 49, 3) := by decide +kernel
theorem dX8_takeWord_97 : decode cX8_takeWord 97 = .ok (.iload_n 3, 1) := by decide +kernel
theorem dX8_takeWord_98 : decode cX8_takeWord 98 = .ok (.laload, 1) := by decide +kernel
theorem dX8_takeWord_99 : decode cX8_takeWord 99 = .ok (.aload_n 0, 1) := by decide +kernel
theorem dX8_takeWord_100 : decode cX8_takeWord 100 = .ok (.getfield 33, 3) := by decide +kernel
theorem dX8_takeWord_103 : decode cX8_takeWord 103 = .ok (.lcmp, 1) := by decide +kernel
theorem dX8_takeWord_104 : decode cX8_takeWord 104 = .ok (.ifCond .ne 8, 3) := by decide +kernel
theorem dX8_takeWord_107 : decode cX8_takeWord 107 = .ok (.aload_n 0, 1) := by decide +kernel
theorem dX8_takeWord_108 : decode cX8_takeWord 108 = .ok (.iload_n 3, 1) := by decide +kernel
theorem dX8_takeWord_109 : decode cX8_takeWord 109 = .ok (.putfield 37, 3) := by decide +kernel
theorem dX8_takeWord_112 : decode cX8_takeWord 112 = .ok (.iinc 3 1, 3) := by decide +kernel
theorem dX8_takeWord_115 : decode cX8_takeWord 115 = .ok (.goto (-28), 3) := by decide +kernel
theorem dX8_takeWord_118 : decode cX8_takeWord 118 = .ok (.return_, 1) := by decide +kernel
theorem dX8_takeNumber_0 : decode cX8_takeNumber 0 = .ok (.aload_n 0, 1) := by decide +kernel
theorem dX8_takeNumber_1 : decode cX8_takeNumber 1 = .ok (.iconst 0, 1) := by decide +kernel
theorem dX8_takeNumber_2 : decode cX8_takeNumber 2 = .ok (.putfield 40, 3) := by decide +kernel
theorem dX8_takeNumber_5 : decode cX8_takeNumber 5 = .ok (.aload_n 0, 1) := by decide +kernel
theorem dX8_takeNumber_6 : decode cX8_takeNumber 6 = .ok (.getfield 22, 3) := by decide +kernel
theorem dX8_takeNumber_9 : decode cX8_takeNumber 9 = .ok (.aload_n 0, 1) := by decide +kernel
theorem dX8_takeNumber_10 : decode cX8_takeNumber 10 = .ok (.getfield 19, 3) := by decide +kernel
theorem dX8_takeNumber_13 : decode cX8_takeNumber 13 = .ok (.if_icmp .ge 55, 3) := by decide +kernel
theorem dX8_takeNumber_16 : decode cX8_takeNumber 16 = .ok (.aload_n 0, 1) := by decide +kernel
theorem dX8_takeNumber_17 : decode cX8_takeNumber 17 = .ok (.getfield 9, 3) := by decide +kernel
theorem dX8_takeNumber_20 : decode cX8_takeNumber 20 = .ok (.aload_n 0, 1) := by decide +kernel
theorem dX8_takeNumber_21 : decode cX8_takeNumber 21 = .ok (.getfield 22, 3) := by decide +kernel
theorem dX8_takeNumber_24 : decode cX8_takeNumber 24 = .ok (.baload, 1) := by decide +kernel
theorem dX8_takeNumber_25 : decode cX8_takeNumber 25 = .ok (.invokestatic 81, 3) := by decide +kernel
theorem dX8_takeNumber_28 : decode cX8_takeNumber 28 = .ok (.ifCond .eq 40, 3) := by decide +kernel
theorem dX8_takeNumber_31 : decode cX8_takeNumber 31 = .ok (.aload_n 0, 1) := by decide +kernel
theorem dX8_takeNumber_32 : decode cX8_takeNumber 32 = .ok (.aload_n 0, 1) := by decide +kernel
theorem dX8_takeNumber_33 : decode cX8_takeNumber 33 = .ok (.getfield 40, 3) := by decide +kernel
theorem dX8_takeNumber_36 : decode cX8_takeNumber 36 = .ok (.bipush 10, 2) := by decide +kernel
theorem dX8_takeNumber_38 : decode cX8_takeNumber 38 = .ok (.imul, 1) := by decide +kernel
theorem dX8_takeNumber_39 : decode cX8_takeNumber 39 = .ok (.aload_n 0, 1) := by decide +kernel
theorem dX8_takeNumber_40 : decode cX8_takeNumber 40 = .ok (.getfield 9, 3) := by decide +kernel
theorem dX8_takeNumber_43 : decode cX8_takeNumber 43 = .ok (.aload_n 0, 1) := by decide +kernel
theorem dX8_takeNumber_44 : decode cX8_takeNumber 44 = .ok (.getfield 22, 3) := by decide +kernel
theorem dX8_takeNumber_47 : decode cX8_takeNumber 47 = .ok (.baload, 1) := by decide +kernel
theorem dX8_takeNumber_48 : decode cX8_takeNumber 48 = .ok (.bipush 48, 2) := by decide +kernel
theorem dX8_takeNumber_50 : decode cX8_takeNumber 50 = .ok (.isub, 1) := by decide +kernel
theorem dX8_takeNumber_51 : decode cX8_takeNumber 51 = .ok (.iadd, 1) := by decide +kernel
theorem dX8_takeNumber_52 : decode cX8_takeNumber 52 = .ok (.putfield 40, 3) := by decide +kernel
theorem dX8_takeNumber_55 : decode cX8_takeNumber 55 = .ok (.aload_n 0, 1) := by decide +kernel
theorem dX8_takeNumber_56 : decode cX8_takeNumber 56 = .ok (.dup, 1) := by decide +kernel
theorem dX8_takeNumber_57 : decode cX8_takeNumber 57 = .ok (.getfield 22, 3) := by decide +kernel
theorem dX8_takeNumber_60 : decode cX8_takeNumber 60 = .ok (.iconst 1, 1) := by decide +kernel
theorem dX8_takeNumber_61 : decode cX8_takeNumber 61 = .ok (.iadd, 1) := by decide +kernel
theorem dX8_takeNumber_62 : decode cX8_takeNumber 62 = .ok (.putfield 22, 3) := by decide +kernel
theorem dX8_takeNumber_65 : decode cX8_takeNumber 65 = .ok (.goto (-60), 3) := by decide +kernel
theorem dX8_takeNumber_68 : decode cX8_takeNumber 68 = .ok (.aload_n 0, 1) := by decide +kernel
theorem dX8_takeNumber_69 : decode cX8_takeNumber 69 = .ok (.aload_n 0, 1) := by decide +kernel
theorem dX8_takeNumber_70 : decode cX8_takeNumber 70 = .ok (.getfield 22, 3) := by decide +kernel
theorem dX8_takeNumber_73 : decode cX8_takeNumber 73 = .ok (.aload_n 0, 1) := by decide +kernel
theorem dX8_takeNumber_74 : decode cX8_takeNumber 74 = .ok (.getfield 28, 3) := by decide +kernel
theorem dX8_takeNumber_77 : decode cX8_takeNumber 77 = .ok (.isub, 1) := by decide +kernel
theorem dX8_takeNumber_78 : decode cX8_takeNumber 78 = .ok (.iconst 4, 1) := by decide +kernel
theorem dX8_takeNumber_79 : decode cX8_takeNumber 79 = .ok (.if_icmp .le 7, 3) := by decide +kernel
theorem dX8_takeNumber_82 : decode cX8_takeNumber 82 = .ok (.iconst 4, 1) := by decide +kernel
theorem dX8_takeNumber_83 : decode cX8_takeNumber 83 = .ok (.goto 4, 3) := by decide +kernel
theorem dX8_takeNumber_86 : decode cX8_takeNumber 86 = .ok (.iconst 2, 1) := by decide +kernel
theorem dX8_takeNumber_87 : decode cX8_takeNumber 87 = .ok (.putfield 25, 3) := by decide +kernel
theorem dX8_takeNumber_90 : decode cX8_takeNumber 90 = .ok (.return_, 1) := by decide +kernel
theorem dX8_fail_0 : decode cX8_fail 0 = .ok (.aload_n 0, 1) := by decide +kernel
theorem dX8_fail_1 : decode cX8_fail 1 = .ok (.aload_n 0, 1) := by decide +kernel
theorem dX8_fail_2 : decode cX8_fail 2 = .ok (.getfield 25, 3) := by decide +kernel
theorem dX8_fail_5 : decode cX8_fail 5 = .ok (.iconst 4, 1) := by decide +kernel
theorem dX8_fail_6 : decode cX8_fail 6 = .ok (.if_icmp .ne 7, 3) := by decide +kernel
theorem dX8_fail_9 : decode cX8_fail 9 = .ok (.iconst 1, 1) := by decide +kernel
theorem dX8_fail_10 : decode cX8_fail 10 = .ok (.goto 4, 3) := by decide +kernel
theorem dX8_fail_13 : decode cX8_fail 13 = .ok (.iload_n 1, 1) := by decide +kernel
theorem dX8_fail_14 : decode cX8_fail 14 = .ok (.aload_n 0, 1) := by decide +kernel
theorem dX8_fail_15 : decode cX8_fail 15 = .ok (.getfield 28, 3) := by decide +kernel
theorem dX8_fail_18 : decode cX8_fail 18 = .ok (.invokevirtual 90, 3) := by decide +kernel
theorem dX8_fail_21 : decode cX8_fail 21 = .ok (.ireturn, 1) := by decide +kernel
theorem dX8_failAt_0 : decode cX8_failAt 0 = .ok (.aload_n 0, 1) := by decide +kernel
theorem dX8_failAt_1 : decode cX8_failAt 1 = .ok (.iload_n 1, 1) := by decide +kernel
theorem dX8_failAt_2 : decode cX8_failAt 2 = .ok (.putfield 43, 3) := by decide +kernel
theorem dX8_failAt_5 : decode cX8_failAt 5 = .ok (.aload_n 0, 1) := by decide +kernel
theorem dX8_failAt_6 : decode cX8_failAt 6 = .ok (.iload_n 2, 1) := by decide +kernel
theorem dX8_failAt_7 : decode cX8_failAt 7 = .ok (.putfield 46, 3) := by decide +kernel
theorem dX8_failAt_10 : decode cX8_failAt 10 = .ok (.iconst 0, 1) := by decide +kernel
theorem dX8_failAt_11 : decode cX8_failAt 11 = .ok (.ireturn, 1) := by decide +kernel
theorem dX8_skips_0 : decode cX8_skips 0 = .ok (.aload_n 0, 1) := by decide +kernel
theorem dX8_skips_1 : decode cX8_skips 1 = .ok (.getfield 37, 3) := by decide +kernel
theorem dX8_skips_4 : decode cX8_skips 4 = .ok (.iload_n 1, 1) := by decide +kernel
theorem dX8_skips_5 : decode cX8_skips 5 = .ok (.if_icmp .ne 7, 3) := by decide +kernel
theorem dX8_skips_8 : decode cX8_skips 8 = .ok (.iconst 1, 1) := by decide +kernel
theorem dX8_skips_9 : decode cX8_skips 9 = .ok (.goto 4, 3) := by decide +kernel
theorem dX8_skips_12 : decode cX8_skips 12 = .ok (.iconst 0, 1) := by decide +kernel
theorem dX8_skips_13 : decode cX8_skips 13 = .ok (.istore_n 2, 1) := by decide +kernel
theorem dX8_skips_14 : decode cX8_skips 14 = .ok (.iload_n 2, 1) := by decide +kernel
theorem dX8_skips_15 : decode cX8_skips 15 = .ok (.ifCond .eq 7, 3) := by decide +kernel
theorem dX8_skips_18 : decode cX8_skips 18 = .ok (.aload_n 0, 1) := by decide +kernel
theorem dX8_skips_19 : decode cX8_skips 19 = .ok (.invokevirtual 71, 3) := by decide +kernel
theorem dX8_skips_22 : decode cX8_skips 22 = .ok (.iload_n 2, 1) := by decide +kernel
theorem dX8_skips_23 : decode cX8_skips 23 = .ok (.ireturn, 1) := by decide +kernel
theorem dX8_atSemicolon_0 : decode cX8_atSemicolon 0 = .ok (.aload_n 0, 1) := by decide +kernel
theorem dX8_atSemicolon_1 : decode cX8_atSemicolon 1 = .ok (.getfield 25, 3) := by decide +kernel
theorem dX8_atSemicolon_4 : decode cX8_atSemicolon 4 = .ok (.iconst 3, 1) := by decide +kernel
theorem dX8_atSemicolon_5 : decode cX8_atSemicolon 5 = .ok (.if_icmp .ne 21, 3) := by decide +kernel
theorem dX8_atSemicolon_8 : decode cX8_atSemicolon 8 = .ok (.aload_n 0, 1) := by decide +kernel
theorem dX8_atSemicolon_9 : decode cX8_atSemicolon 9 = .ok (.getfield 9, 3) := by decide +kernel
theorem dX8_atSemicolon_12 : decode cX8_atSemicolon 12 = .ok (.aload_n 0, 1) := by decide +kernel
theorem dX8_atSemicolon_13 : decode cX8_atSemicolon 13 = .ok (.getfield 28, 3) := by decide +kernel
theorem dX8_atSemicolon_16 : decode cX8_atSemicolon 16 = .ok (.baload, 1) := by decide +kernel
theorem dX8_atSemicolon_17 : decode cX8_atSemicolon 17 = .ok (.bipush 59, 2) := by decide +kernel
theorem dX8_atSemicolon_19 : decode cX8_atSemicolon 19 = .ok (.if_icmp .ne 7, 3) := by decide +kernel
theorem dX8_atSemicolon_22 : decode cX8_atSemicolon 22 = .ok (.iconst 1, 1) := by decide +kernel
theorem dX8_atSemicolon_23 : decode cX8_atSemicolon 23 = .ok (.goto 4, 3) := by decide +kernel
theorem dX8_atSemicolon_26 : decode cX8_atSemicolon 26 = .ok (.iconst 0, 1) := by decide +kernel
theorem dX8_atSemicolon_27 : decode cX8_atSemicolon 27 = .ok (.ireturn, 1) := by decide +kernel
theorem dX8_closes_0 : decode cX8_closes 0 = .ok (.aload_n 0, 1) := by decide +kernel
theorem dX8_closes_1 : decode cX8_closes 1 = .ok (.invokevirtual 94, 3) := by decide +kernel
theorem dX8_closes_4 : decode cX8_closes 4 = .ok (.ifCond .ne 9, 3) := by decide +kernel
theorem dX8_closes_7 : decode cX8_closes 7 = .ok (.aload_n 0, 1) := by decide +kernel
theorem dX8_closes_8 : decode cX8_closes 8 = .ok (.iconst 2, 1) := by decide +kernel
theorem dX8_closes_9 : decode cX8_closes 9 = .ok (.invokevirtual 98, 3) := by decide +kernel
theorem dX8_closes_12 : decode cX8_closes 12 = .ok (.ireturn, 1) := by decide +kernel
theorem dX8_closes_13 : decode cX8_closes 13 = .ok (.aload_n 0, 1) := by decide +kernel
theorem dX8_closes_14 : decode cX8_closes 14 = .ok (.invokevirtual 71, 3) := by decide +kernel
theorem dX8_closes_17 : decode cX8_closes 17 = .ok (.iconst 1, 1) := by decide +kernel
theorem dX8_closes_18 : decode cX8_closes 18 = .ok (.ireturn, 1) := by decide +kernel
theorem dX8_numberWithin_0 : decode cX8_numberWithin 0 = .ok (.aload_n 0, 1) := by decide +kernel
theorem dX8_numberWithin_1 : decode cX8_numberWithin 1 = .ok (.getfield 25, 3) := by decide +kernel
theorem dX8_numberWithin_4 : decode cX8_numberWithin 4 = .ok (.iconst 2, 1) := by decide +kernel
theorem dX8_numberWithin_5 : decode cX8_numberWithin 5 = .ok (.if_icmp .eq 11, 3) := by decide +kernel
theorem dX8_numberWithin_8 : decode cX8_numberWithin 8 = .ok (.aload_n 0, 1) := by decide +kernel
theorem dX8_numberWithin_9 : decode cX8_numberWithin 9 = .ok (.iconst 2, 1) := by decide +kernel
theorem dX8_numberWithin_10 : decode cX8_numberWithin 10 = .ok (.invokevirtual 98, 3) := by decide +kernel
theorem dX8_numberWithin_13 : decode cX8_numberWithin 13 = .ok (.pop, 1) := by decide +kernel
theorem dX8_numberWithin_14 : decode cX8_numberWithin 14 = .ok (.iconst (-1), 1) := by decide +kernel
theorem dX8_numberWithin_15 : decode cX8_numberWithin 15 = .ok (.ireturn, 1) := by decide +kernel
theorem dX8_numberWithin_16 : decode cX8_numberWithin 16 = .ok (.aload_n 0, 1) := by decide +kernel
theorem dX8_numberWithin_17 : decode cX8_numberWithin 17 = .ok (.getfield 40, 3) := by decide +kernel
theorem dX8_numberWithin_20 : decode cX8_numberWithin 20 = .ok (.iload_n 1, 1) := by decide +kernel
theorem dX8_numberWithin_21 : decode cX8_numberWithin 21 = .ok (.if_icmp .lt 11, 3) := by decide +kernel
theorem dX8_numberWithin_24 : decode cX8_numberWithin 24 = .ok (.aload_n 0, 1) := by decide +kernel
theorem dX8_numberWithin_25 : decode cX8_numberWithin 25 = .ok (.getfield 40, 3) := by decide +kernel
theorem dX8_numberWithin_28 : decode cX8_numberWithin 28 = .ok (.iload_n 2, 1) := by decide +kernel
theorem dX8_numberWithin_29 : decode cX8_numberWithin 29 = .ok (.if_icmp .le 11, 3) := by decide +kernel
theorem dX8_numberWithin_32 : decode cX8_numberWithin 32 = .ok (.aload_n 0, 1) := by decide +kernel
theorem dX8_numberWithin_33 : decode cX8_numberWithin 33 = .ok (.iconst 4, 1) := by decide +kernel
theorem dX8_numberWithin_34 : decode cX8_numberWithin 34 = .ok (.invokevirtual 98, 3) := by decide +kernel
theorem dX8_numberWithin_37 : decode cX8_numberWithin 37 = .ok (.pop, 1) := by decide +kernel
theorem dX8_numberWithin_38 : decode cX8_numberWithin 38 = .ok (.iconst (-1), 1) := by decide +kernel
theorem dX8_numberWithin_39 : decode cX8_numberWithin 39 = .ok (.ireturn, 1) := by decide +kernel
theorem dX8_numberWithin_40 : decode cX8_numberWithin 40 = .ok (.aload_n 0, 1) := by decide +kernel
theorem dX8_numberWithin_41 : decode cX8_numberWithin 41 = .ok (.getfield 40, 3) := by decide +kernel
theorem dX8_numberWithin_44 : decode cX8_numberWithin 44 = .ok (.istore_n 3, 1) := by decide +kernel
theorem dX8_numberWithin_45 : decode cX8_numberWithin 45 = .ok (.aload_n 0, 1) := by decide +kernel
theorem dX8_numberWithin_46 : decode cX8_numberWithin 46 = .ok (.invokevirtual 71, 3) := by decide +kernel
theorem dX8_numberWithin_49 : decode cX8_numberWithin 49 = .ok (.iload_n 3, 1) := by decide +kernel
theorem dX8_numberWithin_50 : decode cX8_numberWithin 50 = .ok (.ireturn, 1) := by decide +kernel
theorem dX8_nameHere_0 : decode cX8_nameHere 0 = .ok (.aload_n 0, 1) := by decide +kernel
theorem dX8_nameHere_1 : decode cX8_nameHere 1 = .ok (.getfield 25, 3) := by decide +kernel
theorem dX8_nameHere_4 : decode cX8_nameHere 4 = .ok (.iconst 1, 1) := by decide +kernel
theorem dX8_nameHere_5 : decode cX8_nameHere 5 = .ok (.if_icmp .ne 27, 3) := by decide +kernel
theorem dX8_nameHere_8 : decode cX8_nameHere 8 = .ok (.aload_n 0, 1) := by decide +kernel
theorem dX8_nameHere_9 : decode cX8_nameHere 9 = .ok (.getfield 33, 3) := by decide +kernel
theorem dX8_nameHere_12 : decode cX8_nameHere 12 = .ok (.ldc2_w 31, 3) := by decide +kernel
theorem dX8_nameHere_15 : decode cX8_nameHere 15 = .ok (.lcmp, 1) := by decide +kernel
theorem dX8_nameHere_16 : decode cX8_nameHere 16 = .ok (.ifCond .eq 16, 3) := by decide +kernel
theorem dX8_nameHere_19 : decode cX8_nameHere 19 = .ok (.aload_n 0, 1) := by decide +kernel
theorem dX8_nameHere_20 : decode cX8_nameHere 20 = .ok (.getfield 37, 3) := by decide +kernel
theorem dX8_nameHere_23 : decode cX8_nameHere 23 = .ok (.iconst (-1), 1) := by decide +kernel
theorem dX8_nameHere_24 : decode cX8_nameHere 24 = .ok (.if_icmp .ne 8, 3) := by decide +kernel
theorem dX8_nameHere_27 : decode cX8_nameHere 27 = .ok (.aload_n 0, 1) := by decide +kernel
theorem dX8_nameHere_28 : decode cX8_nameHere 28 = .ok (.getfield 33, 3) := by decide +kernel
theorem dX8_nameHere_31 : decode cX8_nameHere 31 = .ok (.lreturn, 1) := by decide +kernel
theorem dX8_nameHere_32 : decode cX8_nameHere 32 = .ok (.aload_n 0, 1) := by decide +kernel
theorem dX8_nameHere_33 : decode cX8_nameHere 33 = .ok (.iconst 2, 1) := by decide +kernel
theorem dX8_nameHere_34 : decode cX8_nameHere 34 = .ok (.invokevirtual 98, 3) := by decide +kernel
theorem dX8_nameHere_37 : decode cX8_nameHere 37 = .ok (.pop, 1) := by decide +kernel
theorem dX8_nameHere_38 : decode cX8_nameHere 38 = .ok (.ldc2_w 31, 3) := by decide +kernel
theorem dX8_nameHere_41 : decode cX8_nameHere 41 = .ok (.lreturn, 1) := by decide +kernel
theorem dX8_oneOf_0 : decode cX8_oneOf 0 = .ok (.aload_n 0, 1) := by decide +kernel
theorem dX8_oneOf_1 : decode cX8_oneOf 1 = .ok (.invokevirtual 101, 3) := by decide +kernel
theorem dX8_oneOf_4 : decode cX8_oneOf 4 = .ok (.lstore_n 3, 1) := by decide +kernel
theorem dX8_oneOf_5 : decode cX8_oneOf 5 = .ok (.lload_n 3, 1) := by decide +kernel
theorem dX8_oneOf_6 : decode cX8_oneOf 6 = .ok (.ldc2_w 31, 3) := by decide +kernel
theorem dX8_oneOf_9 : decode cX8_oneOf 9 = .ok (.lcmp, 1) := by decide +kernel
theorem dX8_oneOf_10 : decode cX8_oneOf 10 = .ok (.ifCond .ne 5, 3) := by decide +kernel
theorem dX8_oneOf_13 : decode cX8_oneOf 13 = .ok (.iconst (-1), 1) := by decide +kernel
theorem dX8_oneOf_14 : decode cX8_oneOf 14 = .ok (.ireturn, 1) := by decide +kernel
theorem dX8_oneOf_15 : decode cX8_oneOf 15 = .ok (.aload_n 1, 1) := by decide +kernel
theorem dX8_oneOf_16 : decode cX8_oneOf 16 = .ok (.iload_n 2, 1) := by decide +kernel
theorem dX8_oneOf_17 : decode cX8_oneOf 17 = .ok (.lload_n 3, 1) := by decide +kernel
theorem dX8_oneOf_18 : decode cX8_oneOf 18 = .ok (.invokestatic 105, 3) := by decide +kernel
theorem dX8_oneOf_21 : decode cX8_oneOf 21 = .ok (.istore 5, 2) := by decide +kernel
theorem dX8_oneOf_23 : decode cX8_oneOf 23 = .ok (.iload 5, 2) := by decide +kernel
theorem dX8_oneOf_25 : decode cX8_oneOf 25 = .ok (.iconst (-1), 1) := by decide +kernel
theorem dX8_oneOf_26 : decode cX8_oneOf 26 = .ok (.if_icmp .ne 11, 3) := by decide +kernel
theorem dX8_oneOf_29 : decode cX8_oneOf 29 = .ok (.aload_n 0, 1) := by decide +kernel
theorem dX8_oneOf_30 : decode cX8_oneOf 30 = .ok (.iconst 3, 1) := by decide +kernel
theorem dX8_oneOf_31 : decode cX8_oneOf 31 = .ok (.invokevirtual 98, 3) := by decide +kernel
theorem dX8_oneOf_34 : decode cX8_oneOf 34 = .ok (.pop, 1) := by decide +kernel
theorem dX8_oneOf_35 : decode cX8_oneOf 35 = .ok (.iconst (-1), 1) := by decide +kernel
theorem dX8_oneOf_36 : decode cX8_oneOf 36 = .ok (.ireturn, 1) := by decide +kernel
theorem dX8_oneOf_37 : decode cX8_oneOf 37 = .ok (.aload_n 0, 1) := by decide +kernel
theorem dX8_oneOf_38 : decode cX8_oneOf 38 = .ok (.invokevirtual 71, 3) := by decide +kernel
theorem dX8_oneOf_41 : decode cX8_oneOf 41 = .ok (.iload 5, 2) := by decide +kernel
theorem dX8_oneOf_43 : decode cX8_oneOf 43 = .ok (.ireturn, 1) := by decide +kernel
theorem dX9_init_0 : decode cX9_init 0 = .ok (.aload_n 0, 1) := by decide +kernel
theorem dX9_init_1 : decode cX9_init 1 = .ok (.invokespecial 3, 3) := by decide +kernel
theorem dX9_init_4 : decode cX9_init 4 = .ok (.aload_n 0, 1) := by decide +kernel
theorem dX9_init_5 : decode cX9_init 5 = .ok (.iconst 4, 1) := by decide +kernel
theorem dX9_init_6 : decode cX9_init 6 = .ok (.bipush 60, 2) := by decide +kernel
theorem dX9_init_8 : decode cX9_init 8 = .ok (.multianewarray 9 2, 4) := by decide +kernel
theorem dX9_init_12 : decode cX9_init 12 = .ok (.putfield 11, 3) := by decide +kernel
theorem dX9_init_15 : decode cX9_init 15 = .ok (.aload_n 0, 1) := by decide +kernel
theorem dX9_init_16 : decode cX9_init 16 = .ok (.iconst 4, 1) := by decide +kernel
theorem dX9_init_17 : decode cX9_init 17 = .ok (.newarray .int, 2) := by decide +kernel
theorem dX9_init_19 : decode cX9_init 19 = .ok (.putfield 16, 3) := by decide +kernel
theorem dX9_init_22 : decode cX9_init 22 = .ok (.aload_n 0, 1) := by decide +kernel
theorem dX9_init_23 : decode cX9_init 23 = .ok (.iconst 4, 1) := by decide +kernel
theorem dX9_init_24 : decode cX9_init 24 = .ok (.newarray .int, 2) := by decide +kernel
theorem dX9_init_26 : decode cX9_init 26 = .ok (.putfield 20, 3) := by decide +kernel
theorem dX9_init_29 : decode cX9_init 29 = .ok (.aload_n 0, 1) := by decide +kernel
theorem dX9_init_30 : decode cX9_init 30 = .ok (.getfield 20, 3) := by decide +kernel
theorem dX9_init_33 : decode cX9_init 33 = .ok (.iconst (-1), 1) := by decide +kernel
theorem dX9_init_34 : decode cX9_init 34 = .ok (.invokestatic 23, 3) := by decide +kernel
theorem dX9_init_37 : decode cX9_init 37 = .ok (.return_, 1) := by decide +kernel
theorem dX10_init_0 : decode cX10_init 0 = .ok (.aload_n 0, 1) := by decide +kernel
theorem dX10_init_1 : decode cX10_init 1 = .ok (.invokespecial 3, 3) := by decide +kernel
theorem dX10_init_4 : decode cX10_init 4 = .ok (.aload_n 0, 1) := by decide +kernel
theorem dX10_init_5 : decode cX10_init 5 = .ok (.bipush 10, 2) := by decide +kernel
theorem dX10_init_7 : decode cX10_init 7 = .ok (.newarray .int, 2) := by decide +kernel
theorem dX10_init_9 : decode cX10_init 9 = .ok (.putfield 9, 3) := by decide +kernel
theorem dX10_init_12 : decode cX10_init 12 = .ok (.aload_n 0, 1) := by decide +kernel
theorem dX10_init_13 : decode cX10_init 13 = .ok (.bipush 60, 2) := by decide +kernel
theorem dX10_init_15 : decode cX10_init 15 = .ok (.newarray .int, 2) := by decide +kernel
theorem dX10_init_17 : decode cX10_init 17 = .ok (.putfield 15, 3) := by decide +kernel
theorem dX10_init_20 : decode cX10_init 20 = .ok (.aload_n 0, 1) := by decide +kernel
theorem dX10_init_21 : decode cX10_init 21 = .ok (.iconst 0, 1) := by decide +kernel
theorem dX10_init_22 : decode cX10_init 22 = .ok (.putfield 18, 3) := by decide +kernel
theorem dX10_init_25 : decode cX10_init 25 = .ok (.aload_n 0, 1) := by decide +kernel
theorem dX10_init_26 : decode cX10_init 26 = .ok (.iconst 0, 1) := by decide +kernel
theorem dX10_init_27 : decode cX10_init 27 = .ok (.putfield 22, 3) := by decide +kernel
theorem dX10_init_30 : decode cX10_init 30 = .ok (.aload_n 0, 1) := by decide +kernel
theorem dX10_init_31 : decode cX10_init 31 = .ok (.bipush 11, 2) := by decide +kernel
theorem dX10_init_33 : decode cX10_init 33 = .ok (.newarray .long, 2) := by decide +kernel
theorem dX10_init_35 : decode cX10_init 35 = .ok (.putfield 25, 3) := by decide +kernel
theorem dX10_init_38 : decode cX10_init 38 = .ok (.aload_n 0, 1) := by decide +kernel
theorem dX10_init_39 : decode cX10_init 39 = .ok (.bipush 10, 2) := by decide +kernel
theorem dX10_init_41 : decode cX10_init 41 = .ok (.newarray .int, 2) := by decide +kernel
theorem dX10_init_43 : decode cX10_init 43 = .ok (.putfield 29, 3) := by decide +kernel
theorem dX10_init_46 : decode cX10_init 46 = .ok (.return_, 1) := by decide +kernel
theorem dX11_init_0 : decode cX11_init 0 = .ok (.aload_n 0, 1) := by decide +kernel
theorem dX11_init_1 : decode cX11_init 1 = .ok (.invokespecial 1, 3) := by decide +kernel
theorem dX11_init_4 : decode cX11_init 4 = .ok (.aload_n 0, 1) := by decide +kernel
theorem dX11_init_5 : decode cX11_init 5 = .ok (.iconst 0, 1) := by decide +kernel
theorem dX11_init_6 : decode cX11_init 6 = .ok (.putfield 9, 3) := by decide +kernel
theorem dX11_init_9 : decode cX11_init 9 = .ok (.aload_n 0, 1) := by decide +kernel
theorem dX11_init_10 : decode cX11_init 10 = .ok (.new 13, 3) := by decide +kernel
theorem dX11_init_13 : decode cX11_init 13 = .ok (.dup, 1) := by decide +kernel
theorem dX11_init_14 : decode cX11_init 14 = .ok (.invokespecial 15, 3) := by decide +kernel
theorem dX11_init_17 : decode cX11_init 17 = .ok (.putfield 16, 3) := by decide +kernel
theorem dX11_init_20 : decode cX11_init 20 = .ok (.aload_n 0, 1) := by decide +kernel
theorem dX11_init_21 : decode cX11_init 21 = .ok (.new 20, 3) := by decide +kernel
theorem dX11_init_24 : decode cX11_init 24 = .ok (.dup, 1) := by decide +kernel
theorem dX11_init_25 : decode cX11_init 25 = .ok (.invokespecial 22, 3) := by decide +kernel
theorem dX11_init_28 : decode cX11_init 28 = .ok (.putfield 23, 3) := by decide +kernel
theorem dX11_init_31 : decode cX11_init 31 = .ok (.aload_n 0, 1) := by decide +kernel
theorem dX11_init_32 : decode cX11_init 32 = .ok (.new 27, 3) := by decide +kernel
theorem dX11_init_35 : decode cX11_init 35 = .ok (.dup, 1) := by decide +kernel
theorem dX11_init_36 : decode cX11_init 36 = .ok (.invokespecial 29, 3) := by decide +kernel
theorem dX11_init_39 : decode cX11_init 39 = .ok (.putfield 30, 3) := by decide +kernel
theorem dX11_init_42 : decode cX11_init 42 = .ok (.aload_n 0, 1) := by decide +kernel
theorem dX11_init_43 : decode cX11_init 43 = .ok (.new 34, 3) := by decide +kernel
theorem dX11_init_46 : decode cX11_init 46 = .ok (.dup, 1) := by decide +kernel
theorem dX11_init_47 : decode cX11_init 47 = .ok (.invokespecial 36, 3) := by decide +kernel
theorem dX11_init_50 : decode cX11_init 50 = .ok (.putfield 37, 3) := by decide +kernel
theorem dX11_init_53 : decode cX11_init 53 = .ok (.aload_n 0, 1) := by decide +kernel
theorem dX11_init_54 : decode cX11_init 54 = .ok (.new 41, 3) := by decide +kernel
theorem dX11_init_57 : decode cX11_init 57 = .ok (.dup, 1) := by decide +kernel
theorem dX11_init_58 : decode cX11_init 58 = .ok (.invokespecial 43, 3) := by decide +kernel
theorem dX11_init_61 : decode cX11_init 61 = .ok (.putfield 44, 3) := by decide +kernel
theorem dX11_init_64 : decode cX11_init 64 = .ok (.aload_n 0, 1) := by decide +kernel
theorem dX11_init_65 : decode cX11_init 65 = .ok (.new 48, 3) := by decide +kernel
theorem dX11_init_68 : decode cX11_init 68 = .ok (.dup, 1) := by decide +kernel
theorem dX11_init_69 : decode cX11_init 69 = .ok (.invokespecial 50, 3) := by decide +kernel
theorem dX11_init_72 : decode cX11_init 72 = .ok (.putfield 51, 3) := by decide +kernel
theorem dX11_init_75 : decode cX11_init 75 = .ok (.aload_n 0, 1) := by decide +kernel
theorem dX11_init_76 : decode cX11_init 76 = .ok (.new 55, 3) := by decide +kernel
theorem dX11_init_79 : decode cX11_init 79 = .ok (.dup, 1) := by decide +kernel
theorem dX11_init_80 : decode cX11_init 80 = .ok (.invokespecial 57, 3) := by decide +kernel
theorem dX11_init_83 : decode cX11_init 83 = .ok (.putfield 58, 3) := by decide +kernel
theorem dX11_init_86 : decode cX11_init 86 = .ok (.aload_n 0, 1) := by decide +kernel
theorem dX11_init_87 : decode cX11_init 87 = .ok (.new 55, 3) := by decide +kernel
theorem dX11_init_90 : decode cX11_init 90 = .ok (.dup, 1) := by decide +kernel
theorem dX11_init_91 : decode cX11_init 91 = .ok (.invokespecial 57, 3) := by decide +kernel
theorem dX11_init_94 : decode cX11_init 94 = .ok (.putfield 62, 3) := by decide +kernel
theorem dX11_init_97 : decode cX11_init 97 = .ok (.aload_n 0, 1) := by decide +kernel
theorem dX11_init_98 : decode cX11_init 98 = .ok (.iconst 3, 1) := by decide +kernel
theorem dX11_init_99 : decode cX11_init 99 = .ok (.anewarray 55, 3) := by decide +kernel
theorem dX11_init_102 : decode cX11_init 102 = .ok (.putfield 65, 3) := by decide +kernel
theorem dX11_init_105 : decode cX11_init 105 = .ok (.aload_n 0, 1) := by decide +kernel
theorem dX11_init_106 : decode cX11_init 106 = .ok (.iconst 0, 1) := by decide +kernel
theorem dX11_init_107 : decode cX11_init 107 = .ok (.putfield 69, 3) := by decide +kernel
theorem dX11_init_110 : decode cX11_init 110 = .ok (.aload_n 0, 1) := by decide +kernel
theorem dX11_init_111 : decode cX11_init 111 = .ok (.new 72, 3) := by decide +kernel
theorem dX11_init_114 : decode cX11_init 114 = .ok (.dup, 1) := by decide +kernel
theorem dX11_init_115 : decode cX11_init 115 = .ok (.invokespecial 74, 3) := by decide +kernel
theorem dX11_init_118 : decode cX11_init 118 = .ok (.putfield 75, 3) := by decide +kernel
theorem dX11_init_121 : decode cX11_init 121 = .ok (.aload_n 0, 1) := by decide +kernel
theorem dX11_init_122 : decode cX11_init 122 = .ok (.new 79, 3) := by decide +kernel
theorem dX11_init_125 : decode cX11_init 125 = .ok (.dup, 1) := by decide +kernel
theorem dX11_init_126 : decode cX11_init 126 = .ok (.invokespecial 81, 3) := by decide +kernel
theorem dX11_init_129 : decode cX11_init 129 = .ok (.putfield 82, 3) := by decide +kernel
theorem dX11_init_132 : decode cX11_init 132 = .ok (.aload_n 0, 1) := by decide +kernel
theorem dX11_init_133 : decode cX11_init 133 = .ok (.iconst 5, 1) := by decide +kernel
theorem dX11_init_134 : decode cX11_init 134 = .ok (.newarray .int, 2) := by decide +kernel
theorem dX11_init_136 : decode cX11_init 136 = .ok (.putfield 86, 3) := by decide +kernel
theorem dX11_init_139 : decode cX11_init 139 = .ok (.aload_n 0, 1) := by decide +kernel
theorem dX11_init_140 : decode cX11_init 140 = .ok (.iconst 0, 1) := by decide +kernel
theorem dX11_init_141 : decode cX11_init 141 = .ok (.putfield 90, 3) := by decide +kernel
theorem dX11_init_144 : decode cX11_init 144 = .ok (.iconst 0, 1) := by decide +kernel
theorem dX11_init_145 : decode cX11_init 145 = .ok (.istore_n 1, 1) := by decide +kernel
theorem dX11_init_146 : decode cX11_init 146 = .ok (.iload_n 1, 1) := by decide +kernel
theorem dX11_init_147 : decode cX11_init 147 = .ok (.iconst 3, 1) := by decide +kernel
theorem dX11_init_148 : decode cX11_init 148 = .ok (.if_icmp .ge 22, 3) := by decide +kernel
theorem dX11_init_151 : decode cX11_init 151 = .ok (.aload_n 0, 1) := by decide +kernel
theorem dX11_init_152 : decode cX11_init 152 = .ok (.getfield 65, 3) := by decide +kernel
theorem dX11_init_155 : decode cX11_init 155 = .ok (.iload_n 1, 1) := by decide +kernel
theorem dX11_init_156 : decode cX11_init 156 = .ok (.new 55, 3) := by decide +kernel
theorem dX11_init_159 : decode cX11_init 159 = .ok (.dup, 1) := by decide +kernel
theorem dX11_init_160 : decode cX11_init 160 = .ok (.invokespecial 57, 3) := by decide +kernel
theorem dX11_init_163 : decode cX11_init 163 = .ok (.aastore, 1) := by decide +kernel
theorem dX11_init_164 : decode cX11_init 164 = .ok (.iinc 1 1, 3) := by decide +kernel
theorem dX11_init_167 : decode cX11_init 167 = .ok (.goto (-21), 3) := by decide +kernel
theorem dX11_init_170 : decode cX11_init 170 = .ok (.return_, 1) := by decide +kernel
theorem dX11_top_0 : decode cX11_top 0 = .ok (.aload_n 0, 1) := by decide +kernel
theorem dX11_top_1 : decode cX11_top 1 = .ok (.getfield 30, 3) := by decide +kernel
theorem dX11_top_4 : decode cX11_top 4 = .ok (.getfield 94, 3) := by decide +kernel
theorem dX11_top_7 : decode cX11_top 7 = .ok (.lreturn, 1) := by decide +kernel
theorem dX11_bottom_0 : decode cX11_bottom 0 = .ok (.aload_n 0, 1) := by decide +kernel
theorem dX11_bottom_1 : decode cX11_bottom 1 = .ok (.getfield 30, 3) := by decide +kernel
theorem dX11_bottom_4 : decode cX11_bottom 4 = .ok (.getfield 98, 3) := by decide +kernel
theorem dX11_bottom_7 : decode cX11_bottom 7 = .ok (.lreturn, 1) := by decide +kernel
theorem dX11_refuse_0 : decode cX11_refuse 0 = .ok (.aload_n 0, 1) := by decide +kernel
theorem dX11_refuse_1 : decode cX11_refuse 1 = .ok (.iload_n 1, 1) := by decide +kernel
theorem dX11_refuse_2 : decode cX11_refuse 2 = .ok (.putfield 9, 3) := by decide +kernel
theorem dX11_refuse_5 : decode cX11_refuse 5 = .ok (.iconst (-1), 1) := by decide +kernel
theorem dX11_refuse_6 : decode cX11_refuse 6 = .ok (.ireturn, 1) := by decide +kernel
theorem dX11_deny_0 : decode cX11_deny 0 = .ok (.aload_n 0, 1) := by decide +kernel
theorem dX11_deny_1 : decode cX11_deny 1 = .ok (.iload_n 1, 1) := by decide +kernel
theorem dX11_deny_2 : decode cX11_deny 2 = .ok (.putfield 9, 3) := by decide +kernel
theorem dX11_deny_5 : decode cX11_deny 5 = .ok (.iconst 0, 1) := by decide +kernel
theorem dX11_deny_6 : decode cX11_deny 6 = .ok (.ireturn, 1) := by decide +kernel
theorem dX11_answer_0 : decode cX11_answer 0 = .ok (.aload_n 0, 1) := by decide +kernel
theorem dX11_answer_1 : decode cX11_answer 1 = .ok (.iconst 0, 1) := by decide +kernel
theorem dX11_answer_2 : decode cX11_answer 2 = .ok (.putfield 9, 3) := by decide +kernel
theorem dX11_answer_5 : decode cX11_answer 5 = .ok (.iload_n 1, 1) := by decide +kernel
theorem dX11_answer_6 : decode cX11_answer 6 = .ok (.ireturn, 1) := by decide +kernel
theorem dX11_agree_0 : decode cX11_agree 0 = .ok (.aload_n 0, 1) := by decide +kernel
theorem dX11_agree_1 : decode cX11_agree 1 = .ok (.iconst 0, 1) := by decide +kernel
theorem dX11_agree_2 : decode cX11_agree 2 = .ok (.putfield 9, 3) := by decide +kernel
theorem dX11_agree_5 : decode cX11_agree 5 = .ok (.iconst 1, 1) := by decide +kernel
theorem dX11_agree_6 : decode cX11_agree 6 = .ok (.ireturn, 1) := by decide +kernel
theorem dX11_answerIfAny_0 : decode cX11_answerIfAny 0 = .ok (.iload_n 1, 1) := by decide +kernel
theorem dX11_answerIfAny_1 : decode cX11_answerIfAny 1 = .ok (.iconst (-1), 1) := by decide +kernel
theorem dX11_answerIfAny_2 : decode cX11_answerIfAny 2 = .ok (.if_icmp .ne 12, 3) := by decide +kernel
theorem dX11_answerIfAny_5 : decode cX11_answerIfAny 5 = .ok (.aload_n 0, 1) := by decide +kernel
theorem dX11_answerIfAny_6 : decode cX11_answerIfAny 6 = .ok (.bipush 8, 2) := by decide +kernel
theorem dX11_answerIfAny_8 : decode cX11_answerIfAny 8 = .ok (.invokevirtual 101, 3) := by decide +kernel
theorem dX11_answerIfAny_11 : decode cX11_answerIfAny 11 = .ok (.goto 8, 3) := by decide +kernel
theorem dX11_answerIfAny_14 : decode cX11_answerIfAny 14 = .ok (.aload_n 0, 1) := by decide +kernel
theorem dX11_answerIfAny_15 : decode cX11_answerIfAny 15 = .ok (.iload_n 1, 1) := by decide +kernel
theorem dX11_answerIfAny_16 : decode cX11_answerIfAny 16 = .ok (.invokevirtual 105, 3) := by decide +kernel
theorem dX11_answerIfAny_19 : decode cX11_answerIfAny 19 = .ok (.ireturn, 1) := by decide +kernel
theorem dX11_feed_0 : decode cX11_feed 0 = .ok (.aload_n 0, 1) := by decide +kernel
theorem dX11_feed_1 : decode cX11_feed 1 = .ok (.getfield 37, 3) := by decide +kernel
theorem dX11_feed_4 : decode cX11_feed 4 = .ok (.bipush 20, 2) := by decide +kernel
theorem dX11_feed_6 : decode cX11_feed 6 = .ok (.invokevirtual 145, 3) := by decide +kernel
theorem dX11_feed_9 : decode cX11_feed 9 = .ok (.ifCond .ne 5, 3) := by decide +kernel
theorem dX11_feed_12 : decode cX11_feed 12 = .ok (.iconst (-1), 1) := by decide +kernel
theorem dX11_feed_13 : decode cX11_feed 13 = .ok (.ireturn, 1) := by decide +kernel
theorem dX11_feed_14 : decode cX11_feed 14 = .ok (.aload_n 0, 1) := by decide +kernel
theorem dX11_feed_15 : decode cX11_feed 15 = .ok (.getfield 37, 3) := by decide +kernel
theorem dX11_feed_18 : decode cX11_feed 18 = .ok (.iload_n 1, 1) := by decide +kernel
theorem dX11_feed_19 : decode cX11_feed 19 = .ok (.invokevirtual 148, 3) := by decide +kernel
theorem dX11_feed_22 : decode cX11_feed 22 = .ok (.aload_n 0, 1) := by decide +kernel
theorem dX11_feed_23 : decode cX11_feed 23 = .ok (.getfield 37, 3) := by decide +kernel
theorem dX11_feed_26 : decode cX11_feed 26 = .ok (.iload_n 2, 1) := by decide +kernel
theorem dX11_feed_27 : decode cX11_feed 27 = .ok (.invokevirtual 148, 3) := by decide +kernel
theorem dX11_feed_30 : decode cX11_feed 30 = .ok (.aload_n 0, 1) := by decide +kernel
theorem dX11_feed_31 : decode cX11_feed 31 = .ok (.getfield 37, 3) := by decide +kernel
theorem dX11_feed_34 : decode cX11_feed 34 = .ok (.iload_n 3, 1) := by decide +kernel
theorem dX11_feed_35 : decode cX11_feed 35 = .ok (.invokevirtual 148, 3) := by decide +kernel
theorem dX11_feed_38 : decode cX11_feed 38 = .ok (.aload_n 0, 1) := by decide +kernel
theorem dX11_feed_39 : decode cX11_feed 39 = .ok (.getfield 37, 3) := by decide +kernel
theorem dX11_feed_42 : decode cX11_feed 42 = .ok (.iload 4, 2) := by decide +kernel
theorem dX11_feed_44 : decode cX11_feed 44 = .ok (.invokevirtual 148, 3) := by decide +kernel
theorem dX11_feed_47 : decode cX11_feed 47 = .ok (.aload_n 0, 1) := by decide +kernel
theorem dX11_feed_48 : decode cX11_feed 48 = .ok (.getfield 37, 3) := by decide +kernel
theorem dX11_feed_51 : decode cX11_feed 51 = .ok (.iload 5, 2) := by decide +kernel
theorem dX11_feed_53 : decode cX11_feed 53 = .ok (.invokevirtual 148, 3) := by decide +kernel
theorem dX11_feed_56 : decode cX11_feed 56 = .ok (.aload_n 0, 1) := by decide +kernel
theorem dX11_feed_57 : decode cX11_feed 57 = .ok (.getfield 37, 3) := by decide +kernel
theorem dX11_feed_60 : decode cX11_feed 60 = .ok (.getfield 152, 3) := by decide +kernel
theorem dX11_feed_63 : decode cX11_feed 63 = .ok (.ireturn, 1) := by decide +kernel
theorem dX11_book_0 : decode cX11_book 0 = .ok (.aload_n 0, 1) := by decide +kernel
theorem dX11_book_1 : decode cX11_book 1 = .ok (.getfield 37, 3) := by decide +kernel
theorem dX11_book_4 : decode cX11_book 4 = .ok (.iload_n 1, 1) := by decide +kernel
theorem dX11_book_5 : decode cX11_book 5 = .ok (.invokevirtual 155, 3) := by decide +kernel
theorem dX11_book_8 : decode cX11_book 8 = .ok (.ifCond .ne 9, 3) := by decide +kernel
theorem dX11_book_11 : decode cX11_book 11 = .ok (.aload_n 0, 1) := by decide +kernel
theorem dX11_book_12 : decode cX11_book 12 = .ok (.iconst 5, 1) := by decide +kernel
theorem dX11_book_13 : decode cX11_book 13 = .ok (.invokevirtual 101, 3) := by decide +kernel
theorem dX11_book_16 : decode cX11_book 16 = .ok (.ireturn, 1) := by decide +kernel
theorem dX11_book_17 : decode cX11_book 17 = .ok (.aload_n 0, 1) := by decide +kernel
theorem dX11_book_18 : decode cX11_book 18 = .ok (.getfield 44, 3) := by decide +kernel
theorem dX11_book_21 : decode cX11_book 21 = .ok (.aload_n 0, 1) := by decide +kernel
theorem dX11_book_22 : decode cX11_book 22 = .ok (.getfield 37, 3) := by decide +kernel
theorem dX11_book_25 : decode cX11_book 25 = .ok (.aload_n 0, 1) := by decide +kernel
theorem dX11_book_26 : decode cX11_book 26 = .ok (.getfield 62, 3) := by decide +kernel
theorem dX11_book_29 : decode cX11_book 29 = .ok (.invokevirtual 158, 3) := by decide +kernel
theorem dX11_book_32 : decode cX11_book 32 = .ok (.istore_n 2, 1) := by decide +kernel
theorem dX11_book_33 : decode cX11_book 33 = .ok (.aload_n 0, 1) := by decide +kernel
theorem dX11_book_34 : decode cX11_book 34 = .ok (.getfield 37, 3) := by decide +kernel
theorem dX11_book_37 : decode cX11_book 37 = .ok (.invokevirtual 162, 3) := by decide +kernel
theorem dX11_book_40 : decode cX11_book 40 = .ok (.iload_n 2, 1) := by decide +kernel
theorem dX11_book_41 : decode cX11_book 41 = .ok (.ifCond .ne 10, 3) := by decide +kernel
theorem dX11_book_44 : decode cX11_book 44 = .ok (.aload_n 0, 1) := by decide +kernel
theorem dX11_book_45 : decode cX11_book 45 = .ok (.bipush 10, 2) := by decide +kernel
theorem dX11_book_47 : decode cX11_book 47 = .ok (.invokevirtual 101, 3) := by decide +kernel
theorem dX11_book_50 : decode cX11_book 50 = .ok (.ireturn, 1) := by decide +kernel
theorem dX11_book_51 : decode cX11_book 51 = .ok (.aload_n 0, 1) := by decide +kernel
theorem dX11_book_52 : decode cX11_book 52 = .ok (.getfield 58, 3) := by decide +kernel
theorem dX11_book_55 : decode cX11_book 55 = .ok (.aload_n 0, 1) := by decide +kernel
theorem dX11_book_56 : decode cX11_book 56 = .ok (.getfield 62, 3) := by decide +kernel
theorem dX11_book_59 : decode cX11_book 59 = .ok (.invokevirtual 165, 3) := by decide +kernel
theorem dX11_book_62 : decode cX11_book 62 = .ok (.aload_n 0, 1) := by decide +kernel
theorem dX11_book_63 : decode cX11_book 63 = .ok (.aload_n 0, 1) := by decide +kernel
theorem dX11_book_64 : decode cX11_book 64 = .ok (.getfield 58, 3) := by decide +kernel
theorem dX11_book_67 : decode cX11_book 67 = .ok (.getfield 169, 3) := by decide +kernel
theorem dX11_book_70 : decode cX11_book 70 = .ok (.invokevirtual 105, 3) := by decide +kernel
theorem dX11_book_73 : decode cX11_book 73 = .ok (.ireturn, 1) := by decide +kernel
theorem dX11_rounds_0 : decode cX11_rounds 0 = .ok (.iload_n 1, 1) := by decide +kernel
theorem dX11_rounds_1 : decode cX11_rounds 1 = .ok (.sipush 300, 3) := by decide +kernel
theorem dX11_rounds_4 : decode cX11_rounds 4 = .ok (.if_icmp .gt 14, 3) := by decide +kernel
theorem dX11_rounds_7 : decode cX11_rounds 7 = .ok (.aload_n 0, 1) := by decide +kernel
theorem dX11_rounds_8 : decode cX11_rounds 8 = .ok (.getfield 37, 3) := by decide +kernel
theorem dX11_rounds_11 : decode cX11_rounds 11 = .ok (.iload_n 1, 1) := by decide +kernel
theorem dX11_rounds_12 : decode cX11_rounds 12 = .ok (.invokevirtual 155, 3) := by decide +kernel
theorem dX11_rounds_15 : decode cX11_rounds 15 = .ok (.ifCond .ne 9, 3) := by decide +kernel
theorem dX11_rounds_18 : decode cX11_rounds 18 = .ok (.aload_n 0, 1) := by decide +kernel
theorem dX11_rounds_19 : decode cX11_rounds 19 = .ok (.iconst 5, 1) := by decide +kernel
theorem dX11_rounds_20 : decode cX11_rounds 20 = .ok (.invokevirtual 101, 3) := by decide +kernel
theorem dX11_rounds_23 : decode cX11_rounds 23 = .ok (.ireturn, 1) := by decide +kernel
theorem dX11_rounds_24 : decode cX11_rounds 24 = .ok (.aload_n 0, 1) := by decide +kernel
theorem dX11_rounds_25 : decode cX11_rounds 25 = .ok (.getfield 51, 3) := by decide +kernel
theorem dX11_rounds_28 : decode cX11_rounds 28 = .ok (.aload_n 0, 1) := by decide +kernel
theorem dX11_rounds_29 : decode cX11_rounds 29 = .ok (.getfield 37, 3) := by decide +kernel
theorem dX11_rounds_32 : decode cX11_rounds 32 = .ok (.aload_n 0, 1) := by decide +kernel
theorem dX11_rounds_33 : decode cX11_rounds 33 = .ok (.getfield 58, 3) := by decide +kernel
theorem dX11_rounds_36 : decode cX11_rounds 36 = .ok (.aload_n 0, 1) := by decide +kernel
theorem dX11_rounds_37 : decode cX11_rounds 37 = .ok (.getfield 62, 3) := by decide +kernel
theorem dX11_rounds_40 : decode cX11_rounds 40 = .ok (.getfield 172, 3) := by decide +kernel
theorem dX11_rounds_43 : decode cX11_rounds 43 = .ok (.invokevirtual 176, 3) := by decide +kernel
theorem dX11_rounds_46 : decode cX11_rounds 46 = .ok (.istore_n 2, 1) := by decide +kernel
theorem dX11_rounds_47 : decode cX11_rounds 47 = .ok (.aload_n 0, 1) := by decide +kernel
theorem dX11_rounds_48 : decode cX11_rounds 48 = .ok (.getfield 37, 3) := by decide +kernel
theorem dX11_rounds_51 : decode cX11_rounds 51 = .ok (.invokevirtual 162, 3) := by decide +kernel
theorem dX11_rounds_54 : decode cX11_rounds 54 = .ok (.iload_n 2, 1) := by decide +kernel
theorem dX11_rounds_55 : decode cX11_rounds 55 = .ok (.ifCond .ne 10, 3) := by decide +kernel
theorem dX11_rounds_58 : decode cX11_rounds 58 = .ok (.aload_n 0, 1) := by decide +kernel
theorem dX11_rounds_59 : decode cX11_rounds 59 = .ok (.bipush 10, 2) := by decide +kernel
theorem dX11_rounds_61 : decode cX11_rounds 61 = .ok (.invokevirtual 101, 3) := by decide +kernel
theorem dX11_rounds_64 : decode cX11_rounds 64 = .ok (.ireturn, 1) := by decide +kernel
theorem dX11_rounds_65 : decode cX11_rounds 65 = .ok (.aload_n 0, 1) := by decide +kernel
theorem dX11_rounds_66 : decode cX11_rounds 66 = .ok (.getfield 58, 3) := by decide +kernel
theorem dX11_rounds_69 : decode cX11_rounds 69 = .ok (.getfield 172, 3) := by decide +kernel
theorem dX11_rounds_72 : decode cX11_rounds 72 = .ok (.aload_n 0, 1) := by decide +kernel
theorem dX11_rounds_73 : decode cX11_rounds 73 = .ok (.getfield 62, 3) := by decide +kernel
theorem dX11_rounds_76 : decode cX11_rounds 76 = .ok (.getfield 172, 3) := by decide +kernel
theorem dX11_rounds_79 : decode cX11_rounds 79 = .ok (.invokevirtual 179, 3) := by decide +kernel
theorem dX11_rounds_82 : decode cX11_rounds 82 = .ok (.aload_n 0, 1) := by decide +kernel
theorem dX11_rounds_83 : decode cX11_rounds 83 = .ok (.aload_n 0, 1) := by decide +kernel
theorem dX11_rounds_84 : decode cX11_rounds 84 = .ok (.getfield 58, 3) := by decide +kernel
theorem dX11_rounds_87 : decode cX11_rounds 87 = .ok (.getfield 172, 3) := by decide +kernel
theorem dX11_rounds_90 : decode cX11_rounds 90 = .ok (.getfield 184, 3) := by decide +kernel
theorem dX11_rounds_93 : decode cX11_rounds 93 = .ok (.invokevirtual 105, 3) := by decide +kernel
theorem dX11_rounds_96 : decode cX11_rounds 96 = .ok (.ireturn, 1) := by decide +kernel
theorem dX11_many_0 : decode cX11_many 0 = .ok (.aload_n 0, 1) := by decide +kernel
theorem dX11_many_1 : decode cX11_many 1 = .ok (.getfield 58, 3) := by decide +kernel
theorem dX11_many_4 : decode cX11_many 4 = .ok (.getfield 193, 3) := by decide +kernel
theorem dX11_many_7 : decode cX11_many 7 = .ok (.astore_n 2, 1) := by decide +kernel
theorem dX11_many_8 : decode cX11_many 8 = .ok (.iload_n 1, 1) := by decide +kernel
theorem dX11_many_9 : decode cX11_many 9 = .ok (.tableswitch 141 0 8 #[51, 63, 75, 87, 96, 105, 114, 123, 132], 51) := by decide +kernel
theorem dX11_many_60 : decode cX11_many 60 = .ok (.aload_n 0, 1) := by decide +kernel
theorem dX11_many_61 : decode cX11_many 61 = .ok (.aload_n 0, 1) := by decide +kernel
theorem dX11_many_62 : decode cX11_many 62 = .ok (.getfield 58, 3) := by decide +kernel
theorem dX11_many_65 : decode cX11_many 65 = .ok (.getfield 169, 3) := by decide +kernel
theorem dX11_many_68 : decode cX11_many 68 = .ok (.invokevirtual 105, 3) := by decide +kernel
theorem dX11_many_71 : decode cX11_many 71 = .ok (.ireturn, 1) := by decide +kernel
theorem dX11_many_72 : decode cX11_many 72 = .ok (.aload_n 0, 1) := by decide +kernel
theorem dX11_many_73 : decode cX11_many 73 = .ok (.aload_n 0, 1) := by decide +kernel
theorem dX11_many_74 : decode cX11_many 74 = .ok (.getfield 58, 3) := by decide +kernel
theorem dX11_many_77 : decode cX11_many 77 = .ok (.getfield 197, 3) := by decide +kernel
theorem dX11_many_80 : decode cX11_many 80 = .ok (.invokevirtual 105, 3) := by decide +kernel
theorem dX11_many_83 : decode cX11_many 83 = .ok (.ireturn, 1) := by decide +kernel
theorem dX11_many_84 : decode cX11_many 84 = .ok (.aload_n 0, 1) := by decide +kernel
theorem dX11_many_85 : decode cX11_many 85 = .ok (.aload_n 0, 1) := by decide +kernel
theorem dX11_many_86 : decode cX11_many 86 = .ok (.getfield 58, 3) := by decide +kernel
theorem dX11_many_89 : decode cX11_many 89 = .ok (.getfield 200, 3) := by decide +kernel
theorem dX11_many_92 : decode cX11_many 92 = .ok (.invokevirtual 105, 3) := by decide +kernel
theorem dX11_many_95 : decode cX11_many 95 = .ok (.ireturn, 1) := by decide +kernel
theorem dX11_many_96 : decode cX11_many 96 = .ok (.aload_n 0, 1) := by decide +kernel
theorem dX11_many_97 : decode cX11_many 97 = .ok (.aload_n 2, 1) := by decide +kernel
theorem dX11_many_98 : decode cX11_many 98 = .ok (.getfield 203, 3) := by decide +kernel
theorem dX11_many_101 : decode cX11_many 101 = .ok (.invokevirtual 105, 3) := by decide +kernel
theorem dX11_many_104 : decode cX11_many 104 = .ok (.ireturn, 1) := by decide +kernel
theorem dX11_many_105 : decode cX11_many 105 = .ok (.aload_n 0, 1) := by decide +kernel
theorem dX11_many_106 : decode cX11_many 106 = .ok (.aload_n 2, 1) := by decide +kernel
theorem dX11_many_107 : decode cX11_many 107 = .ok (.getfield 208, 3) := by decide +kernel
theorem dX11_many_110 : decode cX11_many 110 = .ok (.invokevirtual 105, 3) := by decide +kernel
theorem dX11_many_113 : decode cX11_many 113 = .ok (.ireturn, 1) := by decide +kernel
theorem dX11_many_114 : decode cX11_many 114 = .ok (.aload_n 0, 1) := by decide +kernel
theorem dX11_many_115 : decode cX11_many 115 = .ok (.aload_n 2, 1) := by decide +kernel
theorem dX11_many_116 : decode cX11_many 116 = .ok (.invokevirtual 211, 3) := by decide +kernel
theorem dX11_many_119 : decode cX11_many 119 = .ok (.invokevirtual 105, 3) := by decide +kernel
theorem dX11_many_122 : decode cX11_many 122 = .ok (.ireturn, 1) := by decide +kernel
theorem dX11_many_123 : decode cX11_many 123 = .ok (.aload_n 0, 1) := by decide +kernel
theorem dX11_many_124 : decode cX11_many 124 = .ok (.aload_n 2, 1) := by decide +kernel
theorem dX11_many_125 : decode cX11_many 125 = .ok (.getfield 215, 3) := by decide +kernel
theorem dX11_many_128 : decode cX11_many 128 = .ok (.invokevirtual 105, 3) := by decide +kernel
theorem dX11_many_131 : decode cX11_many 131 = .ok (.ireturn, 1) := by decide +kernel
theorem dX11_many_132 : decode cX11_many 132 = .ok (.aload_n 0, 1) := by decide +kernel
theorem dX11_many_133 : decode cX11_many 133 = .ok (.aload_n 2, 1) := by decide +kernel
theorem dX11_many_134 : decode cX11_many 134 = .ok (.getfield 218, 3) := by decide +kernel
theorem dX11_many_137 : decode cX11_many 137 = .ok (.invokevirtual 105, 3) := by decide +kernel
theorem dX11_many_140 : decode cX11_many 140 = .ok (.ireturn, 1) := by decide +kernel
theorem dX11_many_141 : decode cX11_many 141 = .ok (.aload_n 0, 1) := by decide +kernel
theorem dX11_many_142 : decode cX11_many 142 = .ok (.aload_n 2, 1) := by decide +kernel
theorem dX11_many_143 : decode cX11_many 143 = .ok (.getfield 221, 3) := by decide +kernel
theorem dX11_many_146 : decode cX11_many 146 = .ok (.invokevirtual 105, 3) := by decide +kernel
theorem dX11_many_149 : decode cX11_many 149 = .ok (.ireturn, 1) := by decide +kernel
theorem dX11_many_150 : decode cX11_many 150 = .ok (.aload_n 0, 1) := by decide +kernel
theorem dX11_many_151 : decode cX11_many 151 = .ok (.iconst 5, 1) := by decide +kernel
theorem dX11_many_152 : decode cX11_many 152 = .ok (.invokevirtual 101, 3) := by decide +kernel
theorem dX11_many_155 : decode cX11_many 155 = .ok (.ireturn, 1) := by decide +kernel
theorem dX11_cell_0 : decode cX11_cell 0 = .ok (.aload_n 0, 1) := by decide +kernel
theorem dX11_cell_1 : decode cX11_cell 1 = .ok (.getfield 58, 3) := by decide +kernel
theorem dX11_cell_4 : decode cX11_cell 4 = .ok (.iload_n 1, 1) := by decide +kernel
theorem dX11_cell_5 : decode cX11_cell 5 = .ok (.invokevirtual 224, 3) := by decide +kernel
theorem dX11_cell_8 : decode cX11_cell 8 = .ok (.ifCond .ne 9, 3) := by decide +kernel
theorem dX11_cell_11 : decode cX11_cell 11 = .ok (.aload_n 0, 1) := by decide +kernel
theorem dX11_cell_12 : decode cX11_cell 12 = .ok (.iconst 2, 1) := by decide +kernel
theorem dX11_cell_13 : decode cX11_cell 13 = .ok (.invokevirtual 101, 3) := by decide +kernel
theorem dX11_cell_16 : decode cX11_cell 16 = .ok (.ireturn, 1) := by decide +kernel
theorem dX11_cell_17 : decode cX11_cell 17 = .ok (.iload_n 2, 1) := by decide +kernel
theorem dX11_cell_18 : decode cX11_cell 18 = .ok (.tableswitch 150 0 5 #[38, 52, 76, 100, 117, 133], 38) := by decide +kernel
theorem dX11_cell_56 : decode cX11_cell 56 = .ok (.aload_n 0, 1) := by decide +kernel
theorem dX11_cell_57 : decode cX11_cell 57 = .ok (.aload_n 0, 1) := by decide +kernel
theorem dX11_cell_58 : decode cX11_cell 58 = .ok (.getfield 58, 3) := by decide +kernel
theorem dX11_cell_61 : decode cX11_cell 61 = .ok (.getfield 227, 3) := by decide +kernel
theorem dX11_cell_64 : decode cX11_cell 64 = .ok (.iload_n 1, 1) := by decide +kernel
theorem dX11_cell_65 : decode cX11_cell 65 = .ok (.iaload, 1) := by decide +kernel
theorem dX11_cell_66 : decode cX11_cell 66 = .ok (.invokevirtual 105, 3) := by decide +kernel
theorem dX11_cell_69 : decode cX11_cell 69 = .ok (.ireturn, 1) := by decide +kernel
theorem dX11_cell_70 : decode cX11_cell 70 = .ok (.aload_n 0, 1) := by decide +kernel
theorem dX11_cell_71 : decode cX11_cell 71 = .ok (.aload_n 0, 1) := by decide +kernel
theorem dX11_cell_72 : decode cX11_cell 72 = .ok (.getfield 58, 3) := by decide +kernel
theorem dX11_cell_75 : decode cX11_cell 75 = .ok (.getfield 230, 3) := by decide +kernel
theorem dX11_cell_78 : decode cX11_cell 78 = .ok (.iload_n 1, 1) := by decide +kernel
theorem dX11_cell_79 : decode cX11_cell 79 = .ok (.invokestatic 233, 3) := by decide +kernel
theorem dX11_cell_82 : decode cX11_cell 82 = .ok (.ifCond .eq 7, 3) := by decide +kernel
theorem dX11_cell_85 : decode cX11_cell 85 = .ok (.iconst 1, 1) := by decide +kernel
theorem dX11_cell_86 : decode cX11_cell 86 = .ok (.goto 4, 3) := by decide +kernel
theorem dX11_cell_89 : decode cX11_cell 89 = .ok (.iconst 0, 1) := by decide +kernel
theorem dX11_cell_90 : decode cX11_cell 90 = .ok (.invokevirtual 105, 3) := by decide +kernel
theorem dX11_cell_93 : decode cX11_cell 93 = .ok (.ireturn, 1) := by decide +kernel
theorem dX11_cell_94 : decode cX11_cell 94 = .ok (.aload_n 0, 1) := by decide +kernel
theorem dX11_cell_95 : decode cX11_cell 95 = .ok (.aload_n 0, 1) := by decide +kernel
theorem dX11_cell_96 : decode cX11_cell 96 = .ok (.getfield 58, 3) := by decide +kernel
theorem dX11_cell_99 : decode cX11_cell 99 = .ok (.getfield 237, 3) := by decide +kernel
theorem dX11_cell_102 : decode cX11_cell 102 = .ok (.iload_n 1, 1) := by decide +kernel
theorem dX11_cell_103 : decode cX11_cell 103 = .ok (.invokestatic 233, 3) := by decide +kernel
theorem dX11_cell_106 : decode cX11_cell 106 = .ok (.ifCond .eq 7, 3) := by decide +kernel
theorem dX11_cell_109 : decode cX11_cell 109 = .ok (.iconst 1, 1) := by decide +kernel
theorem dX11_cell_110 : decode cX11_cell 110 = .ok (.goto 4, 3) := by decide +kernel
theorem dX11_cell_113 : decode cX11_cell 113 = .ok (.iconst 0, 1) := by decide +kernel
theorem dX11_cell_114 : decode cX11_cell 114 = .ok (.invokevirtual 105, 3) := by decide +kernel
theorem dX11_cell_117 : decode cX11_cell 117 = .ok (.ireturn, 1) := by decide +kernel
theorem dX11_cell_118 : decode cX11_cell 118 = .ok (.aload_n 0, 1) := by decide +kernel
theorem dX11_cell_119 : decode cX11_cell 119 = .ok (.aload_n 0, 1) := by decide +kernel
theorem dX11_cell_120 : decode cX11_cell 120 = .ok (.getfield 58, 3) := by decide +kernel
theorem dX11_cell_123 : decode cX11_cell 123 = .ok (.getfield 193, 3) := by decide +kernel
theorem dX11_cell_126 : decode cX11_cell 126 = .ok (.getfield 240, 3) := by decide +kernel
theorem dX11_cell_129 : decode cX11_cell 129 = .ok (.iload_n 1, 1) := by decide +kernel
theorem dX11_cell_130 : decode cX11_cell 130 = .ok (.iaload, 1) := by decide +kernel
theorem dX11_cell_131 : decode cX11_cell 131 = .ok (.invokevirtual 105, 3) := by decide +kernel
theorem dX11_cell_134 : decode cX11_cell 134 = .ok (.ireturn, 1) := by decide +kernel
theorem dX11_cell_135 : decode cX11_cell 135 = .ok (.aload_n 0, 1) := by decide +kernel
theorem dX11_cell_136 : decode cX11_cell 136 = .ok (.aload_n 0, 1) := by decide +kernel
theorem dX11_cell_137 : decode cX11_cell 137 = .ok (.getfield 58, 3) := by decide +kernel
theorem dX11_cell_140 : decode cX11_cell 140 = .ok (.getfield 193, 3) := by decide +kernel
theorem dX11_cell_143 : decode cX11_cell 143 = .ok (.iload_n 1, 1) := by decide +kernel
theorem dX11_cell_144 : decode cX11_cell 144 = .ok (.invokevirtual 243, 3) := by decide +kernel
theorem dX11_cell_147 : decode cX11_cell 147 = .ok (.invokevirtual 246, 3) := by decide +kernel
theorem dX11_cell_150 : decode cX11_cell 150 = .ok (.ireturn, 1) := by decide +kernel
theorem dX11_cell_151 : decode cX11_cell 151 = .ok (.aload_n 0, 1) := by decide +kernel
theorem dX11_cell_152 : decode cX11_cell 152 = .ok (.aload_n 0, 1) := by decide +kernel
theorem dX11_cell_153 : decode cX11_cell 153 = .ok (.getfield 58, 3) := by decide +kernel
theorem dX11_cell_156 : decode cX11_cell 156 = .ok (.getfield 193, 3) := by decide +kernel
theorem dX11_cell_159 : decode cX11_cell 159 = .ok (.getfield 249, 3) := by decide +kernel
theorem dX11_cell_162 : decode cX11_cell 162 = .ok (.iload_n 1, 1) := by decide +kernel
theorem dX11_cell_163 : decode cX11_cell 163 = .ok (.iaload, 1) := by decide +kernel
theorem dX11_cell_164 : decode cX11_cell 164 = .ok (.invokevirtual 105, 3) := by decide +kernel
theorem dX11_cell_167 : decode cX11_cell 167 = .ok (.ireturn, 1) := by decide +kernel
theorem dX11_cell_168 : decode cX11_cell 168 = .ok (.aload_n 0, 1) := by decide +kernel
theorem dX11_cell_169 : decode cX11_cell 169 = .ok (.iconst 5, 1) := by decide +kernel
theorem dX11_cell_170 : decode cX11_cell 170 = .ok (.invokevirtual 101, 3) := by decide +kernel
theorem dX11_cell_173 : decode cX11_cell 173 = .ok (.ireturn, 1) := by decide +kernel
theorem dX11_page_0 : decode cX11_page 0 = .ok (.aload_n 0, 1) := by decide +kernel
theorem dX11_page_1 : decode cX11_page 1 = .ok (.getfield 58, 3) := by decide +kernel
theorem dX11_page_4 : decode cX11_page 4 = .ok (.iload_n 1, 1) := by decide +kernel
theorem dX11_page_5 : decode cX11_page 5 = .ok (.invokevirtual 258, 3) := by decide +kernel
theorem dX11_page_8 : decode cX11_page 8 = .ok (.ifCond .ne 9, 3) := by decide +kernel
theorem dX11_page_11 : decode cX11_page 11 = .ok (.aload_n 0, 1) := by decide +kernel
theorem dX11_page_12 : decode cX11_page 12 = .ok (.iconst 2, 1) := by decide +kernel
theorem dX11_page_13 : decode cX11_page 13 = .ok (.invokevirtual 101, 3) := by decide +kernel
theorem dX11_page_16 : decode cX11_page 16 = .ok (.ireturn, 1) := by decide +kernel
theorem dX11_page_17 : decode cX11_page 17 = .ok (.iload_n 2, 1) := by decide +kernel
theorem dX11_page_18 : decode cX11_page 18 = .ok (.tableswitch 98 0 3 #[30, 44, 61, 81], 30) := by decide +kernel
theorem dX11_page_48 : decode cX11_page 48 = .ok (.aload_n 0, 1) := by decide +kernel
theorem dX11_page_49 : decode cX11_page 49 = .ok (.aload_n 0, 1) := by decide +kernel
theorem dX11_page_50 : decode cX11_page 50 = .ok (.getfield 58, 3) := by decide +kernel
theorem dX11_page_53 : decode cX11_page 53 = .ok (.getfield 261, 3) := by decide +kernel
theorem dX11_page_56 : decode cX11_page 56 = .ok (.iload_n 1, 1) := by decide +kernel
theorem dX11_page_57 : decode cX11_page 57 = .ok (.iaload, 1) := by decide +kernel
theorem dX11_page_58 : decode cX11_page 58 = .ok (.invokevirtual 105, 3) := by decide +kernel
theorem dX11_page_61 : decode cX11_page 61 = .ok (.ireturn, 1) := by decide +kernel
theorem dX11_page_62 : decode cX11_page 62 = .ok (.aload_n 0, 1) := by decide +kernel
theorem dX11_page_63 : decode cX11_page 63 = .ok (.aload_n 0, 1) := by decide +kernel
theorem dX11_page_64 : decode cX11_page 64 = .ok (.getfield 58, 3) := by decide +kernel
theorem dX11_page_67 : decode cX11_page 67 = .ok (.getfield 193, 3) := by decide +kernel
theorem dX11_page_70 : decode cX11_page 70 = .ok (.getfield 264, 3) := by decide +kernel
theorem dX11_page_73 : decode cX11_page 73 = .ok (.iload_n 1, 1) := by decide +kernel
theorem dX11_page_74 : decode cX11_page 74 = .ok (.iaload, 1) := by decide +kernel
theorem dX11_page_75 : decode cX11_page 75 = .ok (.invokevirtual 105, 3) := by decide +kernel
theorem dX11_page_78 : decode cX11_page 78 = .ok (.ireturn, 1) := by decide +kernel
theorem dX11_page_79 : decode cX11_page 79 = .ok (.aload_n 0, 1) := by decide +kernel
theorem dX11_page_80 : decode cX11_page 80 = .ok (.aload_n 0, 1) := by decide +kernel
theorem dX11_page_81 : decode cX11_page 81 = .ok (.getfield 58, 3) := by decide +kernel
theorem dX11_page_84 : decode cX11_page 84 = .ok (.getfield 193, 3) := by decide +kernel
theorem dX11_page_87 : decode cX11_page 87 = .ok (.aload_n 0, 1) := by decide +kernel
theorem dX11_page_88 : decode cX11_page 88 = .ok (.getfield 58, 3) := by decide +kernel
theorem dX11_page_91 : decode cX11_page 91 = .ok (.iload_n 1, 1) := by decide +kernel
theorem dX11_page_92 : decode cX11_page 92 = .ok (.invokevirtual 267, 3) := by decide +kernel
theorem dX11_page_95 : decode cX11_page 95 = .ok (.invokevirtual 105, 3) := by decide +kernel
theorem dX11_page_98 : decode cX11_page 98 = .ok (.ireturn, 1) := by decide +kernel
theorem dX11_page_99 : decode cX11_page 99 = .ok (.aload_n 0, 1) := by decide +kernel
theorem dX11_page_100 : decode cX11_page 100 = .ok (.aload_n 0, 1) := by decide +kernel
theorem dX11_page_101 : decode cX11_page 101 = .ok (.getfield 58, 3) := by decide +kernel
theorem dX11_page_104 : decode cX11_page 104 = .ok (.getfield 193, 3) := by decide +kernel
theorem dX11_page_107 : decode cX11_page 107 = .ok (.getfield 271, 3) := by decide +kernel
theorem dX11_page_110 : decode cX11_page 110 = .ok (.iload_n 1, 1) := by decide +kernel
theorem dX11_page_111 : decode cX11_page 111 = .ok (.iaload, 1) := by decide +kernel
theorem dX11_page_112 : decode cX11_page 112 = .ok (.invokevirtual 105, 3) := by decide +kernel
theorem dX11_page_115 : decode cX11_page 115 = .ok (.ireturn, 1) := by decide +kernel
theorem dX11_page_116 : decode cX11_page 116 = .ok (.aload_n 0, 1) := by decide +kernel
theorem dX11_page_117 : decode cX11_page 117 = .ok (.iconst 5, 1) := by decide +kernel
theorem dX11_page_118 : decode cX11_page 118 = .ok (.invokevirtual 101, 3) := by decide +kernel
theorem dX11_page_121 : decode cX11_page 121 = .ok (.ireturn, 1) := by decide +kernel
theorem dX11_pricks_0 : decode cX11_pricks 0 = .ok (.aload_n 0, 1) := by decide +kernel
theorem dX11_pricks_1 : decode cX11_pricks 1 = .ok (.getfield 58, 3) := by decide +kernel
theorem dX11_pricks_4 : decode cX11_pricks 4 = .ok (.iload_n 1, 1) := by decide +kernel
theorem dX11_pricks_5 : decode cX11_pricks 5 = .ok (.invokevirtual 258, 3) := by decide +kernel
theorem dX11_pricks_8 : decode cX11_pricks 8 = .ok (.ifCond .eq 14, 3) := by decide +kernel
theorem dX11_pricks_11 : decode cX11_pricks 11 = .ok (.aload_n 0, 1) := by decide +kernel
theorem dX11_pricks_12 : decode cX11_pricks 12 = .ok (.getfield 58, 3) := by decide +kernel
theorem dX11_pricks_15 : decode cX11_pricks 15 = .ok (.iload_n 2, 1) := by decide +kernel
theorem dX11_pricks_16 : decode cX11_pricks 16 = .ok (.invokevirtual 252, 3) := by decide +kernel
theorem dX11_pricks_19 : decode cX11_pricks 19 = .ok (.ifCond .ne 9, 3) := by decide +kernel
theorem dX11_pricks_22 : decode cX11_pricks 22 = .ok (.aload_n 0, 1) := by decide +kernel
theorem dX11_pricks_23 : decode cX11_pricks 23 = .ok (.iconst 2, 1) := by decide +kernel
theorem dX11_pricks_24 : decode cX11_pricks 24 = .ok (.invokevirtual 101, 3) := by decide +kernel
theorem dX11_pricks_27 : decode cX11_pricks 27 = .ok (.ireturn, 1) := by decide +kernel
theorem dX11_pricks_28 : decode cX11_pricks 28 = .ok (.aload_n 0, 1) := by decide +kernel
theorem dX11_pricks_29 : decode cX11_pricks 29 = .ok (.aload_n 0, 1) := by decide +kernel
theorem dX11_pricks_30 : decode cX11_pricks 30 = .ok (.getfield 58, 3) := by decide +kernel
theorem dX11_pricks_33 : decode cX11_pricks 33 = .ok (.getfield 193, 3) := by decide +kernel
theorem dX11_pricks_36 : decode cX11_pricks 36 = .ok (.getfield 274, 3) := by decide +kernel
theorem dX11_pricks_39 : decode cX11_pricks 39 = .ok (.iload_n 1, 1) := by decide +kernel
theorem dX11_pricks_40 : decode cX11_pricks 40 = .ok (.bipush 6, 2) := by decide +kernel
theorem dX11_pricks_42 : decode cX11_pricks 42 = .ok (.imul, 1) := by decide +kernel
theorem dX11_pricks_43 : decode cX11_pricks 43 = .ok (.iload_n 2, 1) := by decide +kernel
theorem dX11_pricks_44 : decode cX11_pricks 44 = .ok (.iadd, 1) := by decide +kernel
theorem dX11_pricks_45 : decode cX11_pricks 45 = .ok (.iaload, 1) := by decide +kernel
theorem dX11_pricks_46 : decode cX11_pricks 46 = .ok (.invokevirtual 105, 3) := by decide +kernel
theorem dX11_pricks_49 : decode cX11_pricks 49 = .ok (.ireturn, 1) := by decide +kernel
theorem dX11_orderAt_0 : decode cX11_orderAt 0 = .ok (.iload_n 1, 1) := by decide +kernel
theorem dX11_orderAt_1 : decode cX11_orderAt 1 = .ok (.ifCond .lt 17, 3) := by decide +kernel
theorem dX11_orderAt_4 : decode cX11_orderAt 4 = .ok (.iload_n 1, 1) := by decide +kernel
theorem dX11_orderAt_5 : decode cX11_orderAt 5 = .ok (.aload_n 0, 1) := by decide +kernel
theorem dX11_orderAt_6 : decode cX11_orderAt 6 = .ok (.getfield 58, 3) := by decide +kernel
theorem dX11_orderAt_9 : decode cX11_orderAt 9 = .ok (.getfield 193, 3) := by decide +kernel
theorem dX11_orderAt_12 : decode cX11_orderAt 12 = .ok (.getfield 203, 3) := by decide +kernel
theorem dX11_orderAt_15 : decode cX11_orderAt 15 = .ok (.if_icmp .lt 10, 3) := by decide +kernel
theorem dX11_orderAt_18 : decode cX11_orderAt 18 = .ok (.aload_n 0, 1) := by decide +kernel
theorem dX11_orderAt_19 : decode cX11_orderAt 19 = .ok (.bipush 8, 2) := by decide +kernel
theorem dX11_orderAt_21 : decode cX11_orderAt 21 = .ok (.invokevirtual 101, 3) := by decide +kernel
theorem dX11_orderAt_24 : decode cX11_orderAt 24 = .ok (.ireturn, 1) := by decide +kernel
theorem dX11_orderAt_25 : decode cX11_orderAt 25 = .ok (.aload_n 0, 1) := by decide +kernel
theorem dX11_orderAt_26 : decode cX11_orderAt 26 = .ok (.aload_n 0, 1) := by decide +kernel
theorem dX11_orderAt_27 : decode cX11_orderAt 27 = .ok (.getfield 58, 3) := by decide +kernel
theorem dX11_orderAt_30 : decode cX11_orderAt 30 = .ok (.getfield 193, 3) := by decide +kernel
theorem dX11_orderAt_33 : decode cX11_orderAt 33 = .ok (.getfield 277, 3) := by decide +kernel
theorem dX11_orderAt_36 : decode cX11_orderAt 36 = .ok (.iload_n 1, 1) := by decide +kernel
theorem dX11_orderAt_37 : decode cX11_orderAt 37 = .ok (.iaload, 1) := by decide +kernel
theorem dX11_orderAt_38 : decode cX11_orderAt 38 = .ok (.invokevirtual 105, 3) := by decide +kernel
theorem dX11_orderAt_41 : decode cX11_orderAt 41 = .ok (.ireturn, 1) := by decide +kernel
theorem dX11_next_0 : decode cX11_next 0 = .ok (.aload_n 0, 1) := by decide +kernel
theorem dX11_next_1 : decode cX11_next 1 = .ok (.getfield 58, 3) := by decide +kernel
theorem dX11_next_4 : decode cX11_next 4 = .ok (.getfield 193, 3) := by decide +kernel
theorem dX11_next_7 : decode cX11_next 7 = .ok (.invokevirtual 280, 3) := by decide +kernel
theorem dX11_next_10 : decode cX11_next 10 = .ok (.istore_n 1, 1) := by decide +kernel
theorem dX11_next_11 : decode cX11_next 11 = .ok (.iload_n 1, 1) := by decide +kernel
theorem dX11_next_12 : decode cX11_next 12 = .ok (.iconst (-1), 1) := by decide +kernel
theorem dX11_next_13 : decode cX11_next 13 = .ok (.if_icmp .ne 12, 3) := by decide +kernel
theorem dX11_next_16 : decode cX11_next 16 = .ok (.aload_n 0, 1) := by decide +kernel
theorem dX11_next_17 : decode cX11_next 17 = .ok (.bipush 8, 2) := by decide +kernel
theorem dX11_next_19 : decode cX11_next 19 = .ok (.invokevirtual 101, 3) := by decide +kernel
theorem dX11_next_22 : decode cX11_next 22 = .ok (.goto 19, 3) := by decide +kernel
theorem dX11_next_25 : decode cX11_next 25 = .ok (.aload_n 0, 1) := by decide +kernel
theorem dX11_next_26 : decode cX11_next 26 = .ok (.aload_n 0, 1) := by decide +kernel
theorem dX11_next_27 : decode cX11_next 27 = .ok (.getfield 58, 3) := by decide +kernel
theorem dX11_next_30 : decode cX11_next 30 = .ok (.getfield 193, 3) := by decide +kernel
theorem dX11_next_33 : decode cX11_next 33 = .ok (.getfield 277, 3) := by decide +kernel
theorem dX11_next_36 : decode cX11_next 36 = .ok (.iload_n 1, 1) := by decide +kernel
theorem dX11_next_37 : decode cX11_next 37 = .ok (.iaload, 1) := by decide +kernel
theorem dX11_next_38 : decode cX11_next 38 = .ok (.invokevirtual 105, 3) := by decide +kernel
theorem dX11_next_41 : decode cX11_next 41 = .ok (.ireturn, 1) := by decide +kernel
theorem dX11_turn_0 : decode cX11_turn 0 = .ok (.iload_n 1, 1) := by decide +kernel
theorem dX11_turn_1 : decode cX11_turn 1 = .ok (.iconst 1, 1) := by decide +kernel
theorem dX11_turn_2 : decode cX11_turn 2 = .ok (.if_icmp .lt 9, 3) := by decide +kernel
theorem dX11_turn_5 : decode cX11_turn 5 = .ok (.iload_n 1, 1) := by decide +kernel
theorem dX11_turn_6 : decode cX11_turn 6 = .ok (.bipush 99, 2) := by decide +kernel
theorem dX11_turn_8 : decode cX11_turn 8 = .ok (.if_icmp .le 9, 3) := by decide +kernel
theorem dX11_turn_11 : decode cX11_turn 11 = .ok (.aload_n 0, 1) := by decide +kernel
theorem dX11_turn_12 : decode cX11_turn 12 = .ok (.iconst 5, 1) := by decide +kernel
theorem dX11_turn_13 : decode cX11_turn 13 = .ok (.invokevirtual 101, 3) := by decide +kernel
theorem dX11_turn_16 : decode cX11_turn 16 = .ok (.ireturn, 1) := by decide +kernel
theorem dX11_turn_17 : decode cX11_turn 17 = .ok (.aload_n 0, 1) := by decide +kernel
theorem dX11_turn_18 : decode cX11_turn 18 = .ok (.getfield 58, 3) := by decide +kernel
theorem dX11_turn_21 : decode cX11_turn 21 = .ok (.getfield 193, 3) := by decide +kernel
theorem dX11_turn_24 : decode cX11_turn 24 = .ok (.getfield 208, 3) := by decide +kernel
theorem dX11_turn_27 : decode cX11_turn 27 = .ok (.iload_n 1, 1) := by decide +kernel
theorem dX11_turn_28 : decode cX11_turn 28 = .ok (.iadd, 1) := by decide +kernel
theorem dX11_turn_29 : decode cX11_turn 29 = .ok (.sipush 9999, 3) := by decide +kernel
theorem dX11_turn_32 : decode cX11_turn 32 = .ok (.if_icmp .le 10, 3) := by decide +kernel
theorem dX11_turn_35 : decode cX11_turn 35 = .ok (.aload_n 0, 1) := by decide +kernel
theorem dX11_turn_36 : decode cX11_turn 36 = .ok (.bipush 7, 2) := by decide +kernel
theorem dX11_turn_38 : decode cX11_turn 38 = .ok (.invokevirtual 101, 3) := by decide +kernel
theorem dX11_turn_41 : decode cX11_turn 41 = .ok (.ireturn, 1) := by decide +kernel
theorem dX11_turn_42 : decode cX11_turn 42 = .ok (.aload_n 0, 1) := by decide +kernel
theorem dX11_turn_43 : decode cX11_turn 43 = .ok (.getfield 58, 3) := by decide +kernel
theorem dX11_turn_46 : decode cX11_turn 46 = .ok (.getfield 193, 3) := by decide +kernel
theorem dX11_turn_49 : decode cX11_turn 49 = .ok (.aload_n 0, 1) := by decide +kernel
theorem dX11_turn_50 : decode cX11_turn 50 = .ok (.getfield 58, 3) := by decide +kernel
theorem dX11_turn_53 : decode cX11_turn 53 = .ok (.iload_n 1, 1) := by decide +kernel
theorem dX11_turn_54 : decode cX11_turn 54 = .ok (.invokevirtual 292, 3) := by decide +kernel
theorem dX11_turn_57 : decode cX11_turn 57 = .ok (.aload_n 0, 1) := by decide +kernel
theorem dX11_turn_58 : decode cX11_turn 58 = .ok (.aload_n 0, 1) := by decide +kernel
theorem dX11_turn_59 : decode cX11_turn 59 = .ok (.getfield 58, 3) := by decide +kernel
theorem dX11_turn_62 : decode cX11_turn 62 = .ok (.getfield 193, 3) := by decide +kernel
theorem dX11_turn_65 : decode cX11_turn 65 = .ok (.getfield 208, 3) := by decide +kernel
theorem dX11_turn_68 : decode cX11_turn 68 = .ok (.invokevirtual 105, 3) := by decide +kernel
theorem dX11_turn_71 : decode cX11_turn 71 = .ok (.ireturn, 1) := by decide +kernel
theorem dX11_rub_0 : decode cX11_rub 0 = .ok (.aload_n 0, 1) := by decide +kernel
theorem dX11_rub_1 : decode cX11_rub 1 = .ok (.getfield 58, 3) := by decide +kernel
theorem dX11_rub_4 : decode cX11_rub 4 = .ok (.iload_n 1, 1) := by decide +kernel
theorem dX11_rub_5 : decode cX11_rub 5 = .ok (.invokevirtual 258, 3) := by decide +kernel
theorem dX11_rub_8 : decode cX11_rub 8 = .ok (.ifCond .ne 9, 3) := by decide +kernel
theorem dX11_rub_11 : decode cX11_rub 11 = .ok (.aload_n 0, 1) := by decide +kernel
theorem dX11_rub_12 : decode cX11_rub 12 = .ok (.iconst 2, 1) := by decide +kernel
theorem dX11_rub_13 : decode cX11_rub 13 = .ok (.invokevirtual 101, 3) := by decide +kernel
theorem dX11_rub_16 : decode cX11_rub 16 = .ok (.ireturn, 1) := by decide +kernel
theorem dX11_rub_17 : decode cX11_rub 17 = .ok (.aload_n 0, 1) := by decide +kernel
theorem dX11_rub_18 : decode cX11_rub 18 = .ok (.getfield 58, 3) := by decide +kernel
theorem dX11_rub_21 : decode cX11_rub 21 = .ok (.getfield 193, 3) := by decide +kernel
theorem dX11_rub_24 : decode cX11_rub 24 = .ok (.iload_n 1, 1) := by decide +kernel
theorem dX11_rub_25 : decode cX11_rub 25 = .ok (.invokevirtual 296, 3) := by decide +kernel
theorem dX11_rub_28 : decode cX11_rub 28 = .ok (.istore_n 2, 1) := by decide +kernel
theorem dX11_rub_29 : decode cX11_rub 29 = .ok (.iload_n 2, 1) := by decide +kernel
theorem dX11_rub_30 : decode cX11_rub 30 = .ok (.ifCond .ne 12, 3) := by decide +kernel
theorem dX11_rub_33 : decode cX11_rub 33 = .ok (.aload_n 0, 1) := by decide +kernel
theorem dX11_rub_34 : decode cX11_rub 34 = .ok (.bipush 8, 2) := by decide +kernel
theorem dX11_rub_36 : decode cX11_rub 36 = .ok (.invokevirtual 101, 3) := by decide +kernel
theorem dX11_rub_39 : decode cX11_rub 39 = .ok (.goto 8, 3) := by decide +kernel
theorem dX11_rub_42 : decode cX11_rub 42 = .ok (.aload_n 0, 1) := by decide +kernel
theorem dX11_rub_43 : decode cX11_rub 43 = .ok (.iload_n 2, 1) := by decide +kernel
theorem dX11_rub_44 : decode cX11_rub 44 = .ok (.invokevirtual 105, 3) := by decide +kernel
theorem dX11_rub_47 : decode cX11_rub 47 = .ok (.ireturn, 1) := by decide +kernel
theorem dX11_damp_0 : decode cX11_damp 0 = .ok (.aload_n 0, 1) := by decide +kernel
theorem dX11_damp_1 : decode cX11_damp 1 = .ok (.getfield 58, 3) := by decide +kernel
theorem dX11_damp_4 : decode cX11_damp 4 = .ok (.iload_n 1, 1) := by decide +kernel
theorem dX11_damp_5 : decode cX11_damp 5 = .ok (.invokevirtual 258, 3) := by decide +kernel
theorem dX11_damp_8 : decode cX11_damp 8 = .ok (.ifCond .ne 9, 3) := by decide +kernel
theorem dX11_damp_11 : decode cX11_damp 11 = .ok (.aload_n 0, 1) := by decide +kernel
theorem dX11_damp_12 : decode cX11_damp 12 = .ok (.iconst 2, 1) := by decide +kernel
theorem dX11_damp_13 : decode cX11_damp 13 = .ok (.invokevirtual 112, 3) := by decide +kernel
theorem dX11_damp_16 : decode cX11_damp 16 = .ok (.ireturn, 1) := by decide +kernel
theorem dX11_damp_17 : decode cX11_damp 17 = .ok (.aload_n 0, 1) := by decide +kernel
theorem dX11_damp_18 : decode cX11_damp 18 = .ok (.getfield 58, 3) := by decide +kernel
theorem dX11_damp_21 : decode cX11_damp 21 = .ok (.getfield 193, 3) := by decide +kernel
theorem dX11_damp_24 : decode cX11_damp 24 = .ok (.getfield 221, 3) := by decide +kernel
theorem dX11_damp_27 : decode cX11_damp 27 = .ok (.iload_n 1, 1) := by decide +kernel
theorem dX11_damp_28 : decode cX11_damp 28 = .ok (.invokestatic 233, 3) := by decide +kernel
theorem dX11_damp_31 : decode cX11_damp 31 = .ok (.iload_n 2, 1) := by decide +kernel
theorem dX11_damp_32 : decode cX11_damp 32 = .ok (.if_icmp .ne 10, 3) := by decide +kernel
theorem dX11_damp_35 : decode cX11_damp 35 = .ok (.aload_n 0, 1) := by decide +kernel
theorem dX11_damp_36 : decode cX11_damp 36 = .ok (.bipush 9, 2) := by decide +kernel
theorem dX11_damp_38 : decode cX11_damp 38 = .ok (.invokevirtual 112, 3) := by decide +kernel
theorem dX11_damp_41 : decode cX11_damp 41 = .ok (.ireturn, 1) := by decide +kernel
theorem dX11_damp_42 : decode cX11_damp 42 = .ok (.aload_n 0, 1) := by decide +kernel
theorem dX11_damp_43 : decode cX11_damp 43 = .ok (.getfield 58, 3) := by decide +kernel
theorem dX11_damp_46 : decode cX11_damp 46 = .ok (.getfield 193, 3) := by decide +kernel
theorem dX11_damp_49 : decode cX11_damp 49 = .ok (.dup, 1) := by decide +kernel
theorem dX11_damp_50 : decode cX11_damp 50 = .ok (.getfield 221, 3) := by decide +kernel
theorem dX11_damp_53 : decode cX11_damp 53 = .ok (.iconst 1, 1) := by decide +kernel
theorem dX11_damp_54 : decode cX11_damp 54 = .ok (.iload_n 1, 1) := by decide +kernel
theorem dX11_damp_55 : decode cX11_damp 55 = .ok (.ishl, 1) := by decide +kernel
theorem dX11_damp_56 : decode cX11_damp 56 = .ok (.ixor, 1) := by decide +kernel
theorem dX11_damp_57 : decode cX11_damp 57 = .ok (.putfield 221, 3) := by decide +kernel
theorem dX11_damp_60 : decode cX11_damp 60 = .ok (.aload_n 0, 1) := by decide +kernel
theorem dX11_damp_61 : decode cX11_damp 61 = .ok (.invokevirtual 119, 3) := by decide +kernel
theorem dX11_damp_64 : decode cX11_damp 64 = .ok (.ireturn, 1) := by decide +kernel
theorem dX11_ill_0 : decode cX11_ill 0 = .ok (.aload_n 0, 1) := by decide +kernel
theorem dX11_ill_1 : decode cX11_ill 1 = .ok (.getfield 58, 3) := by decide +kernel
theorem dX11_ill_4 : decode cX11_ill 4 = .ok (.iload_n 1, 1) := by decide +kernel
theorem dX11_ill_5 : decode cX11_ill 5 = .ok (.invokevirtual 224, 3) := by decide +kernel
theorem dX11_ill_8 : decode cX11_ill 8 = .ok (.ifCond .ne 9, 3) := by decide +kernel
theorem dX11_ill_11 : decode cX11_ill 11 = .ok (.aload_n 0, 1) := by decide +kernel
theorem dX11_ill_12 : decode cX11_ill 12 = .ok (.iconst 2, 1) := by decide +kernel
theorem dX11_ill_13 : decode cX11_ill 13 = .ok (.invokevirtual 112, 3) := by decide +kernel
theorem dX11_ill_16 : decode cX11_ill 16 = .ok (.ireturn, 1) := by decide +kernel
theorem dX11_ill_17 : decode cX11_ill 17 = .ok (.aload_n 0, 1) := by decide +kernel
theorem dX11_ill_18 : decode cX11_ill 18 = .ok (.getfield 58, 3) := by decide +kernel
theorem dX11_ill_21 : decode cX11_ill 21 = .ok (.getfield 193, 3) := by decide +kernel
theorem dX11_ill_24 : decode cX11_ill 24 = .ok (.getfield 218, 3) := by decide +kernel
theorem dX11_ill_27 : decode cX11_ill 27 = .ok (.iload_n 1, 1) := by decide +kernel
theorem dX11_ill_28 : decode cX11_ill 28 = .ok (.invokestatic 233, 3) := by decide +kernel
theorem dX11_ill_31 : decode cX11_ill 31 = .ok (.iload_n 2, 1) := by decide +kernel
theorem dX11_ill_32 : decode cX11_ill 32 = .ok (.if_icmp .ne 10, 3) := by decide +kernel
theorem dX11_ill_35 : decode cX11_ill 35 = .ok (.aload_n 0, 1) := by decide +kernel
theorem dX11_ill_36 : decode cX11_ill 36 = .ok (.bipush 9, 2) := by decide +kernel
theorem dX11_ill_38 : decode cX11_ill 38 = .ok (.invokevirtual 112, 3) := by decide +kernel
theorem dX11_ill_41 : decode cX11_ill 41 = .ok (.ireturn, 1) := by decide +kernel
theorem dX11_ill_42 : decode cX11_ill 42 = .ok (.aload_n 0, 1) := by decide +kernel
theorem dX11_ill_43 : decode cX11_ill 43 = .ok (.getfield 58, 3) := by decide +kernel
theorem dX11_ill_46 : decode cX11_ill 46 = .ok (.getfield 193, 3) := by decide +kernel
theorem dX11_ill_49 : decode cX11_ill 49 = .ok (.dup, 1) := by decide +kernel
theorem dX11_ill_50 : decode cX11_ill 50 = .ok (.getfield 218, 3) := by decide +kernel
theorem dX11_ill_53 : decode cX11_ill 53 = .ok (.iconst 1, 1) := by decide +kernel
theorem dX11_ill_54 : decode cX11_ill 54 = .ok (.iload_n 1, 1) := by decide +kernel
theorem dX11_ill_55 : decode cX11_ill 55 = .ok (.ishl, 1) := by decide +kernel
theorem dX11_ill_56 : decode cX11_ill 56 = .ok (.ixor, 1) := by decide +kernel
theorem dX11_ill_57 : decode cX11_ill 57 = .ok (.putfield 218, 3) := by decide +kernel
theorem dX11_ill_60 : decode cX11_ill 60 = .ok (.aload_n 0, 1) := by decide +kernel
theorem dX11_ill_61 : decode cX11_ill 61 = .ok (.invokevirtual 119, 3) := by decide +kernel
theorem dX11_ill_64 : decode cX11_ill 64 = .ok (.ireturn, 1) := by decide +kernel
theorem dX11_move_0 : decode cX11_move 0 = .ok (.aload_n 0, 1) := by decide +kernel
theorem dX11_move_1 : decode cX11_move 1 = .ok (.getfield 58, 3) := by decide +kernel
theorem dX11_move_4 : decode cX11_move 4 = .ok (.iload_n 1, 1) := by decide +kernel
theorem dX11_move_5 : decode cX11_move 5 = .ok (.invokevirtual 224, 3) := by decide +kernel
theorem dX11_move_8 : decode cX11_move 8 = .ok (.ifCond .eq 14, 3) := by decide +kernel
theorem dX11_move_11 : decode cX11_move 11 = .ok (.aload_n 0, 1) := by decide +kernel
theorem dX11_move_12 : decode cX11_move 12 = .ok (.getfield 58, 3) := by decide +kernel
theorem dX11_move_15 : decode cX11_move 15 = .ok (.iload_n 2, 1) := by decide +kernel
theorem dX11_move_16 : decode cX11_move 16 = .ok (.invokevirtual 224, 3) := by decide +kernel
theorem dX11_move_19 : decode cX11_move 19 = .ok (.ifCond .ne 9, 3) := by decide +kernel
theorem dX11_move_22 : decode cX11_move 22 = .ok (.aload_n 0, 1) := by decide +kernel
theorem dX11_move_23 : decode cX11_move 23 = .ok (.iconst 2, 1) := by decide +kernel
theorem dX11_move_24 : decode cX11_move 24 = .ok (.invokevirtual 112, 3) := by decide +kernel
theorem dX11_move_27 : decode cX11_move 27 = .ok (.ireturn, 1) := by decide +kernel
theorem dX11_move_28 : decode cX11_move 28 = .ok (.aload_n 0, 1) := by decide +kernel
theorem dX11_move_29 : decode cX11_move 29 = .ok (.getfield 58, 3) := by decide +kernel
theorem dX11_move_32 : decode cX11_move 32 = .ok (.getfield 193, 3) := by decide +kernel
theorem dX11_move_35 : decode cX11_move 35 = .ok (.iload_n 1, 1) := by decide +kernel
theorem dX11_move_36 : decode cX11_move 36 = .ok (.iload_n 2, 1) := by decide +kernel
theorem dX11_move_37 : decode cX11_move 37 = .ok (.invokevirtual 299, 3) := by decide +kernel
theorem dX11_move_40 : decode cX11_move 40 = .ok (.ifCond .eq 10, 3) := by decide +kernel
theorem dX11_move_43 : decode cX11_move 43 = .ok (.aload_n 0, 1) := by decide +kernel
theorem dX11_move_44 : decode cX11_move 44 = .ok (.invokevirtual 119, 3) := by decide +kernel
theorem dX11_move_47 : decode cX11_move 47 = .ok (.goto 9, 3) := by decide +kernel
theorem dX11_move_50 : decode cX11_move 50 = .ok (.aload_n 0, 1) := by decide +kernel
theorem dX11_move_51 : decode cX11_move 51 = .ok (.bipush 9, 2) := by decide +kernel
theorem dX11_move_53 : decode cX11_move 53 = .ok (.invokevirtual 112, 3) := by decide +kernel
theorem dX11_move_56 : decode cX11_move 56 = .ok (.ireturn, 1) := by decide +kernel
theorem dX11_when_0 : decode cX11_when 0 = .ok (.aload_n 0, 1) := by decide +kernel
theorem dX11_when_1 : decode cX11_when 1 = .ok (.getfield 58, 3) := by decide +kernel
theorem dX11_when_4 : decode cX11_when 4 = .ok (.iload_n 1, 1) := by decide +kernel
theorem dX11_when_5 : decode cX11_when 5 = .ok (.invokevirtual 224, 3) := by decide +kernel
theorem dX11_when_8 : decode cX11_when 8 = .ok (.ifCond .eq 14, 3) := by decide +kernel
theorem dX11_when_11 : decode cX11_when 11 = .ok (.aload_n 0, 1) := by decide +kernel
theorem dX11_when_12 : decode cX11_when 12 = .ok (.getfield 58, 3) := by decide +kernel
theorem dX11_when_15 : decode cX11_when 15 = .ok (.iload_n 2, 1) := by decide +kernel
theorem dX11_when_16 : decode cX11_when 16 = .ok (.invokevirtual 252, 3) := by decide +kernel
theorem dX11_when_19 : decode cX11_when 19 = .ok (.ifCond .ne 9, 3) := by decide +kernel
theorem dX11_when_22 : decode cX11_when 22 = .ok (.aload_n 0, 1) := by decide +kernel
theorem dX11_when_23 : decode cX11_when 23 = .ok (.iconst 2, 1) := by decide +kernel
theorem dX11_when_24 : decode cX11_when 24 = .ok (.invokevirtual 101, 3) := by decide +kernel
theorem dX11_when_27 : decode cX11_when 27 = .ok (.ireturn, 1) := by decide +kernel
theorem dX11_when_28 : decode cX11_when 28 = .ok (.aload_n 0, 1) := by decide +kernel
theorem dX11_when_29 : decode cX11_when 29 = .ok (.aload_n 0, 1) := by decide +kernel
theorem dX11_when_30 : decode cX11_when 30 = .ok (.getfield 75, 3) := by decide +kernel
theorem dX11_when_33 : decode cX11_when 33 = .ok (.aload_n 0, 1) := by decide +kernel
theorem dX11_when_34 : decode cX11_when 34 = .ok (.getfield 58, 3) := by decide +kernel
theorem dX11_when_37 : decode cX11_when 37 = .ok (.iconst 1, 1) := by decide +kernel
theorem dX11_when_38 : decode cX11_when 38 = .ok (.iload_n 1, 1) := by decide +kernel
theorem dX11_when_39 : decode cX11_when 39 = .ok (.ishl, 1) := by decide +kernel
theorem dX11_when_40 : decode cX11_when 40 = .ok (.iconst 1, 1) := by decide +kernel
theorem dX11_when_41 : decode cX11_when 41 = .ok (.iload_n 2, 1) := by decide +kernel
theorem dX11_when_42 : decode cX11_when 42 = .ok (.ishl, 1) := by decide +kernel
theorem dX11_when_43 : decode cX11_when 43 = .ok (.invokevirtual 302, 3) := by decide +kernel
theorem dX11_when_46 : decode cX11_when 46 = .ok (.invokevirtual 246, 3) := by decide +kernel
theorem dX11_when_49 : decode cX11_when 49 = .ok (.ireturn, 1) := by decide +kernel
theorem dX11_heard_0 : decode cX11_heard 0 = .ok (.aload_n 0, 1) := by decide +kernel
theorem dX11_heard_1 : decode cX11_heard 1 = .ok (.getfield 58, 3) := by decide +kernel
theorem dX11_heard_4 : decode cX11_heard 4 = .ok (.iload_n 1, 1) := by decide +kernel
theorem dX11_heard_5 : decode cX11_heard 5 = .ok (.invokevirtual 252, 3) := by decide +kernel
theorem dX11_heard_8 : decode cX11_heard 8 = .ok (.ifCond .ne 9, 3) := by decide +kernel
theorem dX11_heard_11 : decode cX11_heard 11 = .ok (.aload_n 0, 1) := by decide +kernel
theorem dX11_heard_12 : decode cX11_heard 12 = .ok (.iconst 2, 1) := by decide +kernel
theorem dX11_heard_13 : decode cX11_heard 13 = .ok (.invokevirtual 101, 3) := by decide +kernel
theorem dX11_heard_16 : decode cX11_heard 16 = .ok (.ireturn, 1) := by decide +kernel
theorem dX11_heard_17 : decode cX11_heard 17 = .ok (.aload_n 0, 1) := by decide +kernel
theorem dX11_heard_18 : decode cX11_heard 18 = .ok (.aload_n 0, 1) := by decide +kernel
theorem dX11_heard_19 : decode cX11_heard 19 = .ok (.getfield 75, 3) := by decide +kernel
theorem dX11_heard_22 : decode cX11_heard 22 = .ok (.aload_n 0, 1) := by decide +kernel
theorem dX11_heard_23 : decode cX11_heard 23 = .ok (.getfield 58, 3) := by decide +kernel
theorem dX11_heard_26 : decode cX11_heard 26 = .ok (.aload_n 0, 1) := by decide +kernel
theorem dX11_heard_27 : decode cX11_heard 27 = .ok (.getfield 58, 3) := by decide +kernel
theorem dX11_heard_30 : decode cX11_heard 30 = .ok (.invokevirtual 306, 3) := by decide +kernel
theorem dX11_heard_33 : decode cX11_heard 33 = .ok (.iconst 1, 1) := by decide +kernel
theorem dX11_heard_34 : decode cX11_heard 34 = .ok (.iload_n 1, 1) := by decide +kernel
theorem dX11_heard_35 : decode cX11_heard 35 = .ok (.ishl, 1) := by decide +kernel
theorem dX11_heard_36 : decode cX11_heard 36 = .ok (.invokevirtual 302, 3) := by decide +kernel
theorem dX11_heard_39 : decode cX11_heard 39 = .ok (.invokevirtual 246, 3) := by decide +kernel
theorem dX11_heard_42 : decode cX11_heard 42 = .ok (.ireturn, 1) := by decide +kernel
theorem dX11_all_0 : decode cX11_all 0 = .ok (.aload_n 0, 1) := by decide +kernel
theorem dX11_all_1 : decode cX11_all 1 = .ok (.aload_n 0, 1) := by decide +kernel
theorem dX11_all_2 : decode cX11_all 2 = .ok (.getfield 75, 3) := by decide +kernel
theorem dX11_all_5 : decode cX11_all 5 = .ok (.aload_n 0, 1) := by decide +kernel
theorem dX11_all_6 : decode cX11_all 6 = .ok (.getfield 58, 3) := by decide +kernel
theorem dX11_all_9 : decode cX11_all 9 = .ok (.aload_n 0, 1) := by decide +kernel
theorem dX11_all_10 : decode cX11_all 10 = .ok (.getfield 58, 3) := by decide +kernel
theorem dX11_all_13 : decode cX11_all 13 = .ok (.invokevirtual 306, 3) := by decide +kernel
theorem dX11_all_16 : decode cX11_all 16 = .ok (.aload_n 0, 1) := by decide +kernel
theorem dX11_all_17 : decode cX11_all 17 = .ok (.getfield 58, 3) := by decide +kernel
theorem dX11_all_20 : decode cX11_all 20 = .ok (.invokevirtual 309, 3) := by decide +kernel
theorem dX11_all_23 : decode cX11_all 23 = .ok (.invokevirtual 302, 3) := by decide +kernel
theorem dX11_all_26 : decode cX11_all 26 = .ok (.invokevirtual 246, 3) := by decide +kernel
theorem dX11_all_29 : decode cX11_all 29 = .ok (.ireturn, 1) := by decide +kernel
theorem dX11_later_0 : decode cX11_later 0 = .ok (.aload_n 0, 1) := by decide +kernel
theorem dX11_later_1 : decode cX11_later 1 = .ok (.getfield 58, 3) := by decide +kernel
theorem dX11_later_4 : decode cX11_later 4 = .ok (.iload_n 1, 1) := by decide +kernel
theorem dX11_later_5 : decode cX11_later 5 = .ok (.invokevirtual 224, 3) := by decide +kernel
theorem dX11_later_8 : decode cX11_later 8 = .ok (.ifCond .ne 9, 3) := by decide +kernel
theorem dX11_later_11 : decode cX11_later 11 = .ok (.aload_n 0, 1) := by decide +kernel
theorem dX11_later_12 : decode cX11_later 12 = .ok (.iconst 2, 1) := by decide +kernel
theorem dX11_later_13 : decode cX11_later 13 = .ok (.invokevirtual 101, 3) := by decide +kernel
theorem dX11_later_16 : decode cX11_later 16 = .ok (.ireturn, 1) := by decide +kernel
theorem dX11_later_17 : decode cX11_later 17 = .ok (.iload_n 2, 1) := by decide +kernel
theorem dX11_later_18 : decode cX11_later 18 = .ok (.ifCond .lt 10, 3) := by decide +kernel
theorem dX11_later_21 : decode cX11_later 21 = .ok (.iload_n 2, 1) := by decide +kernel
theorem dX11_later_22 : decode cX11_later 22 = .ok (.sipush 999, 3) := by decide +kernel
theorem dX11_later_25 : decode cX11_later 25 = .ok (.if_icmp .le 9, 3) := by decide +kernel
theorem dX11_later_28 : decode cX11_later 28 = .ok (.aload_n 0, 1) := by decide +kernel
theorem dX11_later_29 : decode cX11_later 29 = .ok (.iconst 5, 1) := by decide +kernel
theorem dX11_later_30 : decode cX11_later 30 = .ok (.invokevirtual 101, 3) := by decide +kernel
theorem dX11_later_33 : decode cX11_later 33 = .ok (.ireturn, 1) := by decide +kernel
theorem dX11_later_34 : decode cX11_later 34 = .ok (.aload_n 0, 1) := by decide +kernel
theorem dX11_later_35 : decode cX11_later 35 = .ok (.aload_n 0, 1) := by decide +kernel
theorem dX11_later_36 : decode cX11_later 36 = .ok (.getfield 75, 3) := by decide +kernel
theorem dX11_later_39 : decode cX11_later 39 = .ok (.aload_n 0, 1) := by decide +kernel
theorem dX11_later_40 : decode cX11_later 40 = .ok (.getfield 58, 3) := by decide +kernel
theorem dX11_later_43 : decode cX11_later 43 = .ok (.iload_n 2, 1) := by decide +kernel
theorem dX11_later_44 : decode cX11_later 44 = .ok (.invokevirtual 312, 3) := by decide +kernel
theorem dX11_later_47 : decode cX11_later 47 = .ok (.getfield 240, 3) := by decide +kernel
theorem dX11_later_50 : decode cX11_later 50 = .ok (.iload_n 1, 1) := by decide +kernel
theorem dX11_later_51 : decode cX11_later 51 = .ok (.iaload, 1) := by decide +kernel
theorem dX11_later_52 : decode cX11_later 52 = .ok (.invokevirtual 105, 3) := by decide +kernel
theorem dX11_later_55 : decode cX11_later 55 = .ok (.ireturn, 1) := by decide +kernel
theorem dX11_never_0 : decode cX11_never 0 = .ok (.iconst 0, 1) := by decide +kernel
theorem dX11_never_1 : decode cX11_never 1 = .ok (.istore_n 1, 1) := by decide +kernel
theorem dX11_never_2 : decode cX11_never 2 = .ok (.iconst 0, 1) := by decide +kernel
theorem dX11_never_3 : decode cX11_never 3 = .ok (.istore_n 2, 1) := by decide +kernel
theorem dX11_never_4 : decode cX11_never 4 = .ok (.iload_n 2, 1) := by decide +kernel
theorem dX11_never_5 : decode cX11_never 5 = .ok (.aload_n 0, 1) := by decide +kernel
theorem dX11_never_6 : decode cX11_never 6 = .ok (.getfield 58, 3) := by decide +kernel
theorem dX11_never_9 : decode cX11_never 9 = .ok (.getfield 197, 3) := by decide +kernel
theorem dX11_never_12 : decode cX11_never 12 = .ok (.if_icmp .ge 40, 3) := by decide +kernel
theorem dX11_never_15 : decode cX11_never 15 = .ok (.aload_n 0, 1) := by decide +kernel
theorem dX11_never_16 : decode cX11_never 16 = .ok (.getfield 75, 3) := by decide +kernel
theorem dX11_never_19 : decode cX11_never 19 = .ok (.aload_n 0, 1) := by decide +kernel
theorem dX11_never_20 : decode cX11_never 20 = .ok (.getfield 58, 3) := by decide +kernel
theorem dX11_never_23 : decode cX11_never 23 = .ok (.aload_n 0, 1) := by decide +kernel
theorem dX11_never_24 : decode cX11_never 24 = .ok (.getfield 58, 3) := by decide +kernel
theorem dX11_never_27 : decode cX11_never 27 = .ok (.invokevirtual 306, 3) := by decide +kernel
theorem dX11_never_30 : decode cX11_never 30 = .ok (.iconst 1, 1) := by decide +kernel
theorem dX11_never_31 : decode cX11_never 31 = .ok (.iload_n 2, 1) := by decide +kernel
theorem dX11_never_32 : decode cX11_never 32 = .ok (.ishl, 1) := by decide +kernel
theorem dX11_never_33 : decode cX11_never 33 = .ok (.invokevirtual 302, 3) := by decide +kernel
theorem dX11_never_36 : decode cX11_never 36 = .ok (.iconst (-1), 1) := by decide +kernel
theorem dX11_never_37 : decode cX11_never 37 = .ok (.if_icmp .ne 9, 3) := by decide +kernel
theorem dX11_never_40 : decode cX11_never 40 = .ok (.iload_n 1, 1) := by decide +kernel
theorem dX11_never_41 : decode cX11_never 41 = .ok (.iconst 1, 1) := by decide +kernel
theorem dX11_never_42 : decode cX11_never 42 = .ok (.iload_n 2, 1) := by decide +kernel
theorem dX11_never_43 : decode cX11_never 43 = .ok (.ishl, 1) := by decide +kernel
theorem dX11_never_44 : decode cX11_never 44 = .ok (.ior, 1) := by decide +kernel
theorem dX11_never_45 : decode cX11_never 45 = .ok (.istore_n 1, 1) := by decide +kernel
theorem dX11_never_46 : decode cX11_never 46 = .ok (.iinc 2 1, 3) := by decide +kernel
theorem dX11_never_49 : decode cX11_never 49 = .ok (.goto (-45), 3) := by decide +kernel
theorem dX11_never_52 : decode cX11_never 52 = .ok (.aload_n 0, 1) := by decide +kernel
theorem dX11_never_53 : decode cX11_never 53 = .ok (.iload_n 1, 1) := by decide +kernel
theorem dX11_never_54 : decode cX11_never 54 = .ok (.invokevirtual 105, 3) := by decide +kernel
theorem dX11_never_57 : decode cX11_never 57 = .ok (.ireturn, 1) := by decide +kernel
theorem dX11_bestOrder_0 : decode cX11_bestOrder 0 = .ok (.aload_n 0, 1) := by decide +kernel
theorem dX11_bestOrder_1 : decode cX11_bestOrder 1 = .ok (.getfield 58, 3) := by decide +kernel
theorem dX11_bestOrder_4 : decode cX11_bestOrder 4 = .ok (.getfield 193, 3) := by decide +kernel
theorem dX11_bestOrder_7 : decode cX11_bestOrder 7 = .ok (.getfield 203, 3) := by decide +kernel
theorem dX11_bestOrder_10 : decode cX11_bestOrder 10 = .ok (.bipush 6, 2) := by decide +kernel
theorem dX11_bestOrder_12 : decode cX11_bestOrder 12 = .ok (.if_icmp .le 10, 3) := by decide +kernel
theorem dX11_bestOrder_15 : decode cX11_bestOrder 15 = .ok (.aload_n 0, 1) := by decide +kernel
theorem dX11_bestOrder_16 : decode cX11_bestOrder 16 = .ok (.bipush 9, 2) := by decide +kernel
theorem dX11_bestOrder_18 : decode cX11_bestOrder 18 = .ok (.invokevirtual 101, 3) := by decide +kernel
theorem dX11_bestOrder_21 : decode cX11_bestOrder 21 = .ok (.ireturn, 1) := by decide +kernel
theorem dX11_bestOrder_22 : decode cX11_bestOrder 22 = .ok (.aload_n 0, 1) := by decide +kernel
theorem dX11_bestOrder_23 : decode cX11_bestOrder 23 = .ok (.aload_n 0, 1) := by decide +kernel
theorem dX11_bestOrder_24 : decode cX11_bestOrder 24 = .ok (.getfield 75, 3) := by decide +kernel
theorem dX11_bestOrder_27 : decode cX11_bestOrder 27 = .ok (.aload_n 0, 1) := by decide +kernel
theorem dX11_bestOrder_28 : decode cX11_bestOrder 28 = .ok (.getfield 58, 3) := by decide +kernel
theorem dX11_bestOrder_31 : decode cX11_bestOrder 31 = .ok (.invokevirtual 316, 3) := by decide +kernel
theorem dX11_bestOrder_34 : decode cX11_bestOrder 34 = .ok (.invokevirtual 246, 3) := by decide +kernel
theorem dX11_bestOrder_37 : decode cX11_bestOrder 37 = .ok (.ireturn, 1) := by decide +kernel
theorem dX11_bestAt_0 : decode cX11_bestAt 0 = .ok (.iload_n 1, 1) := by decide +kernel
theorem dX11_bestAt_1 : decode cX11_bestAt 1 = .ok (.ifCond .lt 14, 3) := by decide +kernel
theorem dX11_bestAt_4 : decode cX11_bestAt 4 = .ok (.iload_n 1, 1) := by decide +kernel
theorem dX11_bestAt_5 : decode cX11_bestAt 5 = .ok (.aload_n 0, 1) := by decide +kernel
theorem dX11_bestAt_6 : decode cX11_bestAt 6 = .ok (.getfield 75, 3) := by decide +kernel
theorem dX11_bestAt_9 : decode cX11_bestAt 9 = .ok (.getfield 320, 3) := by decide +kernel
theorem dX11_bestAt_12 : decode cX11_bestAt 12 = .ok (.if_icmp .lt 10, 3) := by decide +kernel
theorem dX11_bestAt_15 : decode cX11_bestAt 15 = .ok (.aload_n 0, 1) := by decide +kernel
theorem dX11_bestAt_16 : decode cX11_bestAt 16 = .ok (.bipush 8, 2) := by decide +kernel
theorem dX11_bestAt_18 : decode cX11_bestAt 18 = .ok (.invokevirtual 101, 3) := by decide +kernel
theorem dX11_bestAt_21 : decode cX11_bestAt 21 = .ok (.ireturn, 1) := by decide +kernel
theorem dX11_bestAt_22 : decode cX11_bestAt 22 = .ok (.aload_n 0, 1) := by decide +kernel
theorem dX11_bestAt_23 : decode cX11_bestAt 23 = .ok (.aload_n 0, 1) := by decide +kernel
theorem dX11_bestAt_24 : decode cX11_bestAt 24 = .ok (.getfield 75, 3) := by decide +kernel
theorem dX11_bestAt_27 : decode cX11_bestAt 27 = .ok (.getfield 323, 3) := by decide +kernel
theorem dX11_bestAt_30 : decode cX11_bestAt 30 = .ok (.iload_n 1, 1) := by decide +kernel
theorem dX11_bestAt_31 : decode cX11_bestAt 31 = .ok (.iaload, 1) := by decide +kernel
theorem dX11_bestAt_32 : decode cX11_bestAt 32 = .ok (.invokevirtual 105, 3) := by decide +kernel
theorem dX11_bestAt_35 : decode cX11_bestAt 35 = .ok (.ireturn, 1) := by decide +kernel
theorem dX11_kept_0 : decode cX11_kept 0 = .ok (.iconst (-1), 1) := by decide +kernel
theorem dX11_kept_1 : decode cX11_kept 1 = .ok (.istore_n 1, 1) := by decide +kernel
theorem dX11_kept_2 : decode cX11_kept 2 = .ok (.iconst (-1), 1) := by decide +kernel
theorem dX11_kept_3 : decode cX11_kept 3 = .ok (.istore_n 2, 1) := by decide +kernel
theorem dX11_kept_4 : decode cX11_kept 4 = .ok (.iconst 0, 1) := by decide +kernel
theorem dX11_kept_5 : decode cX11_kept 5 = .ok (.istore_n 3, 1) := by decide +kernel
theorem dX11_kept_6 : decode cX11_kept 6 = .ok (.iload_n 3, 1) := by decide +kernel
theorem dX11_kept_7 : decode cX11_kept 7 = .ok (.aload_n 0, 1) := by decide +kernel
theorem dX11_kept_8 : decode cX11_kept 8 = .ok (.getfield 58, 3) := by decide +kernel
theorem dX11_kept_11 : decode cX11_kept 11 = .ok (.getfield 200, 3) := by decide +kernel
theorem dX11_kept_14 : decode cX11_kept 14 = .ok (.if_icmp .ge 54, 3) := by decide +kernel
theorem dX11_kept_17 : decode cX11_kept 17 = .ok (.aload_n 0, 1) := by decide +kernel
theorem dX11_kept_18 : decode cX11_kept 18 = .ok (.getfield 58, 3) := by decide +kernel
theorem dX11_kept_21 : decode cX11_kept 21 = .ok (.getfield 193, 3) := by decide +kernel
theorem dX11_kept_24 : decode cX11_kept 24 = .ok (.aload_n 0, 1) := by decide +kernel
theorem dX11_kept_25 : decode cX11_kept 25 = .ok (.getfield 58, 3) := by decide +kernel
theorem dX11_kept_28 : decode cX11_kept 28 = .ok (.iload_n 3, 1) := by decide +kernel
theorem dX11_kept_29 : decode cX11_kept 29 = .ok (.invokevirtual 267, 3) := by decide +kernel
theorem dX11_kept_32 : decode cX11_kept 32 = .ok (.istore 4, 2) := by decide +kernel
theorem dX11_kept_34 : decode cX11_kept 34 = .ok (.aload_n 0, 1) := by decide +kernel
theorem dX11_kept_35 : decode cX11_kept 35 = .ok (.getfield 58, 3) := by decide +kernel
theorem dX11_kept_38 : decode cX11_kept 38 = .ok (.getfield 193, 3) := by decide +kernel
theorem dX11_kept_41 : decode cX11_kept 41 = .ok (.getfield 221, 3) := by decide +kernel
theorem dX11_kept_44 : decode cX11_kept 44 = .ok (.iload_n 3, 1) := by decide +kernel
theorem dX11_kept_45 : decode cX11_kept 45 = .ok (.invokestatic 233, 3) := by decide +kernel
theorem dX11_kept_48 : decode cX11_kept 48 = .ok (.ifCond .ne 14, 3) := by decide +kernel
theorem dX11_kept_51 : decode cX11_kept 51 = .ok (.iload 4, 2) := by decide +kernel
theorem dX11_kept_53 : decode cX11_kept 53 = .ok (.iload_n 2, 1) := by decide +kernel
theorem dX11_kept_54 : decode cX11_kept 54 = .ok (.if_icmp .le 8, 3) := by decide +kernel
theorem dX11_kept_57 : decode cX11_kept 57 = .ok (.iload 4, 2) := by decide +kernel
theorem dX11_kept_59 : decode cX11_kept 59 = .ok (.istore_n 2, 1) := by decide +kernel
theorem dX11_kept_60 : decode cX11_kept 60 = .ok (.iload_n 3, 1) := by decide +kernel
theorem dX11_kept_61 : decode cX11_kept 61 = .ok (.istore_n 1, 1) := by decide +kernel
theorem dX11_kept_62 : decode cX11_kept 62 = .ok (.iinc 3 1, 3) := by decide +kernel
theorem dX11_kept_65 : decode cX11_kept 65 = .ok (.goto (-59), 3) := by decide +kernel
theorem dX11_kept_68 : decode cX11_kept 68 = .ok (.aload_n 0, 1) := by decide +kernel
theorem dX11_kept_69 : decode cX11_kept 69 = .ok (.iload_n 1, 1) := by decide +kernel
theorem dX11_kept_70 : decode cX11_kept 70 = .ok (.invokevirtual 246, 3) := by decide +kernel
theorem dX11_kept_73 : decode cX11_kept 73 = .ok (.ireturn, 1) := by decide +kernel
theorem dX11_hide_0 : decode cX11_hide 0 = .ok (.aload_n 0, 1) := by decide +kernel
theorem dX11_hide_1 : decode cX11_hide 1 = .ok (.getfield 58, 3) := by decide +kernel
theorem dX11_hide_4 : decode cX11_hide 4 = .ok (.iload_n 1, 1) := by decide +kernel
theorem dX11_hide_5 : decode cX11_hide 5 = .ok (.invokevirtual 252, 3) := by decide +kernel
theorem dX11_hide_8 : decode cX11_hide 8 = .ok (.ifCond .ne 9, 3) := by decide +kernel
theorem dX11_hide_11 : decode cX11_hide 11 = .ok (.aload_n 0, 1) := by decide +kernel
theorem dX11_hide_12 : decode cX11_hide 12 = .ok (.iconst 2, 1) := by decide +kernel
theorem dX11_hide_13 : decode cX11_hide 13 = .ok (.invokevirtual 101, 3) := by decide +kernel
theorem dX11_hide_16 : decode cX11_hide 16 = .ok (.ireturn, 1) := by decide +kernel
theorem dX11_hide_17 : decode cX11_hide 17 = .ok (.iconst (-1), 1) := by decide +kernel
theorem dX11_hide_18 : decode cX11_hide 18 = .ok (.istore_n 2, 1) := by decide +kernel
theorem dX11_hide_19 : decode cX11_hide 19 = .ok (.bipush 17, 2) := by decide +kernel
theorem dX11_hide_21 : decode cX11_hide 21 = .ok (.istore_n 3, 1) := by decide +kernel
theorem dX11_hide_22 : decode cX11_hide 22 = .ok (.iconst 0, 1) := by decide +kernel
theorem dX11_hide_23 : decode cX11_hide 23 = .ok (.istore 4, 2) := by decide +kernel
theorem dX11_hide_25 : decode cX11_hide 25 = .ok (.iload 4, 2) := by decide +kernel
theorem dX11_hide_27 : decode cX11_hide 27 = .ok (.aload_n 0, 1) := by decide +kernel
theorem dX11_hide_28 : decode cX11_hide 28 = .ok (.getfield 58, 3) := by decide +kernel
theorem dX11_hide_31 : decode cX11_hide 31 = .ok (.getfield 200, 3) := by decide +kernel
theorem dX11_hide_34 : decode cX11_hide 34 = .ok (.if_icmp .ge 101, 3) := by decide +kernel
theorem dX11_hide_37 : decode cX11_hide 37 = .ok (.aload_n 0, 1) := by decide +kernel
theorem dX11_hide_38 : decode cX11_hide 38 = .ok (.getfield 58, 3) := by decide +kernel
theorem dX11_hide_41 : decode cX11_hide 41 = .ok (.getfield 193, 3) := by decide +kernel
theorem dX11_hide_44 : decode cX11_hide 44 = .ok (.getfield 221, 3) := by decide +kernel
theorem dX11_hide_47 : decode cX11_hide 47 = .ok (.iload 4, 2) := by decide +kernel
theorem dX11_hide_49 : decode cX11_hide 49 = .ok (.invokestatic 233, 3) := by decide +kernel
theorem dX11_hide_52 : decode cX11_hide 52 = .ok (.ifCond .ne 35, 3) := by decide +kernel
theorem dX11_hide_55 : decode cX11_hide 55 = .ok (.aload_n 0, 1) := by decide +kernel
theorem dX11_hide_56 : decode cX11_hide 56 = .ok (.getfield 58, 3) := by decide +kernel
theorem dX11_hide_59 : decode cX11_hide 59 = .ok (.getfield 193, 3) := by decide +kernel
theorem dX11_hide_62 : decode cX11_hide 62 = .ok (.aload_n 0, 1) := by decide +kernel
theorem dX11_hide_63 : decode cX11_hide 63 = .ok (.getfield 58, 3) := by decide +kernel
theorem dX11_hide_66 : decode cX11_hide 66 = .ok (.iload 4, 2) := by decide +kernel
theorem dX11_hide_68 : decode cX11_hide 68 = .ok (.invokevirtual 267, 3) := by decide +kernel
theorem dX11_hide_71 : decode cX11_hide 71 = .ok (.aload_n 0, 1) := by decide +kernel
theorem dX11_hide_72 : decode cX11_hide 72 = .ok (.getfield 58, 3) := by decide +kernel
theorem dX11_hide_75 : decode cX11_hide 75 = .ok (.getfield 255, 3) := by decide +kernel
theorem dX11_hide_78 : decode cX11_hide 78 = .ok (.iload_n 1, 1) := by decide +kernel
theorem dX11_hide_79 : decode cX11_hide 79 = .ok (.iaload, 1) := by decide +kernel
theorem dX11_hide_80 : decode cX11_hide 80 = .ok (.if_icmp .lt 7, 3) := by decide +kernel
theorem dX11_hide_83 : decode cX11_hide 83 = .ok (.iconst 1, 1) := by decide +kernel
theorem dX11_hide_84 : decode cX11_hide 84 = .ok (.goto 4, 3) := by decide +kernel
theorem dX11_hide_87 : decode cX11_hide 87 = .ok (.iconst 0, 1) := by decide +kernel
theorem dX11_hide_88 : decode cX11_hide 88 = .ok (.istore 5, 2) := by decide +kernel
theorem dX11_hide_90 : decode cX11_hide 90 = .ok (.iload 5, 2) := by decide +kernel
theorem dX11_hide_92 : decode cX11_hide 92 = .ok (.ifCond .eq 37, 3) := by decide +kernel
theorem dX11_hide_95 : decode cX11_hide 95 = .ok (.aload_n 0, 1) := by decide +kernel
theorem dX11_hide_96 : decode cX11_hide 96 = .ok (.getfield 58, 3) := by decide +kernel
theorem dX11_hide_99 : decode cX11_hide 99 = .ok (.getfield 193, 3) := by decide +kernel
theorem dX11_hide_102 : decode cX11_hide 102 = .ok (.getfield 264, 3) := by decide +kernel
theorem dX11_hide_105 : decode cX11_hide 105 = .ok (.iload 4, 2) := by decide +kernel
theorem dX11_hide_107 : decode cX11_hide 107 = .ok (.iaload, 1) := by decide +kernel
theorem dX11_hide_108 : decode cX11_hide 108 = .ok (.iload_n 3, 1) := by decide +kernel
theorem dX11_hide_109 : decode cX11_hide 109 = .ok (.if_icmp .ge 20, 3) := by decide +kernel
theorem dX11_hide_112 : decode cX11_hide 112 = .ok (.aload_n 0, 1) := by decide +kernel
theorem dX11_hide_113 : decode cX11_hide 113 = .ok (.getfield 58, 3) := by decide +kernel
theorem dX11_hide_116 : decode cX11_hide 116 = .ok (.getfield 193, 3) := by decide +kernel
theorem dX11_hide_119 : decode cX11_hide 119 = .ok (.getfield 264, 3) := by decide +kernel
theorem dX11_hide_122 : decode cX11_hide 122 = .ok (.iload 4, 2) := by decide +kernel
theorem dX11_hide_124 : decode cX11_hide 124 = .ok (.iaload, 1) := by decide +kernel
theorem dX11_hide_125 : decode cX11_hide 125 = .ok (.istore_n 3, 1) := by decide +kernel
theorem dX11_hide_126 : decode cX11_hide 126 = .ok (.iload 4, 2) := by decide +kernel
theorem dX11_hide_128 : decode cX11_hide 128 = .ok (.istore_n 2, 1) := by decide +kernel
theorem dX11_hide_129 : decode cX11_hide 129 = .ok (.iinc 4 1, 3) := by decide +kernel
theorem dX11_hide_132 : decode cX11_hide 132 = .ok (.goto (-107), 3) := by decide +kernel
theorem dX11_hide_135 : decode cX11_hide 135 = .ok (.aload_n 0, 1) := by decide +kernel
theorem dX11_hide_136 : decode cX11_hide 136 = .ok (.iload_n 2, 1) := by decide +kernel
theorem dX11_hide_137 : decode cX11_hide 137 = .ok (.invokevirtual 246, 3) := by decide +kernel
theorem dX11_hide_140 : decode cX11_hide 140 = .ok (.ireturn, 1) := by decide +kernel
theorem dX11_mix_0 : decode cX11_mix 0 = .ok (.aload_n 0, 1) := by decide +kernel
theorem dX11_mix_1 : decode cX11_mix 1 = .ok (.getfield 58, 3) := by decide +kernel
theorem dX11_mix_4 : decode cX11_mix 4 = .ok (.iload_n 1, 1) := by decide +kernel
theorem dX11_mix_5 : decode cX11_mix 5 = .ok (.invokevirtual 258, 3) := by decide +kernel
theorem dX11_mix_8 : decode cX11_mix 8 = .ok (.ifCond .ne 9, 3) := by decide +kernel
theorem dX11_mix_11 : decode cX11_mix 11 = .ok (.aload_n 0, 1) := by decide +kernel
theorem dX11_mix_12 : decode cX11_mix 12 = .ok (.iconst 2, 1) := by decide +kernel
theorem dX11_mix_13 : decode cX11_mix 13 = .ok (.invokevirtual 112, 3) := by decide +kernel
theorem dX11_mix_16 : decode cX11_mix 16 = .ok (.ireturn, 1) := by decide +kernel
theorem dX11_mix_17 : decode cX11_mix 17 = .ok (.aload_n 0, 1) := by decide +kernel
theorem dX11_mix_18 : decode cX11_mix 18 = .ok (.getfield 58, 3) := by decide +kernel
theorem dX11_mix_21 : decode cX11_mix 21 = .ok (.getfield 193, 3) := by decide +kernel
theorem dX11_mix_24 : decode cX11_mix 24 = .ok (.getfield 221, 3) := by decide +kernel
theorem dX11_mix_27 : decode cX11_mix 27 = .ok (.iload_n 1, 1) := by decide +kernel
theorem dX11_mix_28 : decode cX11_mix 28 = .ok (.invokestatic 233, 3) := by decide +kernel
theorem dX11_mix_31 : decode cX11_mix 31 = .ok (.ifCond .eq 10, 3) := by decide +kernel
theorem dX11_mix_34 : decode cX11_mix 34 = .ok (.aload_n 0, 1) := by decide +kernel
theorem dX11_mix_35 : decode cX11_mix 35 = .ok (.bipush 9, 2) := by decide +kernel
theorem dX11_mix_37 : decode cX11_mix 37 = .ok (.invokevirtual 112, 3) := by decide +kernel
theorem dX11_mix_40 : decode cX11_mix 40 = .ok (.ireturn, 1) := by decide +kernel
theorem dX11_mix_41 : decode cX11_mix 41 = .ok (.aload_n 0, 1) := by decide +kernel
theorem dX11_mix_42 : decode cX11_mix 42 = .ok (.getfield 30, 3) := by decide +kernel
theorem dX11_mix_45 : decode cX11_mix 45 = .ok (.aload_n 0, 1) := by decide +kernel
theorem dX11_mix_46 : decode cX11_mix 46 = .ok (.getfield 58, 3) := by decide +kernel
theorem dX11_mix_49 : decode cX11_mix 49 = .ok (.iload_n 1, 1) := by decide +kernel
theorem dX11_mix_50 : decode cX11_mix 50 = .ok (.invokevirtual 341, 3) := by decide +kernel
theorem dX11_mix_53 : decode cX11_mix 53 = .ok (.aload_n 0, 1) := by decide +kernel
theorem dX11_mix_54 : decode cX11_mix 54 = .ok (.invokevirtual 119, 3) := by decide +kernel
theorem dX11_mix_57 : decode cX11_mix 57 = .ok (.ireturn, 1) := by decide +kernel
theorem dX11_mark_0 : decode cX11_mark 0 = .ok (.aload_n 0, 1) := by decide +kernel
theorem dX11_mark_1 : decode cX11_mark 1 = .ok (.getfield 69, 3) := by decide +kernel
theorem dX11_mark_4 : decode cX11_mark 4 = .ok (.iconst 3, 1) := by decide +kernel
theorem dX11_mark_5 : decode cX11_mark 5 = .ok (.if_icmp .lt 10, 3) := by decide +kernel
theorem dX11_mark_8 : decode cX11_mark 8 = .ok (.aload_n 0, 1) := by decide +kernel
theorem dX11_mark_9 : decode cX11_mark 9 = .ok (.bipush 7, 2) := by decide +kernel
theorem dX11_mark_11 : decode cX11_mark 11 = .ok (.invokevirtual 101, 3) := by decide +kernel
theorem dX11_mark_14 : decode cX11_mark 14 = .ok (.ireturn, 1) := by decide +kernel
theorem dX11_mark_15 : decode cX11_mark 15 = .ok (.aload_n 0, 1) := by decide +kernel
theorem dX11_mark_16 : decode cX11_mark 16 = .ok (.getfield 65, 3) := by decide +kernel
theorem dX11_mark_19 : decode cX11_mark 19 = .ok (.aload_n 0, 1) := by decide +kernel
theorem dX11_mark_20 : decode cX11_mark 20 = .ok (.getfield 69, 3) := by decide +kernel
theorem dX11_mark_23 : decode cX11_mark 23 = .ok (.aaload, 1) := by decide +kernel
theorem dX11_mark_24 : decode cX11_mark 24 = .ok (.aload_n 0, 1) := by decide +kernel
theorem dX11_mark_25 : decode cX11_mark 25 = .ok (.getfield 58, 3) := by decide +kernel
theorem dX11_mark_28 : decode cX11_mark 28 = .ok (.invokevirtual 165, 3) := by decide +kernel
theorem dX11_mark_31 : decode cX11_mark 31 = .ok (.aload_n 0, 1) := by decide +kernel
theorem dX11_mark_32 : decode cX11_mark 32 = .ok (.dup, 1) := by decide +kernel
theorem dX11_mark_33 : decode cX11_mark 33 = .ok (.getfield 69, 3) := by decide +kernel
theorem dX11_mark_36 : decode cX11_mark 36 = .ok (.iconst 1, 1) := by decide +kernel
theorem dX11_mark_37 : decode cX11_mark 37 = .ok (.iadd, 1) := by decide +kernel
theorem dX11_mark_38 : decode cX11_mark 38 = .ok (.putfield 69, 3) := by decide +kernel
theorem dX11_mark_41 : decode cX11_mark 41 = .ok (.aload_n 0, 1) := by decide +kernel
theorem dX11_mark_42 : decode cX11_mark 42 = .ok (.aload_n 0, 1) := by decide +kernel
theorem dX11_mark_43 : decode cX11_mark 43 = .ok (.getfield 69, 3) := by decide +kernel
theorem dX11_mark_46 : decode cX11_mark 46 = .ok (.invokevirtual 105, 3) := by decide +kernel
theorem dX11_mark_49 : decode cX11_mark 49 = .ok (.ireturn, 1) := by decide +kernel
theorem dX11_back_0 : decode cX11_back 0 = .ok (.aload_n 0, 1) := by decide +kernel
theorem dX11_back_1 : decode cX11_back 1 = .ok (.getfield 69, 3) := by decide +kernel
theorem dX11_back_4 : decode cX11_back 4 = .ok (.ifCond .gt 10, 3) := by decide +kernel
theorem dX11_back_7 : decode cX11_back 7 = .ok (.aload_n 0, 1) := by decide +kernel
theorem dX11_back_8 : decode cX11_back 8 = .ok (.bipush 8, 2) := by decide +kernel
theorem dX11_back_10 : decode cX11_back 10 = .ok (.invokevirtual 101, 3) := by decide +kernel
theorem dX11_back_13 : decode cX11_back 13 = .ok (.ireturn, 1) := by decide +kernel
theorem dX11_back_14 : decode cX11_back 14 = .ok (.aload_n 0, 1) := by decide +kernel
theorem dX11_back_15 : decode cX11_back 15 = .ok (.dup, 1) := by decide +kernel
theorem dX11_back_16 : decode cX11_back 16 = .ok (.getfield 69, 3) := by decide +kernel
theorem dX11_back_19 : decode cX11_back 19 = .ok (.iconst 1, 1) := by decide +kernel
theorem dX11_back_20 : decode cX11_back 20 = .ok (.isub, 1) := by decide +kernel
theorem dX11_back_21 : decode cX11_back 21 = .ok (.putfield 69, 3) := by decide +kernel
theorem dX11_back_24 : decode cX11_back 24 = .ok (.aload_n 0, 1) := by decide +kernel
theorem dX11_back_25 : decode cX11_back 25 = .ok (.getfield 58, 3) := by decide +kernel
theorem dX11_back_28 : decode cX11_back 28 = .ok (.aload_n 0, 1) := by decide +kernel
theorem dX11_back_29 : decode cX11_back 29 = .ok (.getfield 65, 3) := by decide +kernel
theorem dX11_back_32 : decode cX11_back 32 = .ok (.aload_n 0, 1) := by decide +kernel
theorem dX11_back_33 : decode cX11_back 33 = .ok (.getfield 69, 3) := by decide +kernel
theorem dX11_back_36 : decode cX11_back 36 = .ok (.aaload, 1) := by decide +kernel
theorem dX11_back_37 : decode cX11_back 37 = .ok (.invokevirtual 165, 3) := by decide +kernel
theorem dX11_back_40 : decode cX11_back 40 = .ok (.aload_n 0, 1) := by decide +kernel
theorem dX11_back_41 : decode cX11_back 41 = .ok (.aload_n 0, 1) := by decide +kernel
theorem dX11_back_42 : decode cX11_back 42 = .ok (.getfield 69, 3) := by decide +kernel
theorem dX11_back_45 : decode cX11_back 45 = .ok (.invokevirtual 105, 3) := by decide +kernel
theorem dX11_back_48 : decode cX11_back 48 = .ok (.ireturn, 1) := by decide +kernel
theorem dJ9_min_7cf53_0 : decode cJ9_min_7cf53 0 = .ok (.iload_n 0, 1) := by decide +kernel
theorem dJ9_min_7cf53_1 : decode cJ9_min_7cf53 1 = .ok (.iload_n 1, 1) := by decide +kernel
theorem dJ9_min_7cf53_2 : decode cJ9_min_7cf53 2 = .ok (.if_icmp .gt 7, 3) := by decide +kernel
theorem dJ9_min_7cf53_5 : decode cJ9_min_7cf53 5 = .ok (.iload_n 0, 1) := by decide +kernel
theorem dJ9_min_7cf53_6 : decode cJ9_min_7cf53 6 = .ok (.goto 4, 3) := by decide +kernel
theorem dJ9_min_7cf53_9 : decode cJ9_min_7cf53 9 = .ok (.iload_n 1, 1) := by decide +kernel
theorem dJ9_min_7cf53_10 : decode cJ9_min_7cf53 10 = .ok (.ireturn, 1) := by decide +kernel
theorem dJ0_length_8abf5_0 : decode cJ0_length_8abf5 0 = .ok (.aload_n 0, 1) := by decide +kernel
theorem dJ0_length_8abf5_1 : decode cJ0_length_8abf5 1 = .ok (.getfield 9, 3) := by decide +kernel
theorem dJ0_length_8abf5_4 : decode cJ0_length_8abf5 4 = .ok (.arraylength, 1) := by decide +kernel
theorem dJ0_length_8abf5_5 : decode cJ0_length_8abf5 5 = .ok (.aload_n 0, 1) := by decide +kernel
theorem dJ0_length_8abf5_6 : decode cJ0_length_8abf5 6 = .ok (.invokevirtual 335, 3) := by decide +kernel
theorem dJ0_length_8abf5_9 : decode cJ0_length_8abf5 9 = .ok (.ishr, 1) := by decide +kernel
theorem dJ0_length_8abf5_10 : decode cJ0_length_8abf5 10 = .ok (.ireturn, 1) := by decide +kernel
theorem dJ0_charAt_5068e_0 : decode cJ0_charAt_5068e 0 = .ok (.aload_n 0, 1) := by decide +kernel
theorem dJ0_charAt_5068e_1 : decode cJ0_charAt_5068e 1 = .ok (.invokevirtual 492, 3) := by decide +kernel
theorem dJ0_charAt_5068e_4 : decode cJ0_charAt_5068e 4 = .ok (.ifCond .eq 12, 3) := by decide +kernel
theorem dJ0_charAt_5068e_7 : decode cJ0_charAt_5068e 7 = .ok (.aload_n 0, 1) := by decide +kernel
theorem dJ0_charAt_5068e_8 : decode cJ0_charAt_5068e 8 = .ok (.getfield 9, 3) := by decide +kernel
theorem dJ0_charAt_5068e_11 : decode cJ0_charAt_5068e 11 = .ok (.iload_n 1, 1) := by decide +kernel
theorem dJ0_charAt_5068e_12 : decode cJ0_charAt_5068e 12 = .ok (.invokestatic 495, 3) := by decide +kernel
theorem dJ0_charAt_5068e_15 : decode cJ0_charAt_5068e 15 = .ok (.ireturn, 1) := by decide +kernel
theorem dJ0_charAt_5068e_16 : decode cJ0_charAt_5068e 16 = .ok (.aload_n 0, 1) := by decide +kernel
theorem dJ0_charAt_5068e_17 : decode cJ0_charAt_5068e 17 = .ok (.getfield 9, 3) := by decide +kernel
theorem dJ0_charAt_5068e_20 : decode cJ0_charAt_5068e 20 = .ok (.iload_n 1, 1) := by decide +kernel
theorem dJ0_charAt_5068e_21 : decode cJ0_charAt_5068e 21 = .ok (.invokestatic 498, 3) := by decide +kernel
theorem dJ0_charAt_5068e_24 : decode cJ0_charAt_5068e 24 = .ok (.ireturn, 1) := by decide +kernel
theorem dJ0_coder_7d493_0 : decode cJ0_coder_7d493 0 = .ok (.getstatic 38, 3) := by decide +kernel
theorem dJ0_coder_7d493_3 : decode cJ0_coder_7d493 3 = .ok (.ifCond .eq 10, 3) := by decide +kernel
theorem dJ0_coder_7d493_6 : decode cJ0_coder_7d493 6 = .ok (.aload_n 0, 1) := by decide +kernel
theorem dJ0_coder_7d493_7 : decode cJ0_coder_7d493 7 = .ok (.getfield 15, 3) := by decide +kernel
theorem dJ0_coder_7d493_10 : decode cJ0_coder_7d493 10 = .ok (.goto 4, 3) := by decide +kernel
theorem dJ0_coder_7d493_13 : decode cJ0_coder_7d493 13 = .ok (.iconst 1, 1) := by decide +kernel
theorem dJ0_coder_7d493_14 : decode cJ0_coder_7d493 14 = .ok (.ireturn, 1) := by decide +kernel
theorem dJ0_isLatin1_aae02_0 : decode cJ0_isLatin1_aae02 0 = .ok (.getstatic 38, 3) := by decide +kernel
theorem dJ0_isLatin1_aae02_3 : decode cJ0_isLatin1_aae02 3 = .ok (.ifCond .eq 14, 3) := by decide +kernel
theorem dJ0_isLatin1_aae02_6 : decode cJ0_isLatin1_aae02 6 = .ok (.aload_n 0, 1) := by decide +kernel
theorem dJ0_isLatin1_aae02_7 : decode cJ0_isLatin1_aae02 7 = .ok (.getfield 15, 3) := by decide +kernel
theorem dJ0_isLatin1_aae02_10 : decode cJ0_isLatin1_aae02 10 = .ok (.ifCond .ne 7, 3) := by decide +kernel
theorem dJ0_isLatin1_aae02_13 : decode cJ0_isLatin1_aae02 13 = .ok (.iconst 1, 1) := by decide +kernel
theorem dJ0_isLatin1_aae02_14 : decode cJ0_isLatin1_aae02 14 = .ok (.goto 4, 3) := by decide +kernel
theorem dJ0_isLatin1_aae02_17 : decode cJ0_isLatin1_aae02 17 = .ok (.iconst 0, 1) := by decide +kernel
theorem dJ0_isLatin1_aae02_18 : decode cJ0_isLatin1_aae02 18 = .ok (.ireturn, 1) := by decide +kernel
theorem dJ0_checkIndex_df160_0 : decode cJ0_checkIndex_df160 0 = .ok (.iload_n 0, 1) := by decide +kernel
theorem dJ0_checkIndex_df160_1 : decode cJ0_checkIndex_df160 1 = .ok (.iload_n 1, 1) := by decide +kernel
theorem dJ0_checkIndex_df160_2 : decode cJ0_checkIndex_df160 2 = .ok (.getstatic 1053, 3) := by decide +kernel
theorem dJ0_checkIndex_df160_5 : decode cJ0_checkIndex_df160 5 = .ok (.invokestatic 1059, 3) := by decide +kernel
theorem dJ0_checkIndex_df160_8 : decode cJ0_checkIndex_df160 8 = .ok (.pop, 1) := by decide +kernel
theorem dJ0_checkIndex_df160_9 : decode cJ0_checkIndex_df160 9 = .ok (.return_, 1) := by decide +kernel
theorem dJ1_charAt_3b067_0 : decode cJ1_charAt_3b067 0 = .ok (.iload_n 1, 1) := by decide +kernel
theorem dJ1_charAt_3b067_1 : decode cJ1_charAt_3b067 1 = .ok (.aload_n 0, 1) := by decide +kernel
theorem dJ1_charAt_3b067_2 : decode cJ1_charAt_3b067 2 = .ok (.arraylength, 1) := by decide +kernel
theorem dJ1_charAt_3b067_3 : decode cJ1_charAt_3b067 3 = .ok (.invokestatic 9, 3) := by decide +kernel
theorem dJ1_charAt_3b067_6 : decode cJ1_charAt_3b067 6 = .ok (.aload_n 0, 1) := by decide +kernel
theorem dJ1_charAt_3b067_7 : decode cJ1_charAt_3b067 7 = .ok (.iload_n 1, 1) := by decide +kernel
theorem dJ1_charAt_3b067_8 : decode cJ1_charAt_3b067 8 = .ok (.baload, 1) := by decide +kernel
theorem dJ1_charAt_3b067_9 : decode cJ1_charAt_3b067 9 = .ok (.sipush 255, 3) := by decide +kernel
theorem dJ1_charAt_3b067_12 : decode cJ1_charAt_3b067 12 = .ok (.iand, 1) := by decide +kernel
theorem dJ1_charAt_3b067_13 : decode cJ1_charAt_3b067 13 = .ok (.i2c, 1) := by decide +kernel
theorem dJ1_charAt_3b067_14 : decode cJ1_charAt_3b067 14 = .ok (.ireturn, 1) := by decide +kernel
theorem dJ2_getChar_3b067_0 : decode cJ2_getChar_3b067 0 = .ok (.getstatic 44, 3) := by decide +kernel
theorem dJ2_getChar_3b067_3 : decode cJ2_getChar_3b067 3 = .ok (.ifCond .ne 25, 3) := by decide +kernel
theorem dJ2_getChar_3b067_6 : decode cJ2_getChar_3b067 6 = .ok (.iload_n 1, 1) := by decide +kernel
theorem dJ2_getChar_3b067_7 : decode cJ2_getChar_3b067 7 = .ok (.ifCond .lt 11, 3) := by decide +kernel
theorem dJ2_getChar_3b067_10 : decode cJ2_getChar_3b067 10 = .ok (.iload_n 1, 1) := by decide +kernel
theorem dJ2_getChar_3b067_11 : decode cJ2_getChar_3b067 11 = .ok (.aload_n 0, 1) := by decide +kernel
theorem dJ2_getChar_3b067_12 : decode cJ2_getChar_3b067 12 = .ok (.invokestatic 48, 3) := by decide +kernel
theorem dJ2_getChar_3b067_15 : decode cJ2_getChar_3b067 15 = .ok (.if_icmp .lt 13, 3) := by decide +kernel
theorem dJ2_getChar_3b067_18 : decode cJ2_getChar_3b067 18 = .ok (.new 52, 3) := by decide +kernel
theorem dJ2_getChar_3b067_21 : decode cJ2_getChar_3b067 21 = .ok (.dup, 1) := by decide +kernel
theorem dJ2_getChar_3b067_22 : decode cJ2_getChar_3b067 22 = .ok (.ldc 54, 2) := by decide +kernel
theorem dJ2_getChar_3b067_24 : decode cJ2_getChar_3b067 24 = .ok (.invokespecial 56, 3) := by decide +kernel
theorem dJ2_getChar_3b067_27 : decode cJ2_getChar_3b067 27 = .ok (.athrow, 1) := by decide +kernel
theorem dJ2_getChar_3b067_28 : decode cJ2_getChar_3b067 28 = .ok (.iload_n 1, 1) := by decide +kernel
theorem dJ2_getChar_3b067_29 : decode cJ2_getChar_3b067 29 = .ok (.iconst 1, 1) := by decide +kernel
theorem dJ2_getChar_3b067_30 : decode cJ2_getChar_3b067 30 = .ok (.ishl, 1) := by decide +kernel
theorem dJ2_getChar_3b067_31 : decode cJ2_getChar_3b067 31 = .ok (.istore_n 1, 1) := by decide +kernel
theorem dJ2_getChar_3b067_32 : decode cJ2_getChar_3b067 32 = .ok (.aload_n 0, 1) := by decide +kernel
theorem dJ2_getChar_3b067_33 : decode cJ2_getChar_3b067 33 = .ok (.iload_n 1, 1) := by decide +kernel
theorem dJ2_getChar_3b067_34 : decode cJ2_getChar_3b067 34 = .ok (.iinc 1 1, 3) := by decide +kernel
theorem dJ2_getChar_3b067_37 : decode cJ2_getChar_3b067 37 = .ok (.baload, 1) := by decide +kernel
theorem dJ2_getChar_3b067_38 : decode cJ2_getChar_3b067 38 = .ok (.sipush 255, 3) := by decide +kernel
theorem dJ2_getChar_3b067_41 : decode cJ2_getChar_3b067 41 = .ok (.iand, 1) := by decide +kernel
theorem dJ2_getChar_3b067_42 : decode cJ2_getChar_3b067 42 = .ok (.getstatic 59, 3) := by decide +kernel
theorem dJ2_getChar_3b067_45 : decode cJ2_getChar_3b067 45 = .ok (.ishl, 1) := by decide +kernel
theorem dJ2_getChar_3b067_46 : decode cJ2_getChar_3b067 46 = .ok (.aload_n 0, 1) := by decide +kernel
theorem dJ2_getChar_3b067_47 : decode cJ2_getChar_3b067 47 = .ok (.iload_n 1, 1) := by decide +kernel
theorem dJ2_getChar_3b067_48 : decode cJ2_getChar_3b067 48 = .ok (.baload, 1) := by decide +kernel
theorem dJ2_getChar_3b067_49 : decode cJ2_getChar_3b067 49 = .ok (.sipush 255, 3) := by decide +kernel
theorem dJ2_getChar_3b067_52 : decode cJ2_getChar_3b067 52 = .ok (.iand, 1) := by decide +kernel
theorem dJ2_getChar_3b067_53 : decode cJ2_getChar_3b067 53 = .ok (.getstatic 63, 3) := by decide +kernel
theorem dJ2_getChar_3b067_56 : decode cJ2_getChar_3b067 56 = .ok (.ishl, 1) := by decide +kernel
theorem dJ2_getChar_3b067_57 : decode cJ2_getChar_3b067 57 = .ok (.ior, 1) := by decide +kernel
theorem dJ2_getChar_3b067_58 : decode cJ2_getChar_3b067 58 = .ok (.i2c, 1) := by decide +kernel
theorem dJ2_getChar_3b067_59 : decode cJ2_getChar_3b067 59 = .ok (.ireturn, 1) := by decide +kernel
theorem dJ2_length_9d52b_0 : decode cJ2_length_9d52b 0 = .ok (.aload_n 0, 1) := by decide +kernel
theorem dJ2_length_9d52b_1 : decode cJ2_length_9d52b 1 = .ok (.arraylength, 1) := by decide +kernel
theorem dJ2_length_9d52b_2 : decode cJ2_length_9d52b 2 = .ok (.iconst 1, 1) := by decide +kernel
theorem dJ2_length_9d52b_3 : decode cJ2_length_9d52b 3 = .ok (.ishr, 1) := by decide +kernel
theorem dJ2_length_9d52b_4 : decode cJ2_length_9d52b 4 = .ok (.ireturn, 1) := by decide +kernel
theorem dJ2_charAt_3b067_0 : decode cJ2_charAt_3b067 0 = .ok (.iload_n 1, 1) := by decide +kernel
theorem dJ2_charAt_3b067_1 : decode cJ2_charAt_3b067 1 = .ok (.aload_n 0, 1) := by decide +kernel
theorem dJ2_charAt_3b067_2 : decode cJ2_charAt_3b067 2 = .ok (.invokestatic 67, 3) := by decide +kernel
theorem dJ2_charAt_3b067_5 : decode cJ2_charAt_3b067 5 = .ok (.aload_n 0, 1) := by decide +kernel
theorem dJ2_charAt_3b067_6 : decode cJ2_charAt_3b067 6 = .ok (.iload_n 1, 1) := by decide +kernel
theorem dJ2_charAt_3b067_7 : decode cJ2_charAt_3b067 7 = .ok (.invokestatic 71, 3) := by decide +kernel
theorem dJ2_charAt_3b067_10 : decode cJ2_charAt_3b067 10 = .ok (.ireturn, 1) := by decide +kernel
theorem dJ2_checkIndex_2214a_0 : decode cJ2_checkIndex_2214a 0 = .ok (.iload_n 0, 1) := by decide +kernel
theorem dJ2_checkIndex_2214a_1 : decode cJ2_checkIndex_2214a 1 = .ok (.aload_n 1, 1) := by decide +kernel
theorem dJ2_checkIndex_2214a_2 : decode cJ2_checkIndex_2214a 2 = .ok (.invokestatic 48, 3) := by decide +kernel
theorem dJ2_checkIndex_2214a_5 : decode cJ2_checkIndex_2214a 5 = .ok (.invokestatic 414, 3) := by decide +kernel
theorem dJ2_checkIndex_2214a_8 : decode cJ2_checkIndex_2214a 8 = .ok (.return_, 1) := by decide +kernel
theorem dJ7_fill_53178_0 : decode cJ7_fill_53178 0 = .ok (.iconst 0, 1) := by decide +kernel
theorem dJ7_fill_53178_1 : decode cJ7_fill_53178 1 = .ok (.istore_n 2, 1) := by decide +kernel
theorem dJ7_fill_53178_2 : decode cJ7_fill_53178 2 = .ok (.aload_n 0, 1) := by decide +kernel
theorem dJ7_fill_53178_3 : decode cJ7_fill_53178 3 = .ok (.arraylength, 1) := by decide +kernel
theorem dJ7_fill_53178_4 : decode cJ7_fill_53178 4 = .ok (.istore_n 3, 1) := by decide +kernel
theorem dJ7_fill_53178_5 : decode cJ7_fill_53178 5 = .ok (.iload_n 2, 1) := by decide +kernel
theorem dJ7_fill_53178_6 : decode cJ7_fill_53178 6 = .ok (.iload_n 3, 1) := by decide +kernel
theorem dJ7_fill_53178_7 : decode cJ7_fill_53178 7 = .ok (.if_icmp .ge 13, 3) := by decide +kernel
theorem dJ7_fill_53178_10 : decode cJ7_fill_53178 10 = .ok (.aload_n 0, 1) := by decide +kernel
theorem dJ7_fill_53178_11 : decode cJ7_fill_53178 11 = .ok (.iload_n 2, 1) := by decide +kernel
theorem dJ7_fill_53178_12 : decode cJ7_fill_53178 12 = .ok (.iload_n 1, 1) := by decide +kernel
theorem dJ7_fill_53178_13 : decode cJ7_fill_53178 13 = .ok (.iastore, 1) := by decide +kernel
theorem dJ7_fill_53178_14 : decode cJ7_fill_53178 14 = .ok (.iinc 2 1, 3) := by decide +kernel
theorem dJ7_fill_53178_17 : decode cJ7_fill_53178 17 = .ok (.goto (-12), 3) := by decide +kernel
theorem dJ7_fill_53178_20 : decode cJ7_fill_53178 20 = .ok (.return_, 1) := by decide +kernel
theorem dJ3_checkIndex_8e157_0 : decode cJ3_checkIndex_8e157 0 = .ok (.iload_n 0, 1) := by decide +kernel
theorem dJ3_checkIndex_8e157_1 : decode cJ3_checkIndex_8e157 1 = .ok (.ifCond .lt 8, 3) := by decide +kernel
theorem dJ3_checkIndex_8e157_4 : decode cJ3_checkIndex_8e157 4 = .ok (.iload_n 0, 1) := by decide +kernel
theorem dJ3_checkIndex_8e157_5 : decode cJ3_checkIndex_8e157 5 = .ok (.iload_n 1, 1) := by decide +kernel
theorem dJ3_checkIndex_8e157_6 : decode cJ3_checkIndex_8e157 6 = .ok (.if_icmp .lt 10, 3) := by decide +kernel
theorem dJ3_checkIndex_8e157_9 : decode cJ3_checkIndex_8e157 9 = .ok (.aload_n 2, 1) := by decide +kernel
theorem dJ3_checkIndex_8e157_10 : decode cJ3_checkIndex_8e157 10 = .ok (.iload_n 0, 1) := by decide +kernel
theorem dJ3_checkIndex_8e157_11 : decode cJ3_checkIndex_8e157 11 = .ok (.iload_n 1, 1) := by decide +kernel
theorem dJ3_checkIndex_8e157_12 : decode cJ3_checkIndex_8e157 12 = .ok (.invokestatic 95, 3) := by decide +kernel
theorem dJ3_checkIndex_8e157_15 : decode cJ3_checkIndex_8e157 15 = .ok (.athrow, 1) := by decide +kernel
theorem dJ3_checkIndex_8e157_16 : decode cJ3_checkIndex_8e157 16 = .ok (.iload_n 0, 1) := by decide +kernel
theorem dJ3_checkIndex_8e157_17 : decode cJ3_checkIndex_8e157 17 = .ok (.ireturn, 1) := by decide +kernel
