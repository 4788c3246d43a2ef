theorem dX0_init_0 : decode cX0_init 0 = .ok (.aload_n 0, 1) := by decide +kernel
theorem dX0_init_1 : decode cX0_init 1 = .ok (.invokespecial 3, 3) := by decide +kernel
theorem dX0_init_4 : decode cX0_init 4 = .ok (.aload_n 0, 1) := by decide +kernel
theorem dX0_init_5 : decode cX0_init 5 = .ok (.new 9, 3) := by decide +kernel
theorem dX0_init_8 : decode cX0_init 8 = .ok (.dup, 1) := by decide +kernel
theorem dX0_init_9 : decode cX0_init 9 = .ok (.invokespecial 11, 3) := by decide +kernel
theorem dX0_init_12 : decode cX0_init 12 = .ok (.putfield 12, 3) := by decide +kernel
theorem dX0_init_15 : decode cX0_init 15 = .ok (.aload_n 0, 1) := by decide +kernel
theorem dX0_init_16 : decode cX0_init 16 = .ok (.bipush 8, 2) := by decide +kernel
theorem dX0_init_18 : decode cX0_init 18 = .ok (.newarray .int, 2) := by decide +kernel
theorem dX0_init_20 : decode cX0_init 20 = .ok (.putfield 18, 3) := by decide +kernel
theorem dX0_init_23 : decode cX0_init 23 = .ok (.aload_n 0, 1) := by decide +kernel
theorem dX0_init_24 : decode cX0_init 24 = .ok (.bipush 6, 2) := by decide +kernel
theorem dX0_init_26 : decode cX0_init 26 = .ok (.newarray .int, 2) := by decide +kernel
theorem dX0_init_28 : decode cX0_init 28 = .ok (.putfield 22, 3) := by decide +kernel
theorem dX0_init_31 : decode cX0_init 31 = .ok (.aload_n 0, 1) := by decide +kernel
theorem dX0_init_32 : decode cX0_init 32 = .ok (.iconst 0, 1) := by decide +kernel
theorem dX0_init_33 : decode cX0_init 33 = .ok (.putfield 25, 3) := by decide +kernel
theorem dX0_init_36 : decode cX0_init 36 = .ok (.return_, 1) := by decide +kernel
theorem dX0_turnsTill_0 : decode cX0_turnsTill 0 = .ok (.aload_n 0, 1) := by decide +kernel
theorem dX0_turnsTill_1 : decode cX0_turnsTill 1 = .ok (.getfield 12, 3) := by decide +kernel
theorem dX0_turnsTill_4 : decode cX0_turnsTill 4 = .ok (.aload_n 1, 1) := by decide +kernel
theorem dX0_turnsTill_5 : decode cX0_turnsTill 5 = .ok (.getfield 29, 3) := by decide +kernel
theorem dX0_turnsTill_8 : decode cX0_turnsTill 8 = .ok (.invokevirtual 34, 3) := by decide +kernel
theorem dX0_turnsTill_11 : decode cX0_turnsTill 11 = .ok (.aload_n 0, 1) := by decide +kernel
theorem dX0_turnsTill_12 : decode cX0_turnsTill 12 = .ok (.aload_n 1, 1) := by decide +kernel
theorem dX0_turnsTill_13 : decode cX0_turnsTill 13 = .ok (.iload_n 2, 1) := by decide +kernel
theorem dX0_turnsTill_14 : decode cX0_turnsTill 14 = .ok (.iload_n 3, 1) := by decide +kernel
theorem dX0_turnsTill_15 : decode cX0_turnsTill 15 = .ok (.sipush 999, 3) := by decide +kernel
theorem dX0_turnsTill_18 : decode cX0_turnsTill 18 = .ok (.invokevirtual 38, 3) := by decide +kernel
theorem dX0_turnsTill_21 : decode cX0_turnsTill 21 = .ok (.ireturn, 1) := by decide +kernel
theorem dX0_behind_0 : decode cX0_behind 0 = .ok (.aload_n 0, 1) := by decide +kernel
theorem dX0_behind_1 : decode cX0_behind 1 = .ok (.getfield 12, 3) := by decide +kernel
theorem dX0_behind_4 : decode cX0_behind 4 = .ok (.aload_n 1, 1) := by decide +kernel
theorem dX0_behind_5 : decode cX0_behind 5 = .ok (.getfield 29, 3) := by decide +kernel
theorem dX0_behind_8 : decode cX0_behind 8 = .ok (.invokevirtual 34, 3) := by decide +kernel
theorem dX0_behind_11 : decode cX0_behind 11 = .ok (.aload_n 0, 1) := by decide +kernel
theorem dX0_behind_12 : decode cX0_behind 12 = .ok (.getfield 12, 3) := by decide +kernel
theorem dX0_behind_15 : decode cX0_behind 15 = .ok (.aload_n 1, 1) := by decide +kernel
theorem dX0_behind_16 : decode cX0_behind 16 = .ok (.iload_n 2, 1) := by decide +kernel
theorem dX0_behind_17 : decode cX0_behind 17 = .ok (.invokevirtual 42, 3) := by decide +kernel
theorem dX0_behind_20 : decode cX0_behind 20 = .ok (.aload_n 0, 1) := by decide +kernel
theorem dX0_behind_21 : decode cX0_behind 21 = .ok (.getfield 12, 3) := by decide +kernel
theorem dX0_behind_24 : decode cX0_behind 24 = .ok (.areturn, 1) := by decide +kernel
theorem dX0_probeTill_0 : decode cX0_probeTill 0 = .ok (.iconst 0, 1) := by decide +kernel
theorem dX0_probeTill_1 : decode cX0_probeTill 1 = .ok (.istore 5, 2) := by decide +kernel
theorem dX0_probeTill_3 : decode cX0_probeTill 3 = .ok (.iconst 0, 1) := by decide +kernel
theorem dX0_probeTill_4 : decode cX0_probeTill 4 = .ok (.istore 6, 2) := by decide +kernel
theorem dX0_probeTill_6 : decode cX0_probeTill 6 = .ok (.iload 6, 2) := by decide +kernel
theorem dX0_probeTill_8 : decode cX0_probeTill 8 = .ok (.iload 4, 2) := by decide +kernel
theorem dX0_probeTill_10 : decode cX0_probeTill 10 = .ok (.if_icmp .gt 59, 3) := by decide +kernel
theorem dX0_probeTill_13 : decode cX0_probeTill 13 = .ok (.aload_n 0, 1) := by decide +kernel
theorem dX0_probeTill_14 : decode cX0_probeTill 14 = .ok (.getfield 12, 3) := by decide +kernel
theorem dX0_probeTill_17 : decode cX0_probeTill 17 = .ok (.iload_n 2, 1) := by decide +kernel
theorem dX0_probeTill_18 : decode cX0_probeTill 18 = .ok (.iload_n 3, 1) := by decide +kernel
theorem dX0_probeTill_19 : decode cX0_probeTill 19 = .ok (.invokevirtual 46, 3) := by decide +kernel
theorem dX0_probeTill_22 : decode cX0_probeTill 22 = .ok (.ifCond .eq 6, 3) := by decide +kernel
theorem dX0_probeTill_25 : decode cX0_probeTill 25 = .ok (.iload 6, 2) := by decide +kernel
theorem dX0_probeTill_27 : decode cX0_probeTill 27 = .ok (.ireturn, 1) := by decide +kernel
theorem dX0_probeTill_28 : decode cX0_probeTill 28 = .ok (.iload 5, 2) := by decide +kernel
theorem dX0_probeTill_30 : decode cX0_probeTill 30 = .ok (.aload_n 0, 1) := by decide +kernel
theorem dX0_probeTill_31 : decode cX0_probeTill 31 = .ok (.getfield 12, 3) := by decide +kernel
theorem dX0_probeTill_34 : decode cX0_probeTill 34 = .ok (.getfield 50, 3) := by decide +kernel
theorem dX0_probeTill_37 : decode cX0_probeTill 37 = .ok (.if_icmp .lt 5, 3) := by decide +kernel
theorem dX0_probeTill_40 : decode cX0_probeTill 40 = .ok (.iconst (-1), 1) := by decide +kernel
theorem dX0_probeTill_41 : decode cX0_probeTill 41 = .ok (.ireturn, 1) := by decide +kernel
theorem dX0_probeTill_42 : decode cX0_probeTill 42 = .ok (.aload_n 0, 1) := by decide +kernel
theorem dX0_probeTill_43 : decode cX0_probeTill 43 = .ok (.getfield 12, 3) := by decide +kernel
theorem dX0_probeTill_46 : decode cX0_probeTill 46 = .ok (.aload_n 1, 1) := by decide +kernel
theorem dX0_probeTill_47 : decode cX0_probeTill 47 = .ok (.invokevirtual 53, 3) := by decide +kernel
theorem dX0_probeTill_50 : decode cX0_probeTill 50 = .ok (.ifCond .eq 7, 3) := by decide +kernel
theorem dX0_probeTill_53 : decode cX0_probeTill 53 = .ok (.iconst 0, 1) := by decide +kernel
theorem dX0_probeTill_54 : decode cX0_probeTill 54 = .ok (.goto 7, 3) := by decide +kernel
theorem dX0_probeTill_57 : decode cX0_probeTill 57 = .ok (.iload 5, 2) := by decide +kernel
theorem dX0_probeTill_59 : decode cX0_probeTill 59 = .ok (.iconst 1, 1) := by decide +kernel
theorem dX0_probeTill_60 : decode cX0_probeTill 60 = .ok (.iadd, 1) := by decide +kernel
theorem dX0_probeTill_61 : decode cX0_probeTill 61 = .ok (.istore 5, 2) := by decide +kernel
theorem dX0_probeTill_63 : decode cX0_probeTill 63 = .ok (.iinc 6 1, 3) := by decide +kernel
theorem dX0_probeTill_66 : decode cX0_probeTill 66 = .ok (.goto (-60), 3) := by decide +kernel
theorem dX0_probeTill_69 : decode cX0_probeTill 69 = .ok (.iconst (-1), 1) := by decide +kernel
theorem dX0_probeTill_70 : decode cX0_probeTill 70 = .ok (.ireturn, 1) := by decide +kernel
theorem dX0_seekBest_0 : decode cX0_seekBest 0 = .ok (.aload_n 1, 1) := by decide +kernel
theorem dX0_seekBest_1 : decode cX0_seekBest 1 = .ok (.getfield 29, 3) := by decide +kernel
theorem dX0_seekBest_4 : decode cX0_seekBest 4 = .ok (.getfield 50, 3) := by decide +kernel
theorem dX0_seekBest_7 : decode cX0_seekBest 7 = .ok (.istore_n 2, 1) := by decide +kernel
theorem dX0_seekBest_8 : decode cX0_seekBest 8 = .ok (.iload_n 2, 1) := by decide +kernel
theorem dX0_seekBest_9 : decode cX0_seekBest 9 = .ok (.bipush 6, 2) := by decide +kernel
theorem dX0_seekBest_11 : decode cX0_seekBest 11 = .ok (.if_icmp .le 5, 3) := by decide +kernel
theorem dX0_seekBest_14 : decode cX0_seekBest 14 = .ok (.iconst (-1), 1) := by decide +kernel
theorem dX0_seekBest_15 : decode cX0_seekBest 15 = .ok (.ireturn, 1) := by decide +kernel
theorem dX0_seekBest_16 : decode cX0_seekBest 16 = .ok (.aload_n 0, 1) := by decide +kernel
theorem dX0_seekBest_17 : decode cX0_seekBest 17 = .ok (.aload_n 1, 1) := by decide +kernel
theorem dX0_seekBest_18 : decode cX0_seekBest 18 = .ok (.getfield 29, 3) := by decide +kernel
theorem dX0_seekBest_21 : decode cX0_seekBest 21 = .ok (.invokevirtual 57, 3) := by decide +kernel
theorem dX0_seekBest_24 : decode cX0_seekBest 24 = .ok (.bipush 100, 2) := by decide +kernel
theorem dX0_seekBest_26 : decode cX0_seekBest 26 = .ok (.istore_n 3, 1) := by decide +kernel
theorem dX0_seekBest_27 : decode cX0_seekBest 27 = .ok (.iconst 1, 1) := by decide +kernel
theorem dX0_seekBest_28 : decode cX0_seekBest 28 = .ok (.istore 4, 2) := by decide +kernel
theorem dX0_seekBest_30 : decode cX0_seekBest 30 = .ok (.iconst 0, 1) := by decide +kernel
theorem dX0_seekBest_31 : decode cX0_seekBest 31 = .ok (.istore 5, 2) := by decide +kernel
theorem dX0_seekBest_33 : decode cX0_seekBest 33 = .ok (.iload 5, 2) := by decide +kernel
theorem dX0_seekBest_35 : decode cX0_seekBest 35 = .ok (.sipush 720, 3) := by decide +kernel
theorem dX0_seekBest_38 : decode cX0_seekBest 38 = .ok (.if_icmp .ge 93, 3) := by decide +kernel
theorem dX0_seekBest_41 : decode cX0_seekBest 41 = .ok (.iload 4, 2) := by decide +kernel
theorem dX0_seekBest_43 : decode cX0_seekBest 43 = .ok (.ifCond .eq 88, 3) := by decide +kernel
theorem dX0_seekBest_46 : decode cX0_seekBest 46 = .ok (.iload_n 3, 1) := by decide +kernel
theorem dX0_seekBest_47 : decode cX0_seekBest 47 = .ok (.ifCond .le 84, 3) := by decide +kernel
theorem dX0_seekBest_50 : decode cX0_seekBest 50 = .ok (.aload_n 0, 1) := by decide +kernel
theorem dX0_seekBest_51 : decode cX0_seekBest 51 = .ok (.getfield 12, 3) := by decide +kernel
theorem dX0_seekBest_54 : decode cX0_seekBest 54 = .ok (.aload_n 1, 1) := by decide +kernel
theorem dX0_seekBest_55 : decode cX0_seekBest 55 = .ok (.getfield 29, 3) := by decide +kernel
theorem dX0_seekBest_58 : decode cX0_seekBest 58 = .ok (.invokevirtual 34, 3) := by decide +kernel
theorem dX0_seekBest_61 : decode cX0_seekBest 61 = .ok (.aload_n 0, 1) := by decide +kernel
theorem dX0_seekBest_62 : decode cX0_seekBest 62 = .ok (.getfield 12, 3) := by decide +kernel
theorem dX0_seekBest_65 : decode cX0_seekBest 65 = .ok (.aload_n 0, 1) := by decide +kernel
theorem dX0_seekBest_66 : decode cX0_seekBest 66 = .ok (.getfield 18, 3) := by decide +kernel
theorem dX0_seekBest_69 : decode cX0_seekBest 69 = .ok (.invokevirtual 60, 3) := by decide +kernel
theorem dX0_seekBest_72 : decode cX0_seekBest 72 = .ok (.aload_n 0, 1) := by decide +kernel
theorem dX0_seekBest_73 : decode cX0_seekBest 73 = .ok (.aload_n 1, 1) := by decide +kernel
theorem dX0_seekBest_74 : decode cX0_seekBest 74 = .ok (.aload_n 1, 1) := by decide +kernel
theorem dX0_seekBest_75 : decode cX0_seekBest 75 = .ok (.invokevirtual 64, 3) := by decide +kernel
theorem dX0_seekBest_78 : decode cX0_seekBest 78 = .ok (.aload_n 1, 1) := by decide +kernel
theorem dX0_seekBest_79 : decode cX0_seekBest 79 = .ok (.invokevirtual 68, 3) := by decide +kernel
theorem dX0_seekBest_82 : decode cX0_seekBest 82 = .ok (.iload_n 3, 1) := by decide +kernel
theorem dX0_seekBest_83 : decode cX0_seekBest 83 = .ok (.iconst 1, 1) := by decide +kernel
theorem dX0_seekBest_84 : decode cX0_seekBest 84 = .ok (.isub, 1) := by decide +kernel
theorem dX0_seekBest_85 : decode cX0_seekBest 85 = .ok (.invokevirtual 38, 3) := by decide +kernel
theorem dX0_seekBest_88 : decode cX0_seekBest 88 = .ok (.istore 6, 2) := by decide +kernel
theorem dX0_seekBest_90 : decode cX0_seekBest 90 = .ok (.iload 6, 2) := by decide +kernel
theorem dX0_seekBest_92 : decode cX0_seekBest 92 = .ok (.iconst (-1), 1) := by decide +kernel
theorem dX0_seekBest_93 : decode cX0_seekBest 93 = .ok (.if_icmp .eq 25, 3) := by decide +kernel
theorem dX0_seekBest_96 : decode cX0_seekBest 96 = .ok (.iload 6, 2) := by decide +kernel
theorem dX0_seekBest_98 : decode cX0_seekBest 98 = .ok (.istore_n 3, 1) := by decide +kernel
theorem dX0_seekBest_99 : decode cX0_seekBest 99 = .ok (.aload_n 0, 1) := by decide +kernel
theorem dX0_seekBest_100 : decode cX0_seekBest 100 = .ok (.iload_n 2, 1) := by decide +kernel
theorem dX0_seekBest_101 : decode cX0_seekBest 101 = .ok (.putfield 25, 3) := by decide +kernel
theorem dX0_seekBest_104 : decode cX0_seekBest 104 = .ok (.aload_n 0, 1) := by decide +kernel
theorem dX0_seekBest_105 : decode cX0_seekBest 105 = .ok (.getfield 18, 3) := by decide +kernel
theorem dX0_seekBest_108 : decode cX0_seekBest 108 = .ok (.iconst 0, 1) := by decide +kernel
theorem dX0_seekBest_109 : decode cX0_seekBest 109 = .ok (.aload_n 0, 1) := by decide +kernel
theorem dX0_seekBest_110 : decode cX0_seekBest 110 = .ok (.getfield 22, 3) := by decide +kernel
theorem dX0_seekBest_113 : decode cX0_seekBest 113 = .ok (.iconst 0, 1) := by decide +kernel
theorem dX0_seekBest_114 : decode cX0_seekBest 114 = .ok (.iload_n 2, 1) := by decide +kernel
theorem dX0_seekBest_115 : decode cX0_seekBest 115 = .ok (.invokestatic 71, 3) := by decide +kernel
theorem dX0_seekBest_118 : decode cX0_seekBest 118 = .ok (.aload_n 0, 1) := by decide +kernel
theorem dX0_seekBest_119 : decode cX0_seekBest 119 = .ok (.iload_n 2, 1) := by decide +kernel
theorem dX0_seekBest_120 : decode cX0_seekBest 120 = .ok (.invokevirtual 77, 3) := by decide +kernel
theorem dX0_seekBest_123 : decode cX0_seekBest 123 = .ok (.istore 4, 2) := by decide +kernel
theorem dX0_seekBest_125 : decode cX0_seekBest 125 = .ok (.iinc 5 1, 3) := by decide +kernel
theorem dX0_seekBest_128 : decode cX0_seekBest 128 = .ok (.goto (-95), 3) := by decide +kernel
theorem dX0_seekBest_131 : decode cX0_seekBest 131 = .ok (.iload_n 3, 1) := by decide +kernel
theorem dX0_seekBest_132 : decode cX0_seekBest 132 = .ok (.bipush 99, 2) := by decide +kernel
theorem dX0_seekBest_134 : decode cX0_seekBest 134 = .ok (.if_icmp .le 7, 3) := by decide +kernel
theorem dX0_seekBest_137 : decode cX0_seekBest 137 = .ok (.iconst (-1), 1) := by decide +kernel
theorem dX0_seekBest_138 : decode cX0_seekBest 138 = .ok (.goto 4, 3) := by decide +kernel
theorem dX0_seekBest_141 : decode cX0_seekBest 141 = .ok (.iload_n 3, 1) := by decide +kernel
theorem dX0_seekBest_142 : decode cX0_seekBest 142 = .ok (.ireturn, 1) := by decide +kernel
theorem dX0_sortInto_0 : decode cX0_sortInto 0 = .ok (.iconst 0, 1) := by decide +kernel
theorem dX0_sortInto_1 : decode cX0_sortInto 1 = .ok (.istore_n 2, 1) := by decide +kernel
theorem dX0_sortInto_2 : decode cX0_sortInto 2 = .ok (.iconst 0, 1) := by decide +kernel
theorem dX0_sortInto_3 : decode cX0_sortInto 3 = .ok (.istore_n 3, 1) := by decide +kernel
theorem dX0_sortInto_4 : decode cX0_sortInto 4 = .ok (.iload_n 3, 1) := by decide +kernel
theorem dX0_sortInto_5 : decode cX0_sortInto 5 = .ok (.bipush 8, 2) := by decide +kernel
theorem dX0_sortInto_7 : decode cX0_sortInto 7 = .ok (.if_icmp .ge 28, 3) := by decide +kernel
theorem dX0_sortInto_10 : decode cX0_sortInto 10 = .ok (.aload_n 1, 1) := by decide +kernel
theorem dX0_sortInto_11 : decode cX0_sortInto 11 = .ok (.iload_n 3, 1) := by decide +kernel
theorem dX0_sortInto_12 : decode cX0_sortInto 12 = .ok (.invokevirtual 81, 3) := by decide +kernel
theorem dX0_sortInto_15 : decode cX0_sortInto 15 = .ok (.iconst (-1), 1) := by decide +kernel
theorem dX0_sortInto_16 : decode cX0_sortInto 16 = .ok (.if_icmp .eq 13, 3) := by decide +kernel
theorem dX0_sortInto_19 : decode cX0_sortInto 19 = .ok (.aload_n 0, 1) := by decide +kernel
theorem dX0_sortInto_20 : decode cX0_sortInto 20 = .ok (.getfield 18, 3) := by decide +kernel
theorem dX0_sortInto_23 : decode cX0_sortInto 23 = .ok (.iload_n 2, 1) := by decide +kernel
theorem dX0_sortInto_24 : decode cX0_sortInto 24 = .ok (.iload_n 3, 1) := by decide +kernel
theorem dX0_sortInto_25 : decode cX0_sortInto 25 = .ok (.iastore, 1) := by decide +kernel
theorem dX0_sortInto_26 : decode cX0_sortInto 26 = .ok (.iinc 2 1, 3) := by decide +kernel
theorem dX0_sortInto_29 : decode cX0_sortInto 29 = .ok (.iinc 3 1, 3) := by decide +kernel
theorem dX0_sortInto_32 : decode cX0_sortInto 32 = .ok (.goto (-28), 3) := by decide +kernel
theorem dX0_sortInto_35 : decode cX0_sortInto 35 = .ok (.return_, 1) := by decide +kernel
theorem dX0_permute_0 : decode cX0_permute 0 = .ok (.iload_n 1, 1) := by decide +kernel
theorem dX0_permute_1 : decode cX0_permute 1 = .ok (.iconst 2, 1) := by decide +kernel
theorem dX0_permute_2 : decode cX0_permute 2 = .ok (.isub, 1) := by decide +kernel
theorem dX0_permute_3 : decode cX0_permute 3 = .ok (.istore_n 2, 1) := by decide +kernel
theorem dX0_permute_4 : decode cX0_permute 4 = .ok (.iload_n 2, 1) := by decide +kernel
theorem dX0_permute_5 : decode cX0_permute 5 = .ok (.ifCond .lt 26, 3) := by decide +kernel
theorem dX0_permute_8 : decode cX0_permute 8 = .ok (.aload_n 0, 1) := by decide +kernel
theorem dX0_permute_9 : decode cX0_permute 9 = .ok (.getfield 18, 3) := by decide +kernel
theorem dX0_permute_12 : decode cX0_permute 12 = .ok (.iload_n 2, 1) := by decide +kernel
theorem dX0_permute_13 : decode cX0_permute 13 = .ok (.iaload, 1) := by decide +kernel
theorem dX0_permute_14 : decode cX0_permute 14 = .ok (.aload_n 0, 1) := by decide +kernel
theorem dX0_permute_15 : decode cX0_permute 15 = .ok (.getfield 18, 3) := by decide +kernel
theorem dX0_permute_18 : decode cX0_permute 18 = .ok (.iload_n 2, 1) := by decide +kernel
theorem dX0_permute_19 : decode cX0_permute 19 = .ok (.iconst 1, 1) := by decide +kernel
theorem dX0_permute_20 : decode cX0_permute 20 = .ok (.iadd, 1) := by decide +kernel
theorem dX0_permute_21 : decode cX0_permute 21 = .ok (.iaload, 1) := by decide +kernel
theorem dX0_permute_22 : decode cX0_permute 22 = .ok (.if_icmp .le 9, 3) := by decide +kernel
theorem dX0_permute_25 : decode cX0_permute 25 = .ok (.iinc 2 (-1), 3) := by decide +kernel
theorem dX0_permute_28 : decode cX0_permute 28 = .ok (.goto (-24), 3) := by decide +kernel
theorem dX0_permute_31 : decode cX0_permute 31 = .ok (.iload_n 2, 1) := by decide +kernel
theorem dX0_permute_32 : decode cX0_permute 32 = .ok (.ifCond .ge 5, 3) := by decide +kernel
theorem dX0_permute_35 : decode cX0_permute 35 = .ok (.iconst 0, 1) := by decide +kernel
theorem dX0_permute_36 : decode cX0_permute 36 = .ok (.ireturn, 1) := by decide +kernel
theorem dX0_permute_37 : decode cX0_permute 37 = .ok (.iload_n 1, 1) := by decide +kernel
theorem dX0_permute_38 : decode cX0_permute 38 = .ok (.iconst 1, 1) := by decide +kernel
theorem dX0_permute_39 : decode cX0_permute 39 = .ok (.isub, 1) := by decide +kernel
theorem dX0_permute_40 : decode cX0_permute 40 = .ok (.istore_n 3, 1) := by decide +kernel
theorem dX0_permute_41 : decode cX0_permute 41 = .ok (.iload_n 3, 1) := by decide +kernel
theorem dX0_permute_42 : decode cX0_permute 42 = .ok (.iload_n 2, 1) := by decide +kernel
theorem dX0_permute_43 : decode cX0_permute 43 = .ok (.iconst 1, 1) := by decide +kernel
theorem dX0_permute_44 : decode cX0_permute 44 = .ok (.iadd, 1) := by decide +kernel
theorem dX0_permute_45 : decode cX0_permute 45 = .ok (.if_icmp .le 24, 3) := by decide +kernel
theorem dX0_permute_48 : decode cX0_permute 48 = .ok (.aload_n 0, 1) := by decide +kernel
theorem dX0_permute_49 : decode cX0_permute 49 = .ok (.getfield 18, 3) := by decide +kernel
theorem dX0_permute_52 : decode cX0_permute 52 = .ok (.iload_n 3, 1) := by decide +kernel
theorem dX0_permute_53 : decode cX0_permute 53 = .ok (.iaload, 1) := by decide +kernel
theorem dX0_permute_54 : decode cX0_permute 54 = .ok (.aload_n 0, 1) := by decide +kernel
theorem dX0_permute_55 : decode cX0_permute 55 = .ok (.getfield 18, 3) := by decide +kernel
theorem dX0_permute_58 : decode cX0_permute 58 = .ok (.iload_n 2, 1) := by decide +kernel
theorem dX0_permute_59 : decode cX0_permute 59 = .ok (.iaload, 1) := by decide +kernel
theorem dX0_permute_60 : decode cX0_permute 60 = .ok (.if_icmp .ge 9, 3) := by decide +kernel
theorem dX0_permute_63 : decode cX0_permute 63 = .ok (.iinc 3 (-1), 3) := by decide +kernel
theorem dX0_permute_66 : decode cX0_permute 66 = .ok (.goto (-25), 3) := by decide +kernel
theorem dX0_permute_69 : decode cX0_permute 69 = .ok (.aload_n 0, 1) := by decide +kernel
theorem dX0_permute_70 : decode cX0_permute 70 = .ok (.iload_n 2, 1) := by decide +kernel
theorem dX0_permute_71 : decode cX0_permute 71 = .ok (.iload_n 3, 1) := by decide +kernel
theorem dX0_permute_72 : decode cX0_permute 72 = .ok (.invokevirtual 85, 3) := by decide +kernel
theorem dX0_permute_75 : decode cX0_permute 75 = .ok (.iload_n 2, 1) := by decide +kernel
theorem dX0_permute_76 : decode cX0_permute 76 = .ok (.iconst 1, 1) := by decide +kernel
theorem dX0_permute_77 : decode cX0_permute 77 = .ok (.iadd, 1) := by decide +kernel
theorem dX0_permute_78 : decode cX0_permute 78 = .ok (.istore 4, 2) := by decide +kernel
theorem dX0_permute_80 : decode cX0_permute 80 = .ok (.iload_n 1, 1) := by decide +kernel
theorem dX0_permute_81 : decode cX0_permute 81 = .ok (.iconst 1, 1) := by decide +kernel
theorem dX0_permute_82 : decode cX0_permute 82 = .ok (.isub, 1) := by decide +kernel
theorem dX0_permute_83 : decode cX0_permute 83 = .ok (.istore 5, 2) := by decide +kernel
theorem dX0_permute_85 : decode cX0_permute 85 = .ok (.iload 4, 2) := by decide +kernel
theorem dX0_permute_87 : decode cX0_permute 87 = .ok (.iload 5, 2) := by decide +kernel
theorem dX0_permute_89 : decode cX0_permute 89 = .ok (.if_icmp .ge 20, 3) := by decide +kernel
theorem dX0_permute_92 : decode cX0_permute 92 = .ok (.aload_n 0, 1) := by decide +kernel
theorem dX0_permute_93 : decode cX0_permute 93 = .ok (.iload 4, 2) := by decide +kernel
theorem dX0_permute_95 : decode cX0_permute 95 = .ok (.iload 5, 2) := by decide +kernel
theorem dX0_permute_97 : decode cX0_permute 97 = .ok (.invokevirtual 85, 3) := by decide +kernel
theorem dX0_permute_100 : decode cX0_permute 100 = .ok (.iinc 4 1, 3) := by decide +kernel
theorem dX0_permute_103 : decode cX0_permute 103 = .ok (.iinc 5 (-1), 3) := by decide +kernel
theorem dX0_permute_106 : decode cX0_permute 106 = .ok (.goto (-21), 3) := by decide +kernel
theorem dX0_permute_109 : decode cX0_permute 109 = .ok (.iconst 1, 1) := by decide +kernel
theorem dX0_permute_110 : decode cX0_permute 110 = .ok (.ireturn, 1) := by decide +kernel
theorem dX0_swap_0 : decode cX0_swap 0 = .ok (.aload_n 0, 1) := by decide +kernel
theorem dX0_swap_1 : decode cX0_swap 1 = .ok (.getfield 18, 3) := by decide +kernel
theorem dX0_swap_4 : decode cX0_swap 4 = .ok (.iload_n 1, 1) := by decide +kernel
theorem dX0_swap_5 : decode cX0_swap 5 = .ok (.iaload, 1) := by decide +kernel
theorem dX0_swap_6 : decode cX0_swap 6 = .ok (.istore_n 3, 1) := by decide +kernel
theorem dX0_swap_7 : decode cX0_swap 7 = .ok (.aload_n 0, 1) := by decide +kernel
theorem dX0_swap_8 : decode cX0_swap 8 = .ok (.getfield 18, 3) := by decide +kernel
theorem dX0_swap_11 : decode cX0_swap 11 = .ok (.iload_n 1, 1) := by decide +kernel
theorem dX0_swap_12 : decode cX0_swap 12 = .ok (.aload_n 0, 1) := by decide +kernel
theorem dX0_swap_13 : decode cX0_swap 13 = .ok (.getfield 18, 3) := by decide +kernel
theorem dX0_swap_16 : decode cX0_swap 16 = .ok (.iload_n 2, 1) := by decide +kernel
theorem dX0_swap_17 : decode cX0_swap 17 = .ok (.iaload, 1) := by decide +kernel
theorem dX0_swap_18 : decode cX0_swap 18 = .ok (.iastore, 1) := by decide +kernel
theorem dX0_swap_19 : decode cX0_swap 19 = .ok (.aload_n 0, 1) := by decide +kernel
theorem dX0_swap_20 : decode cX0_swap 20 = .ok (.getfield 18, 3) := by decide +kernel
theorem dX0_swap_23 : decode cX0_swap 23 = .ok (.iload_n 2, 1) := by decide +kernel
theorem dX0_swap_24 : decode cX0_swap 24 = .ok (.iload_n 3, 1) := by decide +kernel
theorem dX0_swap_25 : decode cX0_swap 25 = .ok (.iastore, 1) := by decide +kernel
theorem dX0_swap_26 : decode cX0_swap 26 = .ok (.return_, 1) := by decide +kernel
theorem dX1_init_0 : decode cX1_init 0 = .ok (.aload_n 0, 1) := by decide +kernel
theorem dX1_init_1 : decode cX1_init 1 = .ok (.invokespecial 3, 3) := by decide +kernel
theorem dX1_init_4 : decode cX1_init 4 = .ok (.aload_n 0, 1) := by decide +kernel
theorem dX1_init_5 : decode cX1_init 5 = .ok (.iconst 0, 1) := by decide +kernel
theorem dX1_init_6 : decode cX1_init 6 = .ok (.putfield 9, 3) := by decide +kernel
theorem dX1_init_9 : decode cX1_init 9 = .ok (.aload_n 0, 1) := by decide +kernel
theorem dX1_init_10 : decode cX1_init 10 = .ok (.iconst 0, 1) := by decide +kernel
theorem dX1_init_11 : decode cX1_init 11 = .ok (.putfield 15, 3) := by decide +kernel
theorem dX1_init_14 : decode cX1_init 14 = .ok (.aload_n 0, 1) := by decide +kernel
theorem dX1_init_15 : decode cX1_init 15 = .ok (.iconst 0, 1) := by decide +kernel
theorem dX1_init_16 : decode cX1_init 16 = .ok (.putfield 18, 3) := by decide +kernel
theorem dX1_init_19 : decode cX1_init 19 = .ok (.aload_n 0, 1) := by decide +kernel
theorem dX1_init_20 : decode cX1_init 20 = .ok (.bipush 8, 2) := by decide +kernel
theorem dX1_init_22 : decode cX1_init 22 = .ok (.newarray .long, 2) := by decide +kernel
theorem dX1_init_24 : decode cX1_init 24 = .ok (.putfield 21, 3) := by decide +kernel
theorem dX1_init_27 : decode cX1_init 27 = .ok (.aload_n 0, 1) := by decide +kernel
theorem dX1_init_28 : decode cX1_init 28 = .ok (.bipush 6, 2) := by decide +kernel
theorem dX1_init_30 : decode cX1_init 30 = .ok (.newarray .long, 2) := by decide +kernel
theorem dX1_init_32 : decode cX1_init 32 = .ok (.putfield 25, 3) := by decide +kernel
theorem dX1_init_35 : decode cX1_init 35 = .ok (.aload_n 0, 1) := by decide +kernel
theorem dX1_init_36 : decode cX1_init 36 = .ok (.bipush 6, 2) := by decide +kernel
theorem dX1_init_38 : decode cX1_init 38 = .ok (.newarray .long, 2) := by decide +kernel
theorem dX1_init_40 : decode cX1_init 40 = .ok (.putfield 28, 3) := by decide +kernel
theorem dX1_init_43 : decode cX1_init 43 = .ok (.aload_n 0, 1) := by decide +kernel
theorem dX1_init_44 : decode cX1_init 44 = .ok (.bipush 8, 2) := by decide +kernel
theorem dX1_init_46 : decode cX1_init 46 = .ok (.newarray .int, 2) := by decide +kernel
theorem dX1_init_48 : decode cX1_init 48 = .ok (.putfield 31, 3) := by decide +kernel
theorem dX1_init_51 : decode cX1_init 51 = .ok (.aload_n 0, 1) := by decide +kernel
theorem dX1_init_52 : decode cX1_init 52 = .ok (.iconst 0, 1) := by decide +kernel
theorem dX1_init_53 : decode cX1_init 53 = .ok (.putfield 35, 3) := by decide +kernel
theorem dX1_init_56 : decode cX1_init 56 = .ok (.aload_n 0, 1) := by decide +kernel
theorem dX1_init_57 : decode cX1_init 57 = .ok (.iconst 0, 1) := by decide +kernel
theorem dX1_init_58 : decode cX1_init 58 = .ok (.putfield 38, 3) := by decide +kernel
theorem dX1_init_61 : decode cX1_init 61 = .ok (.aload_n 0, 1) := by decide +kernel
theorem dX1_init_62 : decode cX1_init 62 = .ok (.bipush 6, 2) := by decide +kernel
theorem dX1_init_64 : decode cX1_init 64 = .ok (.newarray .int, 2) := by decide +kernel
theorem dX1_init_66 : decode cX1_init 66 = .ok (.putfield 41, 3) := by decide +kernel
theorem dX1_init_69 : decode cX1_init 69 = .ok (.aload_n 0, 1) := by decide +kernel
theorem dX1_init_70 : decode cX1_init 70 = .ok (.bipush 6, 2) := by decide +kernel
theorem dX1_init_72 : decode cX1_init 72 = .ok (.newarray .int, 2) := by decide +kernel
theorem dX1_init_74 : decode cX1_init 74 = .ok (.putfield 44, 3) := by decide +kernel
theorem dX1_init_77 : decode cX1_init 77 = .ok (.aload_n 0, 1) := by decide +kernel
theorem dX1_init_78 : decode cX1_init 78 = .ok (.new 47, 3) := by decide +kernel
theorem dX1_init_81 : decode cX1_init 81 = .ok (.dup, 1) := by decide +kernel
theorem dX1_init_82 : decode cX1_init 82 = .ok (.invokespecial 49, 3) := by decide +kernel
theorem dX1_init_85 : decode cX1_init 85 = .ok (.putfield 50, 3) := by decide +kernel
theorem dX1_init_88 : decode cX1_init 88 = .ok (.aload_n 0, 1) := by decide +kernel
theorem dX1_init_89 : decode cX1_init 89 = .ok (.new 54, 3) := by decide +kernel
theorem dX1_init_92 : decode cX1_init 92 = .ok (.dup, 1) := by decide +kernel
theorem dX1_init_93 : decode cX1_init 93 = .ok (.invokespecial 56, 3) := by decide +kernel
theorem dX1_init_96 : decode cX1_init 96 = .ok (.putfield 57, 3) := by decide +kernel
theorem dX1_init_99 : decode cX1_init 99 = .ok (.return_, 1) := by decide +kernel
theorem dX1_clear_0 : decode cX1_clear 0 = .ok (.aload_n 0, 1) := by decide +kernel
theorem dX1_clear_1 : decode cX1_clear 1 = .ok (.iconst 0, 1) := by decide +kernel
theorem dX1_clear_2 : decode cX1_clear 2 = .ok (.putfield 9, 3) := by decide +kernel
theorem dX1_clear_5 : decode cX1_clear 5 = .ok (.aload_n 0, 1) := by decide +kernel
theorem dX1_clear_6 : decode cX1_clear 6 = .ok (.iconst 0, 1) := by decide +kernel
theorem dX1_clear_7 : decode cX1_clear 7 = .ok (.putfield 15, 3) := by decide +kernel
theorem dX1_clear_10 : decode cX1_clear 10 = .ok (.aload_n 0, 1) := by decide +kernel
theorem dX1_clear_11 : decode cX1_clear 11 = .ok (.iconst 0, 1) := by decide +kernel
theorem dX1_clear_12 : decode cX1_clear 12 = .ok (.putfield 18, 3) := by decide +kernel
theorem dX1_clear_15 : decode cX1_clear 15 = .ok (.aload_n 0, 1) := by decide +kernel
theorem dX1_clear_16 : decode cX1_clear 16 = .ok (.iconst 0, 1) := by decide +kernel
theorem dX1_clear_17 : decode cX1_clear 17 = .ok (.putfield 35, 3) := by decide +kernel
theorem dX1_clear_20 : decode cX1_clear 20 = .ok (.aload_n 0, 1) := by decide +kernel
theorem dX1_clear_21 : decode cX1_clear 21 = .ok (.iconst 0, 1) := by decide +kernel
theorem dX1_clear_22 : decode cX1_clear 22 = .ok (.putfield 38, 3) := by decide +kernel
theorem dX1_clear_25 : decode cX1_clear 25 = .ok (.aload_n 0, 1) := by decide +kernel
theorem dX1_clear_26 : decode cX1_clear 26 = .ok (.getfield 50, 3) := by decide +kernel
theorem dX1_clear_29 : decode cX1_clear 29 = .ok (.invokevirtual 61, 3) := by decide +kernel
theorem dX1_clear_32 : decode cX1_clear 32 = .ok (.aload_n 0, 1) := by decide +kernel
theorem dX1_clear_33 : decode cX1_clear 33 = .ok (.getfield 57, 3) := by decide +kernel
theorem dX1_clear_36 : decode cX1_clear 36 = .ok (.invokevirtual 64, 3) := by decide +kernel
theorem dX1_clear_39 : decode cX1_clear 39 = .ok (.return_, 1) := by decide +kernel
theorem dX1_copyFrom_0 : decode cX1_copyFrom 0 = .ok (.aload_n 0, 1) := by decide +kernel
theorem dX1_copyFrom_1 : decode cX1_copyFrom 1 = .ok (.aload_n 1, 1) := by decide +kernel
theorem dX1_copyFrom_2 : decode cX1_copyFrom 2 = .ok (.getfield 9, 3) := by decide +kernel
theorem dX1_copyFrom_5 : decode cX1_copyFrom 5 = .ok (.putfield 9, 3) := by decide +kernel
theorem dX1_copyFrom_8 : decode cX1_copyFrom 8 = .ok (.aload_n 0, 1) := by decide +kernel
theorem dX1_copyFrom_9 : decode cX1_copyFrom 9 = .ok (.aload_n 1, 1) := by decide +kernel
theorem dX1_copyFrom_10 : decode cX1_copyFrom 10 = .ok (.getfield 15, 3) := by decide +kernel
theorem dX1_copyFrom_13 : decode cX1_copyFrom 13 = .ok (.putfield 15, 3) := by decide +kernel
theorem dX1_copyFrom_16 : decode cX1_copyFrom 16 = .ok (.aload_n 0, 1) := by decide +kernel
theorem dX1_copyFrom_17 : decode cX1_copyFrom 17 = .ok (.aload_n 1, 1) := by decide +kernel
theorem dX1_copyFrom_18 : decode cX1_copyFrom 18 = .ok (.getfield 18, 3) := by decide +kernel
theorem dX1_copyFrom_21 : decode cX1_copyFrom 21 = .ok (.putfield 18, 3) := by decide +kernel
theorem dX1_copyFrom_24 : decode cX1_copyFrom 24 = .ok (.aload_n 0, 1) := by decide +kernel
theorem dX1_copyFrom_25 : decode cX1_copyFrom 25 = .ok (.aload_n 1, 1) := by decide +kernel
theorem dX1_copyFrom_26 : decode cX1_copyFrom 26 = .ok (.getfield 35, 3) := by decide +kernel
theorem dX1_copyFrom_29 : decode cX1_copyFrom 29 = .ok (.putfield 35, 3) := by decide +kernel
theorem dX1_copyFrom_32 : decode cX1_copyFrom 32 = .ok (.aload_n 0, 1) := by decide +kernel
theorem dX1_copyFrom_33 : decode cX1_copyFrom 33 = .ok (.aload_n 1, 1) := by decide +kernel
theorem dX1_copyFrom_34 : decode cX1_copyFrom 34 = .ok (.getfield 38, 3) := by decide +kernel
theorem dX1_copyFrom_37 : decode cX1_copyFrom 37 = .ok (.putfield 38, 3) := by decide +kernel
theorem dX1_copyFrom_40 : decode cX1_copyFrom 40 = .ok (.aload_n 1, 1) := by decide +kernel
theorem dX1_copyFrom_41 : decode cX1_copyFrom 41 = .ok (.getfield 21, 3) := by decide +kernel
theorem dX1_copyFrom_44 : decode cX1_copyFrom 44 = .ok (.iconst 0, 1) := by decide +kernel
theorem dX1_copyFrom_45 : decode cX1_copyFrom 45 = .ok (.aload_n 0, 1) := by decide +kernel
theorem dX1_copyFrom_46 : decode cX1_copyFrom 46 = .ok (.getfield 21, 3) := by decide +kernel
theorem dX1_copyFrom_49 : decode cX1_copyFrom 49 = .ok (.iconst 0, 1) := by decide +kernel
theorem dX1_copyFrom_50 : decode cX1_copyFrom 50 = .ok (.bipush 8, 2) := by decide +kernel
theorem dX1_copyFrom_52 : decode cX1_copyFrom 52 = .ok (.invokestatic 65, 3) := by decide +kernel
theorem dX1_copyFrom_55 : decode cX1_copyFrom 55 = .ok (.aload_n 1, 1) := by decide +kernel
theorem dX1_copyFrom_56 : decode cX1_copyFrom 56 = .ok (.getfield 25, 3) := by decide +kernel
theorem dX1_copyFrom_59 : decode cX1_copyFrom 59 = .ok (.iconst 0, 1) := by decide +kernel
theorem dX1_copyFrom_60 : decode cX1_copyFrom 60 = .ok (.aload_n 0, 1) := by decide +kernel
theorem dX1_copyFrom_61 : decode cX1_copyFrom 61 = .ok (.getfield 25, 3) := by decide +kernel
theorem dX1_copyFrom_64 : decode cX1_copyFrom 64 = .ok (.iconst 0, 1) := by decide +kernel
theorem dX1_copyFrom_65 : decode cX1_copyFrom 65 = .ok (.bipush 6, 2) := by decide +kernel
theorem dX1_copyFrom_67 : decode cX1_copyFrom 67 = .ok (.invokestatic 65, 3) := by decide +kernel
theorem dX1_copyFrom_70 : decode cX1_copyFrom 70 = .ok (.aload_n 1, 1) := by decide +kernel
theorem dX1_copyFrom_71 : decode cX1_copyFrom 71 = .ok (.getfield 28, 3) := by decide +kernel
theorem dX1_copyFrom_74 : decode cX1_copyFrom 74 = .ok (.iconst 0, 1) := by decide +kernel
theorem dX1_copyFrom_75 : decode cX1_copyFrom 75 = .ok (.aload_n 0, 1) := by decide +kernel
theorem dX1_copyFrom_76 : decode cX1_copyFrom 76 = .ok (.getfield 28, 3) := by decide +kernel
theorem dX1_copyFrom_79 : decode cX1_copyFrom 79 = .ok (.iconst 0, 1) := by decide +kernel
theorem dX1_copyFrom_80 : decode cX1_copyFrom 80 = .ok (.bipush 6, 2) := by decide +kernel
theorem dX1_copyFrom_82 : decode cX1_copyFrom 82 = .ok (.invokestatic 65, 3) := by decide +kernel
theorem dX1_copyFrom_85 : decode cX1_copyFrom 85 = .ok (.aload_n 1, 1) := by decide +kernel
theorem dX1_copyFrom_86 : decode cX1_copyFrom 86 = .ok (.getfield 31, 3) := by decide +kernel
theorem dX1_copyFrom_89 : decode cX1_copyFrom 89 = .ok (.iconst 0, 1) := by decide +kernel
theorem dX1_copyFrom_90 : decode cX1_copyFrom 90 = .ok (.aload_n 0, 1) := by decide +kernel
theorem dX1_copyFrom_91 : decode cX1_copyFrom 91 = .ok (.getfield 31, 3) := by decide +kernel
theorem dX1_copyFrom_94 : decode cX1_copyFrom 94 = .ok (.iconst 0, 1) := by decide +kernel
theorem dX1_copyFrom_95 : decode cX1_copyFrom 95 = .ok (.bipush 8, 2) := by decide +kernel
theorem dX1_copyFrom_97 : decode cX1_copyFrom 97 = .ok (.invokestatic 65, 3) := by decide +kernel
theorem dX1_copyFrom_100 : decode cX1_copyFrom 100 = .ok (.aload_n 1, 1) := by decide +kernel
theorem dX1_copyFrom_101 : decode cX1_copyFrom 101 = .ok (.getfield 41, 3) := by decide +kernel
theorem dX1_copyFrom_104 : decode cX1_copyFrom 104 = .ok (.iconst 0, 1) := by decide +kernel
theorem dX1_copyFrom_105 : decode cX1_copyFrom 105 = .ok (.aload_n 0, 1) := by decide +kernel
theorem dX1_copyFrom_106 : decode cX1_copyFrom 106 = .ok (.getfield 41, 3) := by decide +kernel
theorem dX1_copyFrom_109 : decode cX1_copyFrom 109 = .ok (.iconst 0, 1) := by decide +kernel
theorem dX1_copyFrom_110 : decode cX1_copyFrom 110 = .ok (.bipush 6, 2) := by decide +kernel
theorem dX1_copyFrom_112 : decode cX1_copyFrom 112 = .ok (.invokestatic 65, 3) := by decide +kernel
theorem dX1_copyFrom_115 : decode cX1_copyFrom 115 = .ok (.aload_n 1, 1) := by decide +kernel
theorem dX1_copyFrom_116 : decode cX1_copyFrom 116 = .ok (.getfield 44, 3) := by decide +kernel
theorem dX1_copyFrom_119 : decode cX1_copyFrom 119 = .ok (.iconst 0, 1) := by decide +kernel
theorem dX1_copyFrom_120 : decode cX1_copyFrom 120 = .ok (.aload_n 0, 1) := by decide +kernel
theorem dX1_copyFrom_121 : decode cX1_copyFrom 121 = .ok (.getfield 44, 3) := by decide +kernel
theorem dX1_copyFrom_124 : decode cX1_copyFrom 124 = .ok (.iconst 0, 1) := by decide +kernel
theorem dX1_copyFrom_125 : decode cX1_copyFrom 125 = .ok (.bipush 6, 2) := by decide +kernel
theorem dX1_copyFrom_127 : decode cX1_copyFrom 127 = .ok (.invokestatic 65, 3) := by decide +kernel
theorem dX1_copyFrom_130 : decode cX1_copyFrom 130 = .ok (.aload_n 0, 1) := by decide +kernel
theorem dX1_copyFrom_131 : decode cX1_copyFrom 131 = .ok (.getfield 50, 3) := by decide +kernel
theorem dX1_copyFrom_134 : decode cX1_copyFrom 134 = .ok (.aload_n 1, 1) := by decide +kernel
theorem dX1_copyFrom_135 : decode cX1_copyFrom 135 = .ok (.getfield 50, 3) := by decide +kernel
theorem dX1_copyFrom_138 : decode cX1_copyFrom 138 = .ok (.invokevirtual 71, 3) := by decide +kernel
theorem dX1_copyFrom_141 : decode cX1_copyFrom 141 = .ok (.aload_n 0, 1) := by decide +kernel
theorem dX1_copyFrom_142 : decode cX1_copyFrom 142 = .ok (.getfield 57, 3) := by decide +kernel
theorem dX1_copyFrom_145 : decode cX1_copyFrom 145 = .ok (.aload_n 1, 1) := by decide +kernel
theorem dX1_copyFrom_146 : decode cX1_copyFrom 146 = .ok (.getfield 57, 3) := by decide +kernel
theorem dX1_copyFrom_149 : decode cX1_copyFrom 149 = .ok (.invokevirtual 75, 3) := by decide +kernel
theorem dX1_copyFrom_152 : decode cX1_copyFrom 152 = .ok (.return_, 1) := by decide +kernel
theorem dX1_indexOf_0 : decode cX1_indexOf 0 = .ok (.iconst 0, 1) := by decide +kernel
theorem dX1_indexOf_1 : decode cX1_indexOf 1 = .ok (.istore 4, 2) := by decide +kernel
theorem dX1_indexOf_3 : decode cX1_indexOf 3 = .ok (.iload 4, 2) := by decide +kernel
theorem dX1_indexOf_5 : decode cX1_indexOf 5 = .ok (.iload_n 1, 1) := by decide +kernel
theorem dX1_indexOf_6 : decode cX1_indexOf 6 = .ok (.if_icmp .ge 21, 3) := by decide +kernel
theorem dX1_indexOf_9 : decode cX1_indexOf 9 = .ok (.aload_n 0, 1) := by decide +kernel
theorem dX1_indexOf_10 : decode cX1_indexOf 10 = .ok (.iload 4, 2) := by decide +kernel
theorem dX1_indexOf_12 : decode cX1_indexOf 12 = .ok (.laload, 1) := by decide +kernel
theorem dX1_indexOf_13 : decode cX1_indexOf 13 = .ok (.lload_n 2, 1) := by decide +kernel
theorem dX1_indexOf_14 : decode cX1_indexOf 14 = .ok (.lcmp, 1) := by decide +kernel
theorem dX1_indexOf_15 : decode cX1_indexOf 15 = .ok (.ifCond .ne 6, 3) := by decide +kernel
theorem dX1_indexOf_18 : decode cX1_indexOf 18 = .ok (.iload 4, 2) := by decide +kernel
theorem dX1_indexOf_20 : decode cX1_indexOf 20 = .ok (.ireturn, 1) := by decide +kernel
theorem dX1_indexOf_21 : decode cX1_indexOf 21 = .ok (.iinc 4 1, 3) := by decide +kernel
theorem dX1_indexOf_24 : decode cX1_indexOf 24 = .ok (.goto (-21), 3) := by decide +kernel
theorem dX1_indexOf_27 : decode cX1_indexOf 27 = .ok (.iconst (-1), 1) := by decide +kernel
theorem dX1_indexOf_28 : decode cX1_indexOf 28 = .ok (.ireturn, 1) := by decide +kernel
theorem dX1_isTaken_0 : decode cX1_isTaken 0 = .ok (.aload_n 0, 1) := by decide +kernel
theorem dX1_isTaken_1 : decode cX1_isTaken 1 = .ok (.getfield 21, 3) := by decide +kernel
theorem dX1_isTaken_4 : decode cX1_isTaken 4 = .ok (.aload_n 0, 1) := by decide +kernel
theorem dX1_isTaken_5 : decode cX1_isTaken 5 = .ok (.getfield 9, 3) := by decide +kernel
theorem dX1_isTaken_8 : decode cX1_isTaken 8 = .ok (.lload_n 1, 1) := by decide +kernel
theorem dX1_isTaken_9 : decode cX1_isTaken 9 = .ok (.invokestatic 78, 3) := by decide +kernel
theorem dX1_isTaken_12 : decode cX1_isTaken 12 = .ok (.iconst (-1), 1) := by decide +kernel
theorem dX1_isTaken_13 : decode cX1_isTaken 13 = .ok (.if_icmp .ne 35, 3) := by decide +kernel
theorem dX1_isTaken_16 : decode cX1_isTaken 16 = .ok (.aload_n 0, 1) := by decide +kernel
theorem dX1_isTaken_17 : decode cX1_isTaken 17 = .ok (.getfield 25, 3) := by decide +kernel
theorem dX1_isTaken_20 : decode cX1_isTaken 20 = .ok (.aload_n 0, 1) := by decide +kernel
theorem dX1_isTaken_21 : decode cX1_isTaken 21 = .ok (.getfield 15, 3) := by decide +kernel
theorem dX1_isTaken_24 : decode cX1_isTaken 24 = .ok (.lload_n 1, 1) := by decide +kernel
theorem dX1_isTaken_25 : decode cX1_isTaken 25 = .ok (.invokestatic 78, 3) := by decide +kernel
theorem dX1_isTaken_28 : decode cX1_isTaken 28 = .ok (.iconst (-1), 1) := by decide +kernel
theorem dX1_isTaken_29 : decode cX1_isTaken 29 = .ok (.if_icmp .ne 19, 3) := by decide +kernel
theorem dX1_isTaken_32 : decode cX1_isTaken 32 = .ok (.aload_n 0, 1) := by decide +kernel
theorem dX1_isTaken_33 : decode cX1_isTaken 33 = .ok (.getfield 28, 3) := by decide +kernel
theorem dX1_isTaken_36 : decode cX1_isTaken 36 = .ok (.aload_n 0, 1) := by decide +kernel
theorem dX1_isTaken_37 : decode cX1_isTaken 37 = .ok (.getfield 18, 3) := by decide +kernel
theorem dX1_isTaken_40 : decode cX1_isTaken 40 = .ok (.lload_n 1, 1) := by decide +kernel
theorem dX1_isTaken_41 : decode cX1_isTaken 41 = .ok (.invokestatic 78, 3) := by decide +kernel
theorem dX1_isTaken_44 : decode cX1_isTaken 44 = .ok (.iconst (-1), 1) := by decide +kernel
theorem dX1_isTaken_45 : decode cX1_isTaken 45 = .ok (.if_icmp .eq 7, 3) := by decide +kernel
theorem dX1_isTaken_48 : decode cX1_isTaken 48 = .ok (.iconst 1, 1) := by decide +kernel
theorem dX1_isTaken_49 : decode cX1_isTaken 49 = .ok (.goto 4, 3) := by decide +kernel
theorem dX1_isTaken_52 : decode cX1_isTaken 52 = .ok (.iconst 0, 1) := by decide +kernel
theorem dX1_isTaken_53 : decode cX1_isTaken 53 = .ok (.ireturn, 1) := by decide +kernel
theorem dX1_addCell_0 : decode cX1_addCell 0 = .ok (.aload_n 0, 1) := by decide +kernel
theorem dX1_addCell_1 : decode cX1_addCell 1 = .ok (.getfield 21, 3) := by decide +kernel
theorem dX1_addCell_4 : decode cX1_addCell 4 = .ok (.aload_n 0, 1) := by decide +kernel
theorem dX1_addCell_5 : decode cX1_addCell 5 = .ok (.getfield 9, 3) := by decide +kernel
theorem dX1_addCell_8 : decode cX1_addCell 8 = .ok (.lload_n 1, 1) := by decide +kernel
theorem dX1_addCell_9 : decode cX1_addCell 9 = .ok (.lastore, 1) := by decide +kernel
theorem dX1_addCell_10 : decode cX1_addCell 10 = .ok (.aload_n 0, 1) := by decide +kernel
theorem dX1_addCell_11 : decode cX1_addCell 11 = .ok (.getfield 31, 3) := by decide +kernel
theorem dX1_addCell_14 : decode cX1_addCell 14 = .ok (.aload_n 0, 1) := by decide +kernel
theorem dX1_addCell_15 : decode cX1_addCell 15 = .ok (.getfield 9, 3) := by decide +kernel
theorem dX1_addCell_18 : decode cX1_addCell 18 = .ok (.iload_n 3, 1) := by decide +kernel
theorem dX1_addCell_19 : decode cX1_addCell 19 = .ok (.iastore, 1) := by decide +kernel
theorem dX1_addCell_20 : decode cX1_addCell 20 = .ok (.aload_n 0, 1) := by decide +kernel
theorem dX1_addCell_21 : decode cX1_addCell 21 = .ok (.dup, 1) := by decide +kernel
theorem dX1_addCell_22 : decode cX1_addCell 22 = .ok (.getfield 35, 3) := by decide +kernel
theorem dX1_addCell_25 : decode cX1_addCell 25 = .ok (.iload 4, 2) := by decide +kernel
theorem dX1_addCell_27 : decode cX1_addCell 27 = .ok (.ifCond .eq 12, 3) := by decide +kernel
theorem dX1_addCell_30 : decode cX1_addCell 30 = .ok (.iconst 1, 1) := by decide +kernel
theorem dX1_addCell_31 : decode cX1_addCell 31 = .ok (.aload_n 0, 1) := by decide +kernel
theorem dX1_addCell_32 : decode cX1_addCell 32 = .ok (.getfield 9, 3) := by decide +kernel
theorem dX1_addCell_35 : decode cX1_addCell 35 = .ok (.ishl, 1) := by decide +kernel
theorem dX1_addCell_36 : decode cX1_addCell 36 = .ok (.goto 4, 3) := by decide +kernel
theorem dX1_addCell_39 : decode cX1_addCell 39 = .ok (.iconst 0, 1) := by decide +kernel
theorem dX1_addCell_40 : decode cX1_addCell 40 = .ok (.ior, 1) := by decide +kernel
theorem dX1_addCell_41 : decode cX1_addCell 41 = .ok (.putfield 35, 3) := by decide +kernel
theorem dX1_addCell_44 : decode cX1_addCell 44 = .ok (.aload_n 0, 1) := by decide +kernel
theorem dX1_addCell_45 : decode cX1_addCell 45 = .ok (.dup, 1) := by decide +kernel
theorem dX1_addCell_46 : decode cX1_addCell 46 = .ok (.getfield 38, 3) := by decide +kernel
theorem dX1_addCell_49 : decode cX1_addCell 49 = .ok (.iload 5, 2) := by decide +kernel
theorem dX1_addCell_51 : decode cX1_addCell 51 = .ok (.ifCond .eq 12, 3) := by decide +kernel
theorem dX1_addCell_54 : decode cX1_addCell 54 = .ok (.iconst 1, 1) := by decide +kernel
theorem dX1_addCell_55 : decode cX1_addCell 55 = .ok (.aload_n 0, 1) := by decide +kernel
theorem dX1_addCell_56 : decode cX1_addCell 56 = .ok (.getfield 9, 3) := by decide +kernel
theorem dX1_addCell_59 : decode cX1_addCell 59 = .ok (.ishl, 1) := by decide +kernel
theorem dX1_addCell_60 : decode cX1_addCell 60 = .ok (.goto 4, 3) := by decide +kernel
theorem dX1_addCell_63 : decode cX1_addCell 63 = .ok (.iconst 0, 1) := by decide +kernel
theorem dX1_addCell_64 : decode cX1_addCell 64 = .ok (.ior, 1) := by decide +kernel
theorem dX1_addCell_65 : decode cX1_addCell 65 = .ok (.putfield 38, 3) := by decide +kernel
theorem dX1_addCell_68 : decode cX1_addCell 68 = .ok (.aload_n 0, 1) := by decide +kernel
theorem dX1_addCell_69 : decode cX1_addCell 69 = .ok (.dup, 1) := by decide +kernel
theorem dX1_addCell_70 : decode cX1_addCell 70 = .ok (.getfield 9, 3) := by decide +kernel
theorem dX1_addCell_73 : decode cX1_addCell 73 = .ok (.iconst 1, 1) := by decide +kernel
theorem dX1_addCell_74 : decode cX1_addCell 74 = .ok (.iadd, 1) := by decide +kernel
theorem dX1_addCell_75 : decode cX1_addCell 75 = .ok (.putfield 9, 3) := by decide +kernel
theorem dX1_addCell_78 : decode cX1_addCell 78 = .ok (.return_, 1) := by decide +kernel
theorem dX1_addSecret_0 : decode cX1_addSecret 0 = .ok (.aload_n 0, 1) := by decide +kernel
theorem dX1_addSecret_1 : decode cX1_addSecret 1 = .ok (.getfield 25, 3) := by decide +kernel
theorem dX1_addSecret_4 : decode cX1_addSecret 4 = .ok (.aload_n 0, 1) := by decide +kernel
theorem dX1_addSecret_5 : decode cX1_addSecret 5 = .ok (.getfield 15, 3) := by decide +kernel
theorem dX1_addSecret_8 : decode cX1_addSecret 8 = .ok (.lload_n 1, 1) := by decide +kernel
theorem dX1_addSecret_9 : decode cX1_addSecret 9 = .ok (.lastore, 1) := by decide +kernel
theorem dX1_addSecret_10 : decode cX1_addSecret 10 = .ok (.aload_n 0, 1) := by decide +kernel
theorem dX1_addSecret_11 : decode cX1_addSecret 11 = .ok (.getfield 41, 3) := by decide +kernel
theorem dX1_addSecret_14 : decode cX1_addSecret 14 = .ok (.aload_n 0, 1) := by decide +kernel
theorem dX1_addSecret_15 : decode cX1_addSecret 15 = .ok (.getfield 15, 3) := by decide +kernel
theorem dX1_addSecret_18 : decode cX1_addSecret 18 = .ok (.iload_n 3, 1) := by decide +kernel
theorem dX1_addSecret_19 : decode cX1_addSecret 19 = .ok (.iastore, 1) := by decide +kernel
theorem dX1_addSecret_20 : decode cX1_addSecret 20 = .ok (.aload_n 0, 1) := by decide +kernel
theorem dX1_addSecret_21 : decode cX1_addSecret 21 = .ok (.dup, 1) := by decide +kernel
theorem dX1_addSecret_22 : decode cX1_addSecret 22 = .ok (.getfield 15, 3) := by decide +kernel
theorem dX1_addSecret_25 : decode cX1_addSecret 25 = .ok (.iconst 1, 1) := by decide +kernel
theorem dX1_addSecret_26 : decode cX1_addSecret 26 = .ok (.iadd, 1) := by decide +kernel
theorem dX1_addSecret_27 : decode cX1_addSecret 27 = .ok (.putfield 15, 3) := by decide +kernel
theorem dX1_addSecret_30 : decode cX1_addSecret 30 = .ok (.return_, 1) := by decide +kernel
theorem dX1_addPage_0 : decode cX1_addPage 0 = .ok (.aload_n 0, 1) := by decide +kernel
theorem dX1_addPage_1 : decode cX1_addPage 1 = .ok (.getfield 28, 3) := by decide +kernel
theorem dX1_addPage_4 : decode cX1_addPage 4 = .ok (.aload_n 0, 1) := by decide +kernel
theorem dX1_addPage_5 : decode cX1_addPage 5 = .ok (.getfield 18, 3) := by decide +kernel
theorem dX1_addPage_8 : decode cX1_addPage 8 = .ok (.lload_n 1, 1) := by decide +kernel
theorem dX1_addPage_9 : decode cX1_addPage 9 = .ok (.lastore, 1) := by decide +kernel
theorem dX1_addPage_10 : decode cX1_addPage 10 = .ok (.aload_n 0, 1) := by decide +kernel
theorem dX1_addPage_11 : decode cX1_addPage 11 = .ok (.getfield 44, 3) := by decide +kernel
theorem dX1_addPage_14 : decode cX1_addPage 14 = .ok (.aload_n 0, 1) := by decide +kernel
theorem dX1_addPage_15 : decode cX1_addPage 15 = .ok (.getfield 18, 3) := by decide +kernel
theorem dX1_addPage_18 : decode cX1_addPage 18 = .ok (.iload_n 3, 1) := by decide +kernel
theorem dX1_addPage_19 : decode cX1_addPage 19 = .ok (.iastore, 1) := by decide +kernel
theorem dX1_addPage_20 : decode cX1_addPage 20 = .ok (.aload_n 0, 1) := by decide +kernel
theorem dX1_addPage_21 : decode cX1_addPage 21 = .ok (.dup, 1) := by decide +kernel
theorem dX1_addPage_22 : decode cX1_addPage 22 = .ok (.getfield 18, 3) := by decide +kernel
theorem dX1_addPage_25 : decode cX1_addPage 25 = .ok (.iconst 1, 1) := by decide +kernel
theorem dX1_addPage_26 : decode cX1_addPage 26 = .ok (.iadd, 1) := by decide +kernel
theorem dX1_addPage_27 : decode cX1_addPage 27 = .ok (.putfield 18, 3) := by decide +kernel
theorem dX1_addPage_30 : decode cX1_addPage 30 = .ok (.return_, 1) := by decide +kernel
theorem dX1_hasCell_0 : decode cX1_hasCell 0 = .ok (.iload_n 1, 1) := by decide +kernel
theorem dX1_hasCell_1 : decode cX1_hasCell 1 = .ok (.ifCond .lt 15, 3) := by decide +kernel
theorem dX1_hasCell_4 : decode cX1_hasCell 4 = .ok (.iload_n 1, 1) := by decide +kernel
theorem dX1_hasCell_5 : decode cX1_hasCell 5 = .ok (.aload_n 0, 1) := by decide +kernel
theorem dX1_hasCell_6 : decode cX1_hasCell 6 = .ok (.getfield 9, 3) := by decide +kernel
theorem dX1_hasCell_9 : decode cX1_hasCell 9 = .ok (.if_icmp .ge 7, 3) := by decide +kernel
theorem dX1_hasCell_12 : decode cX1_hasCell 12 = .ok (.iconst 1, 1) := by decide +kernel
theorem dX1_hasCell_13 : decode cX1_hasCell 13 = .ok (.goto 4, 3) := by decide +kernel
theorem dX1_hasCell_16 : decode cX1_hasCell 16 = .ok (.iconst 0, 1) := by decide +kernel
theorem dX1_hasCell_17 : decode cX1_hasCell 17 = .ok (.ireturn, 1) := by decide +kernel
theorem dX1_hasSecret_0 : decode cX1_hasSecret 0 = .ok (.iload_n 1, 1) := by decide +kernel
theorem dX1_hasSecret_1 : decode cX1_hasSecret 1 = .ok (.ifCond .lt 15, 3) := by decide +kernel
theorem dX1_hasSecret_4 : decode cX1_hasSecret 4 = .ok (.iload_n 1, 1) := by decide +kernel
theorem dX1_hasSecret_5 : decode cX1_hasSecret 5 = .ok (.aload_n 0, 1) := by decide +kernel
theorem dX1_hasSecret_6 : decode cX1_hasSecret 6 = .ok (.getfield 15, 3) := by decide +kernel
theorem dX1_hasSecret_9 : decode cX1_hasSecret 9 = .ok (.if_icmp .ge 7, 3) := by decide +kernel
theorem dX1_hasSecret_12 : decode cX1_hasSecret 12 = .ok (.iconst 1, 1) := by decide +kernel
theorem dX1_hasSecret_13 : decode cX1_hasSecret 13 = .ok (.goto 4, 3) := by decide +kernel
theorem dX1_hasSecret_16 : decode cX1_hasSecret 16 = .ok (.iconst 0, 1) := by decide +kernel
theorem dX1_hasSecret_17 : decode cX1_hasSecret 17 = .ok (.ireturn, 1) := by decide +kernel
theorem dX1_hasPage_0 : decode cX1_hasPage 0 = .ok (.iload_n 1, 1) := by decide +kernel
theorem dX1_hasPage_1 : decode cX1_hasPage 1 = .ok (.ifCond .lt 15, 3) := by decide +kernel
theorem dX1_hasPage_4 : decode cX1_hasPage 4 = .ok (.iload_n 1, 1) := by decide +kernel
theorem dX1_hasPage_5 : decode cX1_hasPage 5 = .ok (.aload_n 0, 1) := by decide +kernel
theorem dX1_hasPage_6 : decode cX1_hasPage 6 = .ok (.getfield 18, 3) := by decide +kernel
theorem dX1_hasPage_9 : decode cX1_hasPage 9 = .ok (.if_icmp .ge 7, 3) := by decide +kernel
theorem dX1_hasPage_12 : decode cX1_hasPage 12 = .ok (.iconst 1, 1) := by decide +kernel
theorem dX1_hasPage_13 : decode cX1_hasPage 13 = .ok (.goto 4, 3) := by decide +kernel
theorem dX1_hasPage_16 : decode cX1_hasPage 16 = .ok (.iconst 0, 1) := by decide +kernel
theorem dX1_hasPage_17 : decode cX1_hasPage 17 = .ok (.ireturn, 1) := by decide +kernel
theorem dX1_seeing_0 : decode cX1_seeing 0 = .ok (.iconst 1, 1) := by decide +kernel
theorem dX1_seeing_1 : decode cX1_seeing 1 = .ok (.aload_n 0, 1) := by decide +kernel
theorem dX1_seeing_2 : decode cX1_seeing 2 = .ok (.getfield 9, 3) := by decide +kernel
theorem dX1_seeing_5 : decode cX1_seeing 5 = .ok (.ishl, 1) := by decide +kernel
theorem dX1_seeing_6 : decode cX1_seeing 6 = .ok (.iconst 1, 1) := by decide +kernel
theorem dX1_seeing_7 : decode cX1_seeing 7 = .ok (.isub, 1) := by decide +kernel
theorem dX1_seeing_8 : decode cX1_seeing 8 = .ok (.aload_n 0, 1) := by decide +kernel
theorem dX1_seeing_9 : decode cX1_seeing 9 = .ok (.getfield 35, 3) := by decide +kernel
theorem dX1_seeing_12 : decode cX1_seeing 12 = .ok (.iconst (-1), 1) := by decide +kernel
theorem dX1_seeing_13 : decode cX1_seeing 13 = .ok (.ixor, 1) := by decide +kernel
theorem dX1_seeing_14 : decode cX1_seeing 14 = .ok (.iand, 1) := by decide +kernel
theorem dX1_seeing_15 : decode cX1_seeing 15 = .ok (.ireturn, 1) := by decide +kernel
theorem dX1_allSecrets_0 : decode cX1_allSecrets 0 = .ok (.iconst 1, 1) := by decide +kernel
theorem dX1_allSecrets_1 : decode cX1_allSecrets 1 = .ok (.aload_n 0, 1) := by decide +kernel
theorem dX1_allSecrets_2 : decode cX1_allSecrets 2 = .ok (.getfield 15, 3) := by decide +kernel
theorem dX1_allSecrets_5 : decode cX1_allSecrets 5 = .ok (.ishl, 1) := by decide +kernel
theorem dX1_allSecrets_6 : decode cX1_allSecrets 6 = .ok (.iconst 1, 1) := by decide +kernel
theorem dX1_allSecrets_7 : decode cX1_allSecrets 7 = .ok (.isub, 1) := by decide +kernel
theorem dX1_allSecrets_8 : decode cX1_allSecrets 8 = .ok (.ireturn, 1) := by decide +kernel
theorem dX2_init_0 : decode cX2_init 0 = .ok (.aload_n 0, 1) := by decide +kernel
theorem dX2_init_1 : decode cX2_init 1 = .ok (.invokespecial 3, 3) := by decide +kernel
theorem dX2_init_4 : decode cX2_init 4 = .ok (.aload_n 0, 1) := by decide +kernel
theorem dX2_init_5 : decode cX2_init 5 = .ok (.iconst 0, 1) := by decide +kernel
theorem dX2_init_6 : decode cX2_init 6 = .ok (.putfield 9, 3) := by decide +kernel
theorem dX2_init_9 : decode cX2_init 9 = .ok (.return_, 1) := by decide +kernel
theorem dX2_take_0 : decode cX2_take 0 = .ok (.aload_n 2, 1) := by decide +kernel
theorem dX2_take_1 : decode cX2_take 1 = .ok (.invokevirtual 15, 3) := by decide +kernel
theorem dX2_take_4 : decode cX2_take 4 = .ok (.aload_n 0, 1) := by decide +kernel
theorem dX2_take_5 : decode cX2_take 5 = .ok (.iconst 0, 1) := by decide +kernel
theorem dX2_take_6 : decode cX2_take 6 = .ok (.putfield 9, 3) := by decide +kernel
theorem dX2_take_9 : decode cX2_take 9 = .ok (.iconst 1, 1) := by decide +kernel
theorem dX2_take_10 : decode cX2_take 10 = .ok (.istore_n 3, 1) := by decide +kernel
theorem dX2_take_11 : decode cX2_take 11 = .ok (.iconst 0, 1) := by decide +kernel
theorem dX2_take_12 : decode cX2_take 12 = .ok (.istore 4, 2) := by decide +kernel
theorem dX2_take_14 : decode cX2_take 14 = .ok (.iload 4, 2) := by decide +kernel
theorem dX2_take_16 : decode cX2_take 16 = .ok (.sipush 900, 3) := by decide +kernel
theorem dX2_take_19 : decode cX2_take 19 = .ok (.if_icmp .ge 144, 3) := by decide +kernel
theorem dX2_take_22 : decode cX2_take 22 = .ok (.iload_n 3, 1) := by decide +kernel
theorem dX2_take_23 : decode cX2_take 23 = .ok (.ifCond .eq 140, 3) := by decide +kernel
theorem dX2_take_26 : decode cX2_take 26 = .ok (.aload_n 1, 1) := by decide +kernel
theorem dX2_take_27 : decode cX2_take 27 = .ok (.getfield 20, 3) := by decide +kernel
theorem dX2_take_30 : decode cX2_take 30 = .ok (.ifCond .eq 133, 3) := by decide +kernel
theorem dX2_take_33 : decode cX2_take 33 = .ok (.aload_n 1, 1) := by decide +kernel
theorem dX2_take_34 : decode cX2_take 34 = .ok (.getfield 26, 3) := by decide +kernel
theorem dX2_take_37 : decode cX2_take 37 = .ok (.tableswitch 114 0 10 #[59, 114, 114, 114, 68, 114, 77, 114, 86, 95, 105], 59) := by decide +kernel
theorem dX2_take_96 : decode cX2_take 96 = .ok (.aload_n 1, 1) := by decide +kernel
theorem dX2_take_97 : decode cX2_take 97 = .ok (.aload_n 2, 1) := by decide +kernel
theorem dX2_take_98 : decode cX2_take 98 = .ok (.invokestatic 29, 3) := by decide +kernel
theorem dX2_take_101 : decode cX2_take 101 = .ok (.istore_n 3, 1) := by decide +kernel
theorem dX2_take_102 : decode cX2_take 102 = .ok (.goto 55, 3) := by decide +kernel
theorem dX2_take_105 : decode cX2_take 105 = .ok (.aload_n 1, 1) := by decide +kernel
theorem dX2_take_106 : decode cX2_take 106 = .ok (.aload_n 2, 1) := by decide +kernel
theorem dX2_take_107 : decode cX2_take 107 = .ok (.invokestatic 33, 3) := by decide +kernel
theorem dX2_take_110 : decode cX2_take 110 = .ok (.istore_n 3, 1) := by decide +kernel
theorem dX2_take_111 : decode cX2_take 111 = .ok (.goto 46, 3) := by decide +kernel
theorem dX2_take_114 : decode cX2_take 114 = .ok (.aload_n 1, 1) := by decide +kernel
theorem dX2_take_115 : decode cX2_take 115 = .ok (.aload_n 2, 1) := by decide +kernel
theorem dX2_take_116 : decode cX2_take 116 = .ok (.invokestatic 36, 3) := by decide +kernel
theorem dX2_take_119 : decode cX2_take 119 = .ok (.istore_n 3, 1) := by decide +kernel
theorem dX2_take_120 : decode cX2_take 120 = .ok (.goto 37, 3) := by decide +kernel
theorem dX2_take_123 : decode cX2_take 123 = .ok (.aload_n 1, 1) := by decide +kernel
theorem dX2_take_124 : decode cX2_take 124 = .ok (.aload_n 2, 1) := by decide +kernel
theorem dX2_take_125 : decode cX2_take 125 = .ok (.invokestatic 39, 3) := by decide +kernel
theorem dX2_take_128 : decode cX2_take 128 = .ok (.istore_n 3, 1) := by decide +kernel
theorem dX2_take_129 : decode cX2_take 129 = .ok (.goto 28, 3) := by decide +kernel
theorem dX2_take_132 : decode cX2_take 132 = .ok (.aload_n 0, 1) := by decide +kernel
theorem dX2_take_133 : decode cX2_take 133 = .ok (.aload_n 1, 1) := by decide +kernel
theorem dX2_take_134 : decode cX2_take 134 = .ok (.aload_n 2, 1) := by decide +kernel
theorem dX2_take_135 : decode cX2_take 135 = .ok (.invokevirtual 42, 3) := by decide +kernel
theorem dX2_take_138 : decode cX2_take 138 = .ok (.istore_n 3, 1) := by decide +kernel
theorem dX2_take_139 : decode cX2_take 139 = .ok (.goto 18, 3) := by decide +kernel
theorem dX2_take_142 : decode cX2_take 142 = .ok (.aload_n 1, 1) := by decide +kernel
theorem dX2_take_143 : decode cX2_take 143 = .ok (.aload_n 2, 1) := by decide +kernel
theorem dX2_take_144 : decode cX2_take 144 = .ok (.invokestatic 45, 3) := by decide +kernel
theorem dX2_take_147 : decode cX2_take 147 = .ok (.istore_n 3, 1) := by decide +kernel
theorem dX2_take_148 : decode cX2_take 148 = .ok (.goto 9, 3) := by decide +kernel
theorem dX2_take_151 : decode cX2_take 151 = .ok (.aload_n 1, 1) := by decide +kernel
theorem dX2_take_152 : decode cX2_take 152 = .ok (.iconst 2, 1) := by decide +kernel
theorem dX2_take_153 : decode cX2_take 153 = .ok (.invokevirtual 48, 3) := by decide +kernel
theorem dX2_take_156 : decode cX2_take 156 = .ok (.istore_n 3, 1) := by decide +kernel
theorem dX2_take_157 : decode cX2_take 157 = .ok (.iinc 4 1, 3) := by decide +kernel
theorem dX2_take_160 : decode cX2_take 160 = .ok (.goto (-146), 3) := by decide +kernel
theorem dX2_take_163 : decode cX2_take 163 = .ok (.iload_n 3, 1) := by decide +kernel
theorem dX2_take_164 : decode cX2_take 164 = .ok (.ifCond .eq 21, 3) := by decide +kernel
theorem dX2_take_167 : decode cX2_take 167 = .ok (.aload_n 0, 1) := by decide +kernel
theorem dX2_take_168 : decode cX2_take 168 = .ok (.getfield 9, 3) := by decide +kernel
theorem dX2_take_171 : decode cX2_take 171 = .ok (.ifCond .ne 14, 3) := by decide +kernel
theorem dX2_take_174 : decode cX2_take 174 = .ok (.aload_n 2, 1) := by decide +kernel
theorem dX2_take_175 : decode cX2_take 175 = .ok (.getfield 52, 3) := by decide +kernel
theorem dX2_take_178 : decode cX2_take 178 = .ok (.aload_n 2, 1) := by decide +kernel
theorem dX2_take_179 : decode cX2_take 179 = .ok (.getfield 56, 3) := by decide +kernel
theorem dX2_take_182 : decode cX2_take 182 = .ok (.invokevirtual 59, 3) := by decide +kernel
theorem dX2_take_185 : decode cX2_take 185 = .ok (.iload_n 3, 1) := by decide +kernel
theorem dX2_take_186 : decode cX2_take 186 = .ok (.ireturn, 1) := by decide +kernel
theorem dX2_newName_0 : decode cX2_newName 0 = .ok (.aload_n 0, 1) := by decide +kernel
theorem dX2_newName_1 : decode cX2_newName 1 = .ok (.invokevirtual 65, 3) := by decide +kernel
theorem dX2_newName_4 : decode cX2_newName 4 = .ok (.lstore_n 2, 1) := by decide +kernel
theorem dX2_newName_5 : decode cX2_newName 5 = .ok (.lload_n 2, 1) := by decide +kernel
theorem dX2_newName_6 : decode cX2_newName 6 = .ok (.ldc2_w 69, 3) := by decide +kernel
theorem dX2_newName_9 : decode cX2_newName 9 = .ok (.lcmp, 1) := by decide +kernel
theorem dX2_newName_10 : decode cX2_newName 10 = .ok (.ifCond .ne 7, 3) := by decide +kernel
theorem dX2_newName_13 : decode cX2_newName 13 = .ok (.ldc2_w 69, 3) := by decide +kernel
theorem dX2_newName_16 : decode cX2_newName 16 = .ok (.lreturn, 1) := by decide +kernel
theorem dX2_newName_17 : decode cX2_newName 17 = .ok (.aload_n 1, 1) := by decide +kernel
theorem dX2_newName_18 : decode cX2_newName 18 = .ok (.lload_n 2, 1) := by decide +kernel
theorem dX2_newName_19 : decode cX2_newName 19 = .ok (.invokevirtual 71, 3) := by decide +kernel
theorem dX2_newName_22 : decode cX2_newName 22 = .ok (.ifCond .eq 13, 3) := by decide +kernel
theorem dX2_newName_25 : decode cX2_newName 25 = .ok (.aload_n 0, 1) := by decide +kernel
theorem dX2_newName_26 : decode cX2_newName 26 = .ok (.iconst 3, 1) := by decide +kernel
theorem dX2_newName_27 : decode cX2_newName 27 = .ok (.invokevirtual 48, 3) := by decide +kernel
theorem dX2_newName_30 : decode cX2_newName 30 = .ok (.pop, 1) := by decide +kernel
theorem dX2_newName_31 : decode cX2_newName 31 = .ok (.ldc2_w 69, 3) := by decide +kernel
theorem dX2_newName_34 : decode cX2_newName 34 = .ok (.lreturn, 1) := by decide +kernel
theorem dX2_newName_35 : decode cX2_newName 35 = .ok (.aload_n 0, 1) := by decide +kernel
theorem dX2_newName_36 : decode cX2_newName 36 = .ok (.invokevirtual 75, 3) := by decide +kernel
theorem dX2_newName_39 : decode cX2_newName 39 = .ok (.lload_n 2, 1) := by decide +kernel
theorem dX2_newName_40 : decode cX2_newName 40 = .ok (.lreturn, 1) := by decide +kernel
theorem dX2_takeCell_0 : decode cX2_takeCell 0 = .ok (.aload_n 1, 1) := by decide +kernel
theorem dX2_takeCell_1 : decode cX2_takeCell 1 = .ok (.getfield 56, 3) := by decide +kernel
theorem dX2_takeCell_4 : decode cX2_takeCell 4 = .ok (.bipush 8, 2) := by decide +kernel
theorem dX2_takeCell_6 : decode cX2_takeCell 6 = .ok (.if_icmp .lt 10, 3) := by decide +kernel
theorem dX2_takeCell_9 : decode cX2_takeCell 9 = .ok (.aload_n 0, 1) := by decide +kernel
theorem dX2_takeCell_10 : decode cX2_takeCell 10 = .ok (.bipush 6, 2) := by decide +kernel
theorem dX2_takeCell_12 : decode cX2_takeCell 12 = .ok (.invokevirtual 48, 3) := by decide +kernel
theorem dX2_takeCell_15 : decode cX2_takeCell 15 = .ok (.ireturn, 1) := by decide +kernel
theorem dX2_takeCell_16 : decode cX2_takeCell 16 = .ok (.aload_n 0, 1) := by decide +kernel
theorem dX2_takeCell_17 : decode cX2_takeCell 17 = .ok (.invokevirtual 75, 3) := by decide +kernel
theorem dX2_takeCell_20 : decode cX2_takeCell 20 = .ok (.aload_n 0, 1) := by decide +kernel
theorem dX2_takeCell_21 : decode cX2_takeCell 21 = .ok (.aload_n 1, 1) := by decide +kernel
theorem dX2_takeCell_22 : decode cX2_takeCell 22 = .ok (.invokestatic 78, 3) := by decide +kernel
theorem dX2_takeCell_25 : decode cX2_takeCell 25 = .ok (.lstore_n 2, 1) := by decide +kernel
theorem dX2_takeCell_26 : decode cX2_takeCell 26 = .ok (.lload_n 2, 1) := by decide +kernel
theorem dX2_takeCell_27 : decode cX2_takeCell 27 = .ok (.ldc2_w 69, 3) := by decide +kernel
theorem dX2_takeCell_30 : decode cX2_takeCell 30 = .ok (.lcmp, 1) := by decide +kernel
theorem dX2_takeCell_31 : decode cX2_takeCell 31 = .ok (.ifCond .ne 5, 3) := by decide +kernel
theorem dX2_takeCell_34 : decode cX2_takeCell 34 = .ok (.iconst 0, 1) := by decide +kernel
theorem dX2_takeCell_35 : decode cX2_takeCell 35 = .ok (.ireturn, 1) := by decide +kernel
theorem dX2_takeCell_36 : decode cX2_takeCell 36 = .ok (.aload_n 0, 1) := by decide +kernel
theorem dX2_takeCell_37 : decode cX2_takeCell 37 = .ok (.iconst 1, 1) := by decide +kernel
theorem dX2_takeCell_38 : decode cX2_takeCell 38 = .ok (.invokevirtual 82, 3) := by decide +kernel
theorem dX2_takeCell_41 : decode cX2_takeCell 41 = .ok (.ifCond .eq 13, 3) := by decide +kernel
theorem dX2_takeCell_44 : decode cX2_takeCell 44 = .ok (.aload_n 0, 1) := by decide +kernel
theorem dX2_takeCell_45 : decode cX2_takeCell 45 = .ok (.iconst 0, 1) := by decide +kernel
theorem dX2_takeCell_46 : decode cX2_takeCell 46 = .ok (.bipush 20, 2) := by decide +kernel
theorem dX2_takeCell_48 : decode cX2_takeCell 48 = .ok (.invokevirtual 85, 3) := by decide +kernel
theorem dX2_takeCell_51 : decode cX2_takeCell 51 = .ok (.goto 4, 3) := by decide +kernel
theorem dX2_takeCell_54 : decode cX2_takeCell 54 = .ok (.iconst 5, 1) := by decide +kernel
theorem dX2_takeCell_55 : decode cX2_takeCell 55 = .ok (.istore 4, 2) := by decide +kernel
theorem dX2_takeCell_57 : decode cX2_takeCell 57 = .ok (.iload 4, 2) := by decide +kernel
theorem dX2_takeCell_59 : decode cX2_takeCell 59 = .ok (.iconst (-1), 1) := by decide +kernel
theorem dX2_takeCell_60 : decode cX2_takeCell 60 = .ok (.if_icmp .ne 5, 3) := by decide +kernel
theorem dX2_takeCell_63 : decode cX2_takeCell 63 = .ok (.iconst 0, 1) := by decide +kernel
theorem dX2_takeCell_64 : decode cX2_takeCell 64 = .ok (.ireturn, 1) := by decide +kernel
theorem dX2_takeCell_65 : decode cX2_takeCell 65 = .ok (.aload_n 0, 1) := by decide +kernel
theorem dX2_takeCell_66 : decode cX2_takeCell 66 = .ok (.iconst 2, 1) := by decide +kernel
theorem dX2_takeCell_67 : decode cX2_takeCell 67 = .ok (.invokevirtual 82, 3) := by decide +kernel
theorem dX2_takeCell_70 : decode cX2_takeCell 70 = .ok (.istore 5, 2) := by decide +kernel
theorem dX2_takeCell_72 : decode cX2_takeCell 72 = .ok (.aload_n 0, 1) := by decide +kernel
theorem dX2_takeCell_73 : decode cX2_takeCell 73 = .ok (.iconst 3, 1) := by decide +kernel
theorem dX2_takeCell_74 : decode cX2_takeCell 74 = .ok (.invokevirtual 82, 3) := by decide +kernel
theorem dX2_takeCell_77 : decode cX2_takeCell 77 = .ok (.istore 6, 2) := by decide +kernel
theorem dX2_takeCell_79 : decode cX2_takeCell 79 = .ok (.aload_n 0, 1) := by decide +kernel
theorem dX2_takeCell_80 : decode cX2_takeCell 80 = .ok (.invokevirtual 89, 3) := by decide +kernel
theorem dX2_takeCell_83 : decode cX2_takeCell 83 = .ok (.ifCond .ne 5, 3) := by decide +kernel
theorem dX2_takeCell_86 : decode cX2_takeCell 86 = .ok (.iconst 0, 1) := by decide +kernel
theorem dX2_takeCell_87 : decode cX2_takeCell 87 = .ok (.ireturn, 1) := by decide +kernel
theorem dX2_takeCell_88 : decode cX2_takeCell 88 = .ok (.aload_n 1, 1) := by decide +kernel
theorem dX2_takeCell_89 : decode cX2_takeCell 89 = .ok (.lload_n 2, 1) := by decide +kernel
theorem dX2_takeCell_90 : decode cX2_takeCell 90 = .ok (.iload 4, 2) := by decide +kernel
theorem dX2_takeCell_92 : decode cX2_takeCell 92 = .ok (.iload 5, 2) := by decide +kernel
theorem dX2_takeCell_94 : decode cX2_takeCell 94 = .ok (.iload 6, 2) := by decide +kernel
theorem dX2_takeCell_96 : decode cX2_takeCell 96 = .ok (.invokevirtual 93, 3) := by decide +kernel
theorem dX2_takeCell_99 : decode cX2_takeCell 99 = .ok (.iconst 1, 1) := by decide +kernel
theorem dX2_takeCell_100 : decode cX2_takeCell 100 = .ok (.ireturn, 1) := by decide +kernel
theorem dX2_takeSecret_0 : decode cX2_takeSecret 0 = .ok (.aload_n 1, 1) := by decide +kernel
theorem dX2_takeSecret_1 : decode cX2_takeSecret 1 = .ok (.getfield 97, 3) := by decide +kernel
theorem dX2_takeSecret_4 : decode cX2_takeSecret 4 = .ok (.bipush 6, 2) := by decide +kernel
theorem dX2_takeSecret_6 : decode cX2_takeSecret 6 = .ok (.if_icmp .lt 10, 3) := by decide +kernel
theorem dX2_takeSecret_9 : decode cX2_takeSecret 9 = .ok (.aload_n 0, 1) := by decide +kernel
theorem dX2_takeSecret_10 : decode cX2_takeSecret 10 = .ok (.bipush 6, 2) := by decide +kernel
theorem dX2_takeSecret_12 : decode cX2_takeSecret 12 = .ok (.invokevirtual 48, 3) := by decide +kernel
theorem dX2_takeSecret_15 : decode cX2_takeSecret 15 = .ok (.ireturn, 1) := by decide +kernel
theorem dX2_takeSecret_16 : decode cX2_takeSecret 16 = .ok (.aload_n 0, 1) := by decide +kernel
theorem dX2_takeSecret_17 : decode cX2_takeSecret 17 = .ok (.invokevirtual 75, 3) := by decide +kernel
theorem dX2_takeSecret_20 : decode cX2_takeSecret 20 = .ok (.aload_n 0, 1) := by decide +kernel
theorem dX2_takeSecret_21 : decode cX2_takeSecret 21 = .ok (.aload_n 1, 1) := by decide +kernel
theorem dX2_takeSecret_22 : decode cX2_takeSecret 22 = .ok (.invokestatic 78, 3) := by decide +kernel
theorem dX2_takeSecret_25 : decode cX2_takeSecret 25 = .ok (.lstore_n 2, 1) := by decide +kernel
theorem dX2_takeSecret_26 : decode cX2_takeSecret 26 = .ok (.lload_n 2, 1) := by decide +kernel
theorem dX2_takeSecret_27 : decode cX2_takeSecret 27 = .ok (.ldc2_w 69, 3) := by decide +kernel
theorem dX2_takeSecret_30 : decode cX2_takeSecret 30 = .ok (.lcmp, 1) := by decide +kernel
theorem dX2_takeSecret_31 : decode cX2_takeSecret 31 = .ok (.ifCond .ne 7, 3) := by decide +kernel
theorem dX2_takeSecret_34 : decode cX2_takeSecret 34 = .ok (.iconst (-1), 1) := by decide +kernel
theorem dX2_takeSecret_35 : decode cX2_takeSecret 35 = .ok (.goto 11, 3) := by decide +kernel
theorem dX2_takeSecret_38 : decode cX2_takeSecret 38 = .ok (.aload_n 0, 1) := by decide +kernel
theorem dX2_takeSecret_39 : decode cX2_takeSecret 39 = .ok (.iconst 5, 1) := by decide +kernel
theorem dX2_takeSecret_40 : decode cX2_takeSecret 40 = .ok (.iconst 1, 1) := by decide +kernel
theorem dX2_takeSecret_41 : decode cX2_takeSecret 41 = .ok (.bipush 20, 2) := by decide +kernel
theorem dX2_takeSecret_43 : decode cX2_takeSecret 43 = .ok (.invokestatic 100, 3) := by decide +kernel
theorem dX2_takeSecret_46 : decode cX2_takeSecret 46 = .ok (.istore 4, 2) := by decide +kernel
theorem dX2_takeSecret_48 : decode cX2_takeSecret 48 = .ok (.iload 4, 2) := by decide +kernel
theorem dX2_takeSecret_50 : decode cX2_takeSecret 50 = .ok (.iconst (-1), 1) := by decide +kernel
theorem dX2_takeSecret_51 : decode cX2_takeSecret 51 = .ok (.if_icmp .ne 5, 3) := by decide +kernel
theorem dX2_takeSecret_54 : decode cX2_takeSecret 54 = .ok (.iconst 0, 1) := by decide +kernel
theorem dX2_takeSecret_55 : decode cX2_takeSecret 55 = .ok (.ireturn, 1) := by decide +kernel
theorem dX2_takeSecret_56 : decode cX2_takeSecret 56 = .ok (.aload_n 1, 1) := by decide +kernel
theorem dX2_takeSecret_57 : decode cX2_takeSecret 57 = .ok (.lload_n 2, 1) := by decide +kernel
theorem dX2_takeSecret_58 : decode cX2_takeSecret 58 = .ok (.iload 4, 2) := by decide +kernel
theorem dX2_takeSecret_60 : decode cX2_takeSecret 60 = .ok (.invokevirtual 104, 3) := by decide +kernel
theorem dX2_takeSecret_63 : decode cX2_takeSecret 63 = .ok (.iconst 1, 1) := by decide +kernel
theorem dX2_takeSecret_64 : decode cX2_takeSecret 64 = .ok (.ireturn, 1) := by decide +kernel
theorem dX2_takePage_0 : decode cX2_takePage 0 = .ok (.aload_n 1, 1) := by decide +kernel
theorem dX2_takePage_1 : decode cX2_takePage 1 = .ok (.getfield 108, 3) := by decide +kernel
theorem dX2_takePage_4 : decode cX2_takePage 4 = .ok (.bipush 6, 2) := by decide +kernel
theorem dX2_takePage_6 : decode cX2_takePage 6 = .ok (.if_icmp .lt 10, 3) := by decide +kernel
theorem dX2_takePage_9 : decode cX2_takePage 9 = .ok (.aload_n 0, 1) := by decide +kernel
theorem dX2_takePage_10 : decode cX2_takePage 10 = .ok (.bipush 6, 2) := by decide +kernel
theorem dX2_takePage_12 : decode cX2_takePage 12 = .ok (.invokevirtual 48, 3) := by decide +kernel
theorem dX2_takePage_15 : decode cX2_takePage 15 = .ok (.ireturn, 1) := by decide +kernel
theorem dX2_takePage_16 : decode cX2_takePage 16 = .ok (.aload_n 0, 1) := by decide +kernel
theorem dX2_takePage_17 : decode cX2_takePage 17 = .ok (.invokevirtual 75, 3) := by decide +kernel
theorem dX2_takePage_20 : decode cX2_takePage 20 = .ok (.aload_n 0, 1) := by decide +kernel
theorem dX2_takePage_21 : decode cX2_takePage 21 = .ok (.aload_n 1, 1) := by decide +kernel
theorem dX2_takePage_22 : decode cX2_takePage 22 = .ok (.invokestatic 78, 3) := by decide +kernel
theorem dX2_takePage_25 : decode cX2_takePage 25 = .ok (.lstore_n 2, 1) := by decide +kernel
theorem dX2_takePage_26 : decode cX2_takePage 26 = .ok (.lload_n 2, 1) := by decide +kernel
theorem dX2_takePage_27 : decode cX2_takePage 27 = .ok (.ldc2_w 69, 3) := by decide +kernel
theorem dX2_takePage_30 : decode cX2_takePage 30 = .ok (.lcmp, 1) := by decide +kernel
theorem dX2_takePage_31 : decode cX2_takePage 31 = .ok (.ifCond .ne 7, 3) := by decide +kernel
theorem dX2_takePage_34 : decode cX2_takePage 34 = .ok (.iconst (-1), 1) := by decide +kernel
theorem dX2_takePage_35 : decode cX2_takePage 35 = .ok (.goto 12, 3) := by decide +kernel
theorem dX2_takePage_38 : decode cX2_takePage 38 = .ok (.aload_n 0, 1) := by decide +kernel
theorem dX2_takePage_39 : decode cX2_takePage 39 = .ok (.bipush 7, 2) := by decide +kernel
theorem dX2_takePage_41 : decode cX2_takePage 41 = .ok (.iconst 0, 1) := by decide +kernel
theorem dX2_takePage_42 : decode cX2_takePage 42 = .ok (.bipush 60, 2) := by decide +kernel
theorem dX2_takePage_44 : decode cX2_takePage 44 = .ok (.invokestatic 100, 3) := by decide +kernel
theorem dX2_takePage_47 : decode cX2_takePage 47 = .ok (.istore 4, 2) := by decide +kernel
theorem dX2_takePage_49 : decode cX2_takePage 49 = .ok (.iload 4, 2) := by decide +kernel
theorem dX2_takePage_51 : decode cX2_takePage 51 = .ok (.iconst (-1), 1) := by decide +kernel
theorem dX2_takePage_52 : decode cX2_takePage 52 = .ok (.if_icmp .ne 5, 3) := by decide +kernel
theorem dX2_takePage_55 : decode cX2_takePage 55 = .ok (.iconst 0, 1) := by decide +kernel
theorem dX2_takePage_56 : decode cX2_takePage 56 = .ok (.ireturn, 1) := by decide +kernel
theorem dX2_takePage_57 : decode cX2_takePage 57 = .ok (.aload_n 1, 1) := by decide +kernel
theorem dX2_takePage_58 : decode cX2_takePage 58 = .ok (.lload_n 2, 1) := by decide +kernel
theorem dX2_takePage_59 : decode cX2_takePage 59 = .ok (.iload 4, 2) := by decide +kernel
theorem dX2_takePage_61 : decode cX2_takePage 61 = .ok (.invokevirtual 111, 3) := by decide +kernel
theorem dX2_takePage_64 : decode cX2_takePage 64 = .ok (.iconst 1, 1) := by decide +kernel
theorem dX2_takePage_65 : decode cX2_takePage 65 = .ok (.ireturn, 1) := by decide +kernel
theorem dX2_lastNumber_0 : decode cX2_lastNumber 0 = .ok (.aload_n 0, 1) := by decide +kernel
theorem dX2_lastNumber_1 : decode cX2_lastNumber 1 = .ok (.iload_n 1, 1) := by decide +kernel
theorem dX2_lastNumber_2 : decode cX2_lastNumber 2 = .ok (.invokevirtual 82, 3) := by decide +kernel
theorem dX2_lastNumber_5 : decode cX2_lastNumber 5 = .ok (.ifCond .ne 11, 3) := by decide +kernel
theorem dX2_lastNumber_8 : decode cX2_lastNumber 8 = .ok (.aload_n 0, 1) := by decide +kernel
theorem dX2_lastNumber_9 : decode cX2_lastNumber 9 = .ok (.iconst 2, 1) := by decide +kernel
theorem dX2_lastNumber_10 : decode cX2_lastNumber 10 = .ok (.invokevirtual 48, 3) := by decide +kernel
theorem dX2_lastNumber_13 : decode cX2_lastNumber 13 = .ok (.pop, 1) := by decide +kernel
theorem dX2_lastNumber_14 : decode cX2_lastNumber 14 = .ok (.iconst (-1), 1) := by decide +kernel
theorem dX2_lastNumber_15 : decode cX2_lastNumber 15 = .ok (.ireturn, 1) := by decide +kernel
theorem dX2_lastNumber_16 : decode cX2_lastNumber 16 = .ok (.aload_n 0, 1) := by decide +kernel
theorem dX2_lastNumber_17 : decode cX2_lastNumber 17 = .ok (.iload_n 2, 1) := by decide +kernel
theorem dX2_lastNumber_18 : decode cX2_lastNumber 18 = .ok (.iload_n 3, 1) := by decide +kernel
theorem dX2_lastNumber_19 : decode cX2_lastNumber 19 = .ok (.invokevirtual 85, 3) := by decide +kernel
theorem dX2_lastNumber_22 : decode cX2_lastNumber 22 = .ok (.istore 4, 2) := by decide +kernel
theorem dX2_lastNumber_24 : decode cX2_lastNumber 24 = .ok (.iload 4, 2) := by decide +kernel
theorem dX2_lastNumber_26 : decode cX2_lastNumber 26 = .ok (.iconst (-1), 1) := by decide +kernel
theorem dX2_lastNumber_27 : decode cX2_lastNumber 27 = .ok (.if_icmp .eq 15, 3) := by decide +kernel
theorem dX2_lastNumber_30 : decode cX2_lastNumber 30 = .ok (.aload_n 0, 1) := by decide +kernel
theorem dX2_lastNumber_31 : decode cX2_lastNumber 31 = .ok (.invokevirtual 89, 3) := by decide +kernel
theorem dX2_lastNumber_34 : decode cX2_lastNumber 34 = .ok (.ifCond .eq 8, 3) := by decide +kernel
theorem dX2_lastNumber_37 : decode cX2_lastNumber 37 = .ok (.iload 4, 2) := by decide +kernel
theorem dX2_lastNumber_39 : decode cX2_lastNumber 39 = .ok (.goto 4, 3) := by decide +kernel
theorem dX2_lastNumber_42 : decode cX2_lastNumber 42 = .ok (.iconst (-1), 1) := by decide +kernel
theorem dX2_lastNumber_43 : decode cX2_lastNumber 43 = .ok (.ireturn, 1) := by decide +kernel
theorem dX2_takeKnows_0 : decode cX2_takeKnows 0 = .ok (.aload_n 0, 1) := by decide +kernel
theorem dX2_takeKnows_1 : decode cX2_takeKnows 1 = .ok (.invokevirtual 75, 3) := by decide +kernel
theorem dX2_takeKnows_4 : decode cX2_takeKnows 4 = .ok (.aload_n 0, 1) := by decide +kernel
theorem dX2_takeKnows_5 : decode cX2_takeKnows 5 = .ok (.aload_n 1, 1) := by decide +kernel
theorem dX2_takeKnows_6 : decode cX2_takeKnows 6 = .ok (.getfield 114, 3) := by decide +kernel
theorem dX2_takeKnows_9 : decode cX2_takeKnows 9 = .ok (.aload_n 1, 1) := by decide +kernel
theorem dX2_takeKnows_10 : decode cX2_takeKnows 10 = .ok (.getfield 56, 3) := by decide +kernel
theorem dX2_takeKnows_13 : decode cX2_takeKnows 13 = .ok (.invokevirtual 118, 3) := by decide +kernel
theorem dX2_takeKnows_16 : decode cX2_takeKnows 16 = .ok (.istore_n 2, 1) := by decide +kernel
theorem dX2_takeKnows_17 : decode cX2_takeKnows 17 = .ok (.iload_n 2, 1) := by decide +kernel
theorem dX2_takeKnows_18 : decode cX2_takeKnows 18 = .ok (.iconst (-1), 1) := by decide +kernel
theorem dX2_takeKnows_19 : decode cX2_takeKnows 19 = .ok (.if_icmp .ne 7, 3) := by decide +kernel
theorem dX2_takeKnows_22 : decode cX2_takeKnows 22 = .ok (.iconst (-1), 1) := by decide +kernel
theorem dX2_takeKnows_23 : decode cX2_takeKnows 23 = .ok (.goto 15, 3) := by decide +kernel
theorem dX2_takeKnows_26 : decode cX2_takeKnows 26 = .ok (.aload_n 0, 1) := by decide +kernel
theorem dX2_takeKnows_27 : decode cX2_takeKnows 27 = .ok (.aload_n 1, 1) := by decide +kernel
theorem dX2_takeKnows_28 : decode cX2_takeKnows 28 = .ok (.getfield 122, 3) := by decide +kernel
theorem dX2_takeKnows_31 : decode cX2_takeKnows 31 = .ok (.aload_n 1, 1) := by decide +kernel
theorem dX2_takeKnows_32 : decode cX2_takeKnows 32 = .ok (.getfield 97, 3) := by decide +kernel
theorem dX2_takeKnows_35 : decode cX2_takeKnows 35 = .ok (.invokevirtual 118, 3) := by decide +kernel
theorem dX2_takeKnows_38 : decode cX2_takeKnows 38 = .ok (.istore_n 3, 1) := by decide +kernel
theorem dX2_takeKnows_39 : decode cX2_takeKnows 39 = .ok (.iload_n 3, 1) := by decide +kernel
theorem dX2_takeKnows_40 : decode cX2_takeKnows 40 = .ok (.iconst (-1), 1) := by decide +kernel
theorem dX2_takeKnows_41 : decode cX2_takeKnows 41 = .ok (.if_icmp .eq 10, 3) := by decide +kernel
theorem dX2_takeKnows_44 : decode cX2_takeKnows 44 = .ok (.aload_n 0, 1) := by decide +kernel
theorem dX2_takeKnows_45 : decode cX2_takeKnows 45 = .ok (.invokevirtual 89, 3) := by decide +kernel
theorem dX2_takeKnows_48 : decode cX2_takeKnows 48 = .ok (.ifCond .ne 5, 3) := by decide +kernel
theorem dX2_takeKnows_51 : decode cX2_takeKnows 51 = .ok (.iconst 0, 1) := by decide +kernel
theorem dX2_takeKnows_52 : decode cX2_takeKnows 52 = .ok (.ireturn, 1) := by decide +kernel
theorem dX2_takeKnows_53 : decode cX2_takeKnows 53 = .ok (.aload_n 1, 1) := by decide +kernel
theorem dX2_takeKnows_54 : decode cX2_takeKnows 54 = .ok (.getfield 52, 3) := by decide +kernel
theorem dX2_takeKnows_57 : decode cX2_takeKnows 57 = .ok (.getfield 125, 3) := by decide +kernel
theorem dX2_takeKnows_60 : decode cX2_takeKnows 60 = .ok (.iload_n 2, 1) := by decide +kernel
theorem dX2_takeKnows_61 : decode cX2_takeKnows 61 = .ok (.dup2, 1) := by decide +kernel
theorem dX2_takeKnows_62 : decode cX2_takeKnows 62 = .ok (.iaload, 1) := by decide +kernel
theorem dX2_takeKnows_63 : decode cX2_takeKnows 63 = .ok (.iconst 1, 1) := by decide +kernel
theorem dX2_takeKnows_64 : decode cX2_takeKnows 64 = .ok (.iload_n 3, 1) := by decide +kernel
theorem dX2_takeKnows_65 : decode cX2_takeKnows 65 = .ok (.ishl, 1) := by decide +kernel
theorem dX2_takeKnows_66 : decode cX2_takeKnows 66 = .ok (.ior, 1) := by decide +kernel
theorem dX2_takeKnows_67 : decode cX2_takeKnows 67 = .ok (.iastore, 1) := by decide +kernel
theorem dX2_takeKnows_68 : decode cX2_takeKnows 68 = .ok (.iconst 1, 1) := by decide +kernel
theorem dX2_takeKnows_69 : decode cX2_takeKnows 69 = .ok (.ireturn, 1) := by decide +kernel
theorem dX2_takeOrder_0 : decode cX2_takeOrder 0 = .ok (.aload_n 1, 1) := by decide +kernel
theorem dX2_takeOrder_1 : decode cX2_takeOrder 1 = .ok (.invokevirtual 75, 3) := by decide +kernel
theorem dX2_takeOrder_4 : decode cX2_takeOrder 4 = .ok (.aload_n 2, 1) := by decide +kernel
theorem dX2_takeOrder_5 : decode cX2_takeOrder 5 = .ok (.getfield 52, 3) := by decide +kernel
theorem dX2_takeOrder_8 : decode cX2_takeOrder 8 = .ok (.astore_n 3, 1) := by decide +kernel
theorem dX2_takeOrder_9 : decode cX2_takeOrder 9 = .ok (.aload_n 3, 1) := by decide +kernel
theorem dX2_takeOrder_10 : decode cX2_takeOrder 10 = .ok (.iconst 0, 1) := by decide +kernel
theorem dX2_takeOrder_11 : decode cX2_takeOrder 11 = .ok (.putfield 129, 3) := by decide +kernel
theorem dX2_takeOrder_14 : decode cX2_takeOrder 14 = .ok (.aload_n 0, 1) := by decide +kernel
theorem dX2_takeOrder_15 : decode cX2_takeOrder 15 = .ok (.iconst 1, 1) := by decide +kernel
theorem dX2_takeOrder_16 : decode cX2_takeOrder 16 = .ok (.putfield 9, 3) := by decide +kernel
theorem dX2_takeOrder_19 : decode cX2_takeOrder 19 = .ok (.iconst 1, 1) := by decide +kernel
theorem dX2_takeOrder_20 : decode cX2_takeOrder 20 = .ok (.istore 4, 2) := by decide +kernel
theorem dX2_takeOrder_22 : decode cX2_takeOrder 22 = .ok (.iconst 0, 1) := by decide +kernel
theorem dX2_takeOrder_23 : decode cX2_takeOrder 23 = .ok (.istore 5, 2) := by decide +kernel
theorem dX2_takeOrder_25 : decode cX2_takeOrder 25 = .ok (.iload 5, 2) := by decide +kernel
theorem dX2_takeOrder_27 : decode cX2_takeOrder 27 = .ok (.bipush 8, 2) := by decide +kernel
theorem dX2_takeOrder_29 : decode cX2_takeOrder 29 = .ok (.if_icmp .gt 104, 3) := by decide +kernel
theorem dX2_takeOrder_32 : decode cX2_takeOrder 32 = .ok (.iload 4, 2) := by decide +kernel
theorem dX2_takeOrder_34 : decode cX2_takeOrder 34 = .ok (.ifCond .eq 99, 3) := by decide +kernel
theorem dX2_takeOrder_37 : decode cX2_takeOrder 37 = .ok (.aload_n 1, 1) := by decide +kernel
theorem dX2_takeOrder_38 : decode cX2_takeOrder 38 = .ok (.getfield 132, 3) := by decide +kernel
theorem dX2_takeOrder_41 : decode cX2_takeOrder 41 = .ok (.istore 6, 2) := by decide +kernel
theorem dX2_takeOrder_43 : decode cX2_takeOrder 43 = .ok (.aload_n 1, 1) := by decide +kernel
theorem dX2_takeOrder_44 : decode cX2_takeOrder 44 = .ok (.aload_n 2, 1) := by decide +kernel
theorem dX2_takeOrder_45 : decode cX2_takeOrder 45 = .ok (.getfield 114, 3) := by decide +kernel
theorem dX2_takeOrder_48 : decode cX2_takeOrder 48 = .ok (.aload_n 2, 1) := by decide +kernel
theorem dX2_takeOrder_49 : decode cX2_takeOrder 49 = .ok (.getfield 56, 3) := by decide +kernel
theorem dX2_takeOrder_52 : decode cX2_takeOrder 52 = .ok (.invokevirtual 118, 3) := by decide +kernel
theorem dX2_takeOrder_55 : decode cX2_takeOrder 55 = .ok (.istore 7, 2) := by decide +kernel
theorem dX2_takeOrder_57 : decode cX2_takeOrder 57 = .ok (.iload 7, 2) := by decide +kernel
theorem dX2_takeOrder_59 : decode cX2_takeOrder 59 = .ok (.iconst (-1), 1) := by decide +kernel
theorem dX2_takeOrder_60 : decode cX2_takeOrder 60 = .ok (.if_icmp .ne 5, 3) := by decide +kernel
theorem dX2_takeOrder_63 : decode cX2_takeOrder 63 = .ok (.iconst 0, 1) := by decide +kernel
theorem dX2_takeOrder_64 : decode cX2_takeOrder 64 = .ok (.ireturn, 1) := by decide +kernel
theorem dX2_takeOrder_65 : decode cX2_takeOrder 65 = .ok (.aload_n 3, 1) := by decide +kernel
theorem dX2_takeOrder_66 : decode cX2_takeOrder 66 = .ok (.iload 7, 2) := by decide +kernel
theorem dX2_takeOrder_68 : decode cX2_takeOrder 68 = .ok (.invokevirtual 135, 3) := by decide +kernel
theorem dX2_takeOrder_71 : decode cX2_takeOrder 71 = .ok (.iconst (-1), 1) := by decide +kernel
theorem dX2_takeOrder_72 : decode cX2_takeOrder 72 = .ok (.if_icmp .ne 12, 3) := by decide +kernel
theorem dX2_takeOrder_75 : decode cX2_takeOrder 75 = .ok (.aload_n 3, 1) := by decide +kernel
theorem dX2_takeOrder_76 : decode cX2_takeOrder 76 = .ok (.getfield 129, 3) := by decide +kernel
theorem dX2_takeOrder_79 : decode cX2_takeOrder 79 = .ok (.bipush 8, 2) := by decide +kernel
theorem dX2_takeOrder_81 : decode cX2_takeOrder 81 = .ok (.if_icmp .lt 11, 3) := by decide +kernel
theorem dX2_takeOrder_84 : decode cX2_takeOrder 84 = .ok (.aload_n 1, 1) := by decide +kernel
theorem dX2_takeOrder_85 : decode cX2_takeOrder 85 = .ok (.iconst 5, 1) := by decide +kernel
theorem dX2_takeOrder_86 : decode cX2_takeOrder 86 = .ok (.iload 6, 2) := by decide +kernel
theorem dX2_takeOrder_88 : decode cX2_takeOrder 88 = .ok (.invokevirtual 139, 3) := by decide +kernel
theorem dX2_takeOrder_91 : decode cX2_takeOrder 91 = .ok (.ireturn, 1) := by decide +kernel
theorem dX2_takeOrder_92 : decode cX2_takeOrder 92 = .ok (.aload_n 3, 1) := by decide +kernel
theorem dX2_takeOrder_93 : decode cX2_takeOrder 93 = .ok (.getfield 143, 3) := by decide +kernel
theorem dX2_takeOrder_96 : decode cX2_takeOrder 96 = .ok (.aload_n 3, 1) := by decide +kernel
theorem dX2_takeOrder_97 : decode cX2_takeOrder 97 = .ok (.getfield 129, 3) := by decide +kernel
theorem dX2_takeOrder_100 : decode cX2_takeOrder 100 = .ok (.iload 7, 2) := by decide +kernel
theorem dX2_takeOrder_102 : decode cX2_takeOrder 102 = .ok (.iastore, 1) := by decide +kernel
theorem dX2_takeOrder_103 : decode cX2_takeOrder 103 = .ok (.aload_n 3, 1) := by decide +kernel
theorem dX2_takeOrder_104 : decode cX2_takeOrder 104 = .ok (.dup, 1) := by decide +kernel
theorem dX2_takeOrder_105 : decode cX2_takeOrder 105 = .ok (.getfield 129, 3) := by decide +kernel
theorem dX2_takeOrder_108 : decode cX2_takeOrder 108 = .ok (.iconst 1, 1) := by decide +kernel
theorem dX2_takeOrder_109 : decode cX2_takeOrder 109 = .ok (.iadd, 1) := by decide +kernel
theorem dX2_takeOrder_110 : decode cX2_takeOrder 110 = .ok (.putfield 129, 3) := by decide +kernel
theorem dX2_takeOrder_113 : decode cX2_takeOrder 113 = .ok (.aload_n 1, 1) := by decide +kernel
theorem dX2_takeOrder_114 : decode cX2_takeOrder 114 = .ok (.invokevirtual 146, 3) := by decide +kernel
theorem dX2_takeOrder_117 : decode cX2_takeOrder 117 = .ok (.ifCond .ne 7, 3) := by decide +kernel
theorem dX2_takeOrder_120 : decode cX2_takeOrder 120 = .ok (.iconst 1, 1) := by decide +kernel
theorem dX2_takeOrder_121 : decode cX2_takeOrder 121 = .ok (.goto 4, 3) := by decide +kernel
theorem dX2_takeOrder_124 : decode cX2_takeOrder 124 = .ok (.iconst 0, 1) := by decide +kernel
theorem dX2_takeOrder_125 : decode cX2_takeOrder 125 = .ok (.istore 4, 2) := by decide +kernel
theorem dX2_takeOrder_127 : decode cX2_takeOrder 127 = .ok (.iinc 5 1, 3) := by decide +kernel
theorem dX2_takeOrder_130 : decode cX2_takeOrder 130 = .ok (.goto (-105), 3) := by decide +kernel
theorem dX2_takeOrder_133 : decode cX2_takeOrder 133 = .ok (.aload_n 1, 1) := by decide +kernel
theorem dX2_takeOrder_134 : decode cX2_takeOrder 134 = .ok (.invokevirtual 89, 3) := by decide +kernel
theorem dX2_takeOrder_137 : decode cX2_takeOrder 137 = .ok (.ireturn, 1) := by decide +kernel
theorem dX2_takeRead_0 : decode cX2_takeRead 0 = .ok (.aload_n 0, 1) := by decide +kernel
theorem dX2_takeRead_1 : decode cX2_takeRead 1 = .ok (.invokevirtual 75, 3) := by decide +kernel
theorem dX2_takeRead_4 : decode cX2_takeRead 4 = .ok (.aload_n 0, 1) := by decide +kernel
theorem dX2_takeRead_5 : decode cX2_takeRead 5 = .ok (.aload_n 1, 1) := by decide +kernel
theorem dX2_takeRead_6 : decode cX2_takeRead 6 = .ok (.getfield 149, 3) := by decide +kernel
theorem dX2_takeRead_9 : decode cX2_takeRead 9 = .ok (.aload_n 1, 1) := by decide +kernel
theorem dX2_takeRead_10 : decode cX2_takeRead 10 = .ok (.getfield 108, 3) := by decide +kernel
theorem dX2_takeRead_13 : decode cX2_takeRead 13 = .ok (.invokevirtual 118, 3) := by decide +kernel
theorem dX2_takeRead_16 : decode cX2_takeRead 16 = .ok (.istore_n 2, 1) := by decide +kernel
theorem dX2_takeRead_17 : decode cX2_takeRead 17 = .ok (.iload_n 2, 1) := by decide +kernel
theorem dX2_takeRead_18 : decode cX2_takeRead 18 = .ok (.iconst (-1), 1) := by decide +kernel
theorem dX2_takeRead_19 : decode cX2_takeRead 19 = .ok (.if_icmp .ne 7, 3) := by decide +kernel
theorem dX2_takeRead_22 : decode cX2_takeRead 22 = .ok (.iconst (-1), 1) := by decide +kernel
theorem dX2_takeRead_23 : decode cX2_takeRead 23 = .ok (.goto 12, 3) := by decide +kernel
theorem dX2_takeRead_26 : decode cX2_takeRead 26 = .ok (.aload_n 0, 1) := by decide +kernel
theorem dX2_takeRead_27 : decode cX2_takeRead 27 = .ok (.bipush 11, 2) := by decide +kernel
theorem dX2_takeRead_29 : decode cX2_takeRead 29 = .ok (.iconst 0, 1) := by decide +kernel
theorem dX2_takeRead_30 : decode cX2_takeRead 30 = .ok (.bipush 16, 2) := by decide +kernel
theorem dX2_takeRead_32 : decode cX2_takeRead 32 = .ok (.invokestatic 100, 3) := by decide +kernel
theorem dX2_takeRead_35 : decode cX2_takeRead 35 = .ok (.istore_n 3, 1) := by decide +kernel
theorem dX2_takeRead_36 : decode cX2_takeRead 36 = .ok (.iload_n 3, 1) := by decide +kernel
theorem dX2_takeRead_37 : decode cX2_takeRead 37 = .ok (.iconst (-1), 1) := by decide +kernel
theorem dX2_takeRead_38 : decode cX2_takeRead 38 = .ok (.if_icmp .ne 5, 3) := by decide +kernel
theorem dX2_takeRead_41 : decode cX2_takeRead 41 = .ok (.iconst 0, 1) := by decide +kernel
theorem dX2_takeRead_42 : decode cX2_takeRead 42 = .ok (.ireturn, 1) := by decide +kernel
theorem dX2_takeRead_43 : decode cX2_takeRead 43 = .ok (.aload_n 1, 1) := by decide +kernel
theorem dX2_takeRead_44 : decode cX2_takeRead 44 = .ok (.getfield 52, 3) := by decide +kernel
theorem dX2_takeRead_47 : decode cX2_takeRead 47 = .ok (.getfield 152, 3) := by decide +kernel
theorem dX2_takeRead_50 : decode cX2_takeRead 50 = .ok (.iload_n 2, 1) := by decide +kernel
theorem dX2_takeRead_51 : decode cX2_takeRead 51 = .ok (.iload_n 3, 1) := by decide +kernel
theorem dX2_takeRead_52 : decode cX2_takeRead 52 = .ok (.iastore, 1) := by decide +kernel
theorem dX2_takeRead_53 : decode cX2_takeRead 53 = .ok (.iconst 1, 1) := by decide +kernel
theorem dX2_takeRead_54 : decode cX2_takeRead 54 = .ok (.ireturn, 1) := by decide +kernel
theorem dX3_init_0 : decode cX3_init 0 = .ok (.aload_n 0, 1) := by decide +kernel
theorem dX3_init_1 : decode cX3_init 1 = .ok (.invokespecial 3, 3) := by decide +kernel
theorem dX3_init_4 : decode cX3_init 4 = .ok (.aload_n 0, 1) := by decide +kernel
theorem dX3_init_5 : decode cX3_init 5 = .ok (.iconst 0, 1) := by decide +kernel
theorem dX3_init_6 : decode cX3_init 6 = .ok (.putfield 9, 3) := by decide +kernel
theorem dX3_init_9 : decode cX3_init 9 = .ok (.aload_n 0, 1) := by decide +kernel
theorem dX3_init_10 : decode cX3_init 10 = .ok (.iconst 0, 1) := by decide +kernel
theorem dX3_init_11 : decode cX3_init 11 = .ok (.putfield 15, 3) := by decide +kernel
theorem dX3_init_14 : decode cX3_init 14 = .ok (.aload_n 0, 1) := by decide +kernel
theorem dX3_init_15 : decode cX3_init 15 = .ok (.iconst 0, 1) := by decide +kernel
theorem dX3_init_16 : decode cX3_init 16 = .ok (.putfield 18, 3) := by decide +kernel
theorem dX3_init_19 : decode cX3_init 19 = .ok (.aload_n 0, 1) := by decide +kernel
theorem dX3_init_20 : decode cX3_init 20 = .ok (.iconst 0, 1) := by decide +kernel
theorem dX3_init_21 : decode cX3_init 21 = .ok (.putfield 21, 3) := by decide +kernel
theorem dX3_init_24 : decode cX3_init 24 = .ok (.aload_n 0, 1) := by decide +kernel
theorem dX3_init_25 : decode cX3_init 25 = .ok (.iconst 0, 1) := by decide +kernel
theorem dX3_init_26 : decode cX3_init 26 = .ok (.putfield 24, 3) := by decide +kernel
theorem dX3_init_29 : decode cX3_init 29 = .ok (.aload_n 0, 1) := by decide +kernel
theorem dX3_init_30 : decode cX3_init 30 = .ok (.iconst 0, 1) := by decide +kernel
theorem dX3_init_31 : decode cX3_init 31 = .ok (.putfield 27, 3) := by decide +kernel
theorem dX3_init_34 : decode cX3_init 34 = .ok (.aload_n 0, 1) := by decide +kernel
theorem dX3_init_35 : decode cX3_init 35 = .ok (.iconst 0, 1) := by decide +kernel
theorem dX3_init_36 : decode cX3_init 36 = .ok (.putfield 30, 3) := by decide +kernel
theorem dX3_init_39 : decode cX3_init 39 = .ok (.aload_n 0, 1) := by decide +kernel
theorem dX3_init_40 : decode cX3_init 40 = .ok (.bipush 60, 2) := by decide +kernel
theorem dX3_init_42 : decode cX3_init 42 = .ok (.newarray .int, 2) := by decide +kernel
theorem dX3_init_44 : decode cX3_init 44 = .ok (.putfield 35, 3) := by decide +kernel
theorem dX3_init_47 : decode cX3_init 47 = .ok (.aload_n 0, 1) := by decide +kernel
theorem dX3_init_48 : decode cX3_init 48 = .ok (.new 39, 3) := by decide +kernel
theorem dX3_init_51 : decode cX3_init 51 = .ok (.dup, 1) := by decide +kernel
theorem dX3_init_52 : decode cX3_init 52 = .ok (.invokespecial 41, 3) := by decide +kernel
theorem dX3_init_55 : decode cX3_init 55 = .ok (.putfield 42, 3) := by decide +kernel
theorem dX3_init_58 : decode cX3_init 58 = .ok (.return_, 1) := by decide +kernel
theorem dX3_tellTo_0 : decode cX3_tellTo 0 = .ok (.aload_n 1, 1) := by decide +kernel
theorem dX3_tellTo_1 : decode cX3_tellTo 1 = .ok (.iconst 0, 1) := by decide +kernel
theorem dX3_tellTo_2 : decode cX3_tellTo 2 = .ok (.aload_n 0, 1) := by decide +kernel
theorem dX3_tellTo_3 : decode cX3_tellTo 3 = .ok (.getfield 15, 3) := by decide +kernel
theorem dX3_tellTo_6 : decode cX3_tellTo 6 = .ok (.iastore, 1) := by decide +kernel
theorem dX3_tellTo_7 : decode cX3_tellTo 7 = .ok (.aload_n 1, 1) := by decide +kernel
theorem dX3_tellTo_8 : decode cX3_tellTo 8 = .ok (.iconst 1, 1) := by decide +kernel
theorem dX3_tellTo_9 : decode cX3_tellTo 9 = .ok (.aload_n 0, 1) := by decide +kernel
theorem dX3_tellTo_10 : decode cX3_tellTo 10 = .ok (.getfield 18, 3) := by decide +kernel
theorem dX3_tellTo_13 : decode cX3_tellTo 13 = .ok (.iastore, 1) := by decide +kernel
theorem dX3_tellTo_14 : decode cX3_tellTo 14 = .ok (.aload_n 1, 1) := by decide +kernel
theorem dX3_tellTo_15 : decode cX3_tellTo 15 = .ok (.iconst 2, 1) := by decide +kernel
theorem dX3_tellTo_16 : decode cX3_tellTo 16 = .ok (.aload_n 0, 1) := by decide +kernel
theorem dX3_tellTo_17 : decode cX3_tellTo 17 = .ok (.getfield 21, 3) := by decide +kernel
theorem dX3_tellTo_20 : decode cX3_tellTo 20 = .ok (.iastore, 1) := by decide +kernel
theorem dX3_tellTo_21 : decode cX3_tellTo 21 = .ok (.aload_n 1, 1) := by decide +kernel
theorem dX3_tellTo_22 : decode cX3_tellTo 22 = .ok (.iconst 3, 1) := by decide +kernel
theorem dX3_tellTo_23 : decode cX3_tellTo 23 = .ok (.aload_n 0, 1) := by decide +kernel
theorem dX3_tellTo_24 : decode cX3_tellTo 24 = .ok (.getfield 24, 3) := by decide +kernel
theorem dX3_tellTo_27 : decode cX3_tellTo 27 = .ok (.iastore, 1) := by decide +kernel
theorem dX3_tellTo_28 : decode cX3_tellTo 28 = .ok (.aload_n 1, 1) := by decide +kernel
theorem dX3_tellTo_29 : decode cX3_tellTo 29 = .ok (.iconst 4, 1) := by decide +kernel
theorem dX3_tellTo_30 : decode cX3_tellTo 30 = .ok (.aload_n 0, 1) := by decide +kernel
theorem dX3_tellTo_31 : decode cX3_tellTo 31 = .ok (.getfield 27, 3) := by decide +kernel
theorem dX3_tellTo_34 : decode cX3_tellTo 34 = .ok (.iastore, 1) := by decide +kernel
theorem dX3_tellTo_35 : decode cX3_tellTo 35 = .ok (.return_, 1) := by decide +kernel
theorem dX3_probeOf_0 : decode cX3_probeOf 0 = .ok (.aload_n 0, 1) := by decide +kernel
theorem dX3_probeOf_1 : decode cX3_probeOf 1 = .ok (.getfield 42, 3) := by decide +kernel
theorem dX3_probeOf_4 : decode cX3_probeOf 4 = .ok (.aload_n 1, 1) := by decide +kernel
theorem dX3_probeOf_5 : decode cX3_probeOf 5 = .ok (.getfield 46, 3) := by decide +kernel
theorem dX3_probeOf_8 : decode cX3_probeOf 8 = .ok (.invokevirtual 51, 3) := by decide +kernel
theorem dX3_probeOf_11 : decode cX3_probeOf 11 = .ok (.aload_n 0, 1) := by decide +kernel
theorem dX3_probeOf_12 : decode cX3_probeOf 12 = .ok (.getfield 42, 3) := by decide +kernel
theorem dX3_probeOf_15 : decode cX3_probeOf 15 = .ok (.areturn, 1) := by decide +kernel
theorem dX3_run_0 : decode cX3_run 0 = .ok (.aload_n 1, 1) := by decide +kernel
theorem dX3_run_1 : decode cX3_run 1 = .ok (.getfield 55, 3) := by decide +kernel
theorem dX3_run_4 : decode cX3_run 4 = .ok (.astore 4, 2) := by decide +kernel
theorem dX3_run_6 : decode cX3_run 6 = .ok (.aload_n 0, 1) := by decide +kernel
theorem dX3_run_7 : decode cX3_run 7 = .ok (.iload_n 3, 1) := by decide +kernel
theorem dX3_run_8 : decode cX3_run 8 = .ok (.putfield 30, 3) := by decide +kernel
theorem dX3_run_11 : decode cX3_run 11 = .ok (.aload_n 0, 1) := by decide +kernel
theorem dX3_run_12 : decode cX3_run 12 = .ok (.iconst 0, 1) := by decide +kernel
theorem dX3_run_13 : decode cX3_run 13 = .ok (.putfield 9, 3) := by decide +kernel
theorem dX3_run_16 : decode cX3_run 16 = .ok (.aload_n 0, 1) := by decide +kernel
theorem dX3_run_17 : decode cX3_run 17 = .ok (.iconst 0, 1) := by decide +kernel
theorem dX3_run_18 : decode cX3_run 18 = .ok (.putfield 15, 3) := by decide +kernel
theorem dX3_run_21 : decode cX3_run 21 = .ok (.aload_n 0, 1) := by decide +kernel
theorem dX3_run_22 : decode cX3_run 22 = .ok (.iconst 0, 1) := by decide +kernel
theorem dX3_run_23 : decode cX3_run 23 = .ok (.putfield 24, 3) := by decide +kernel
theorem dX3_run_26 : decode cX3_run 26 = .ok (.aload_n 0, 1) := by decide +kernel
theorem dX3_run_27 : decode cX3_run 27 = .ok (.iconst 0, 1) := by decide +kernel
theorem dX3_run_28 : decode cX3_run 28 = .ok (.putfield 27, 3) := by decide +kernel
theorem dX3_run_31 : decode cX3_run 31 = .ok (.aload_n 2, 1) := by decide +kernel
theorem dX3_run_32 : decode cX3_run 32 = .ok (.getfield 59, 3) := by decide +kernel
theorem dX3_run_35 : decode cX3_run 35 = .ok (.istore 5, 2) := by decide +kernel
theorem dX3_run_37 : decode cX3_run 37 = .ok (.aload_n 2, 1) := by decide +kernel
theorem dX3_run_38 : decode cX3_run 38 = .ok (.getfield 60, 3) := by decide +kernel
theorem dX3_run_41 : decode cX3_run 41 = .ok (.istore 6, 2) := by decide +kernel
theorem dX3_run_43 : decode cX3_run 43 = .ok (.iconst 0, 1) := by decide +kernel
theorem dX3_run_44 : decode cX3_run 44 = .ok (.istore 7, 2) := by decide +kernel
theorem dX3_run_46 : decode cX3_run 46 = .ok (.iconst 0, 1) := by decide +kernel
theorem dX3_run_47 : decode cX3_run 47 = .ok (.istore 8, 2) := by decide +kernel
theorem dX3_run_49 : decode cX3_run 49 = .ok (.iload 8, 2) := by decide +kernel
theorem dX3_run_51 : decode cX3_run 51 = .ok (.ldc 63, 2) := by decide +kernel
theorem dX3_run_53 : decode cX3_run 53 = .ok (.if_icmp .ge 90, 3) := by decide +kernel
theorem dX3_run_56 : decode cX3_run 56 = .ok (.iload 7, 2) := by decide +kernel
theorem dX3_run_58 : decode cX3_run 58 = .ok (.aload 4, 2) := by decide +kernel
theorem dX3_run_60 : decode cX3_run 60 = .ok (.getfield 64, 3) := by decide +kernel
theorem dX3_run_63 : decode cX3_run 63 = .ok (.if_icmp .ge 80, 3) := by decide +kernel
theorem dX3_run_66 : decode cX3_run 66 = .ok (.aload 4, 2) := by decide +kernel
theorem dX3_run_68 : decode cX3_run 68 = .ok (.getfield 67, 3) := by decide +kernel
theorem dX3_run_71 : decode cX3_run 71 = .ok (.iload 7, 2) := by decide +kernel
theorem dX3_run_73 : decode cX3_run 73 = .ok (.iaload, 1) := by decide +kernel
theorem dX3_run_74 : decode cX3_run 74 = .ok (.bipush 22, 2) := by decide +kernel
theorem dX3_run_76 : decode cX3_run 76 = .ok (.if_icmp .ne 16, 3) := by decide +kernel
theorem dX3_run_79 : decode cX3_run 79 = .ok (.aload_n 0, 1) := by decide +kernel
theorem dX3_run_80 : decode cX3_run 80 = .ok (.aload 4, 2) := by decide +kernel
theorem dX3_run_82 : decode cX3_run 82 = .ok (.iload 7, 2) := by decide +kernel
theorem dX3_run_84 : decode cX3_run 84 = .ok (.invokevirtual 70, 3) := by decide +kernel
theorem dX3_run_87 : decode cX3_run 87 = .ok (.istore 7, 2) := by decide +kernel
theorem dX3_run_89 : decode cX3_run 89 = .ok (.goto 48, 3) := by decide +kernel
theorem dX3_run_92 : decode cX3_run 92 = .ok (.aload_n 0, 1) := by decide +kernel
theorem dX3_run_93 : decode cX3_run 93 = .ok (.getfield 9, 3) := by decide +kernel
theorem dX3_run_96 : decode cX3_run 96 = .ok (.sipush 300, 3) := by decide +kernel
theorem dX3_run_99 : decode cX3_run 99 = .ok (.if_icmp .lt 18, 3) := by decide +kernel
theorem dX3_run_102 : decode cX3_run 102 = .ok (.aload_n 0, 1) := by decide +kernel
theorem dX3_run_103 : decode cX3_run 103 = .ok (.iconst 1, 1) := by decide +kernel
theorem dX3_run_104 : decode cX3_run 104 = .ok (.putfield 27, 3) := by decide +kernel
theorem dX3_run_107 : decode cX3_run 107 = .ok (.aload 4, 2) := by decide +kernel
theorem dX3_run_109 : decode cX3_run 109 = .ok (.getfield 64, 3) := by decide +kernel
theorem dX3_run_112 : decode cX3_run 112 = .ok (.istore 7, 2) := by decide +kernel
theorem dX3_run_114 : decode cX3_run 114 = .ok (.goto 23, 3) := by decide +kernel
theorem dX3_run_117 : decode cX3_run 117 = .ok (.aload_n 0, 1) := by decide +kernel
theorem dX3_run_118 : decode cX3_run 118 = .ok (.dup, 1) := by decide +kernel
theorem dX3_run_119 : decode cX3_run 119 = .ok (.getfield 9, 3) := by decide +kernel
theorem dX3_run_122 : decode cX3_run 122 = .ok (.iconst 1, 1) := by decide +kernel
theorem dX3_run_123 : decode cX3_run 123 = .ok (.iadd, 1) := by decide +kernel
theorem dX3_run_124 : decode cX3_run 124 = .ok (.putfield 9, 3) := by decide +kernel
theorem dX3_run_127 : decode cX3_run 127 = .ok (.aload_n 0, 1) := by decide +kernel
theorem dX3_run_128 : decode cX3_run 128 = .ok (.aload_n 1, 1) := by decide +kernel
theorem dX3_run_129 : decode cX3_run 129 = .ok (.aload_n 2, 1) := by decide +kernel
theorem dX3_run_130 : decode cX3_run 130 = .ok (.iload 7, 2) := by decide +kernel
theorem dX3_run_132 : decode cX3_run 132 = .ok (.invokevirtual 74, 3) := by decide +kernel
theorem dX3_run_135 : decode cX3_run 135 = .ok (.istore 7, 2) := by decide +kernel
theorem dX3_run_137 : decode cX3_run 137 = .ok (.iinc 8 1, 3) := by decide +kernel
theorem dX3_run_140 : decode cX3_run 140 = .ok (.goto (-91), 3) := by decide +kernel
theorem dX3_run_143 : decode cX3_run 143 = .ok (.aload_n 0, 1) := by decide +kernel
theorem dX3_run_144 : decode cX3_run 144 = .ok (.aload_n 2, 1) := by decide +kernel
theorem dX3_run_145 : decode cX3_run 145 = .ok (.getfield 59, 3) := by decide +kernel
theorem dX3_run_148 : decode cX3_run 148 = .ok (.iload 5, 2) := by decide +kernel
theorem dX3_run_150 : decode cX3_run 150 = .ok (.isub, 1) := by decide +kernel
theorem dX3_run_151 : decode cX3_run 151 = .ok (.putfield 18, 3) := by decide +kernel
theorem dX3_run_154 : decode cX3_run 154 = .ok (.aload_n 0, 1) := by decide +kernel
theorem dX3_run_155 : decode cX3_run 155 = .ok (.aload_n 2, 1) := by decide +kernel
theorem dX3_run_156 : decode cX3_run 156 = .ok (.getfield 60, 3) := by decide +kernel
theorem dX3_run_159 : decode cX3_run 159 = .ok (.iload 6, 2) := by decide +kernel
theorem dX3_run_161 : decode cX3_run 161 = .ok (.isub, 1) := by decide +kernel
theorem dX3_run_162 : decode cX3_run 162 = .ok (.putfield 21, 3) := by decide +kernel
theorem dX3_run_165 : decode cX3_run 165 = .ok (.return_, 1) := by decide +kernel
theorem dX3_behindEnd_0 : decode cX3_behindEnd 0 = .ok (.aload_n 1, 1) := by decide +kernel
theorem dX3_behindEnd_1 : decode cX3_behindEnd 1 = .ok (.getfield 78, 3) := by decide +kernel
theorem dX3_behindEnd_4 : decode cX3_behindEnd 4 = .ok (.iload_n 2, 1) := by decide +kernel
theorem dX3_behindEnd_5 : decode cX3_behindEnd 5 = .ok (.iaload, 1) := by decide +kernel
theorem dX3_behindEnd_6 : decode cX3_behindEnd 6 = .ok (.istore_n 3, 1) := by decide +kernel
theorem dX3_behindEnd_7 : decode cX3_behindEnd 7 = .ok (.iload_n 3, 1) := by decide +kernel
theorem dX3_behindEnd_8 : decode cX3_behindEnd 8 = .ok (.ifCond .lt 14, 3) := by decide +kernel
theorem dX3_behindEnd_11 : decode cX3_behindEnd 11 = .ok (.aload_n 1, 1) := by decide +kernel
theorem dX3_behindEnd_12 : decode cX3_behindEnd 12 = .ok (.getfield 67, 3) := by decide +kernel
theorem dX3_behindEnd_15 : decode cX3_behindEnd 15 = .ok (.iload_n 3, 1) := by decide +kernel
theorem dX3_behindEnd_16 : decode cX3_behindEnd 16 = .ok (.iaload, 1) := by decide +kernel
theorem dX3_behindEnd_17 : decode cX3_behindEnd 17 = .ok (.bipush 21, 2) := by decide +kernel
theorem dX3_behindEnd_19 : decode cX3_behindEnd 19 = .ok (.if_icmp .eq 7, 3) := by decide +kernel
theorem dX3_behindEnd_22 : decode cX3_behindEnd 22 = .ok (.iload_n 2, 1) := by decide +kernel
theorem dX3_behindEnd_23 : decode cX3_behindEnd 23 = .ok (.iconst 1, 1) := by decide +kernel
theorem dX3_behindEnd_24 : decode cX3_behindEnd 24 = .ok (.iadd, 1) := by decide +kernel
theorem dX3_behindEnd_25 : decode cX3_behindEnd 25 = .ok (.ireturn, 1) := by decide +kernel
theorem dX3_behindEnd_26 : decode cX3_behindEnd 26 = .ok (.aload_n 0, 1) := by decide +kernel
theorem dX3_behindEnd_27 : decode cX3_behindEnd 27 = .ok (.getfield 35, 3) := by decide +kernel
theorem dX3_behindEnd_30 : decode cX3_behindEnd 30 = .ok (.iload_n 3, 1) := by decide +kernel
theorem dX3_behindEnd_31 : decode cX3_behindEnd 31 = .ok (.dup2, 1) := by decide +kernel
theorem dX3_behindEnd_32 : decode cX3_behindEnd 32 = .ok (.iaload, 1) := by decide +kernel
theorem dX3_behindEnd_33 : decode cX3_behindEnd 33 = .ok (.iconst 1, 1) := by decide +kernel
theorem dX3_behindEnd_34 : decode cX3_behindEnd 34 = .ok (.isub, 1) := by decide +kernel
theorem dX3_behindEnd_35 : decode cX3_behindEnd 35 = .ok (.iastore, 1) := by decide +kernel
theorem dX3_behindEnd_36 : decode cX3_behindEnd 36 = .ok (.aload_n 0, 1) := by decide +kernel
theorem dX3_behindEnd_37 : decode cX3_behindEnd 37 = .ok (.getfield 35, 3) := by decide +kernel
theorem dX3_behindEnd_40 : decode cX3_behindEnd 40 = .ok (.iload_n 3, 1) := by decide +kernel
theorem dX3_behindEnd_41 : decode cX3_behindEnd 41 = .ok (.iaload, 1) := by decide +kernel
theorem dX3_behindEnd_42 : decode cX3_behindEnd 42 = .ok (.ifCond .le 9, 3) := by decide +kernel
theorem dX3_behindEnd_45 : decode cX3_behindEnd 45 = .ok (.iload_n 3, 1) := by decide +kernel
theorem dX3_behindEnd_46 : decode cX3_behindEnd 46 = .ok (.iconst 1, 1) := by decide +kernel
theorem dX3_behindEnd_47 : decode cX3_behindEnd 47 = .ok (.iadd, 1) := by decide +kernel
theorem dX3_behindEnd_48 : decode cX3_behindEnd 48 = .ok (.goto 6, 3) := by decide +kernel
theorem dX3_behindEnd_51 : decode cX3_behindEnd 51 = .ok (.iload_n 2, 1) := by decide +kernel
theorem dX3_behindEnd_52 : decode cX3_behindEnd 52 = .ok (.iconst 1, 1) := by decide +kernel
theorem dX3_behindEnd_53 : decode cX3_behindEnd 53 = .ok (.iadd, 1) := by decide +kernel
theorem dX3_behindEnd_54 : decode cX3_behindEnd 54 = .ok (.ireturn, 1) := by decide +kernel
theorem dX3_takeStep_0 : decode cX3_takeStep 0 = .ok (.aload_n 1, 1) := by decide +kernel
theorem dX3_takeStep_1 : decode cX3_takeStep 1 = .ok (.getfield 55, 3) := by decide +kernel
theorem dX3_takeStep_4 : decode cX3_takeStep 4 = .ok (.astore 4, 2) := by decide +kernel
theorem dX3_takeStep_6 : decode cX3_takeStep 6 = .ok (.aload 4, 2) := by decide +kernel
theorem dX3_takeStep_8 : decode cX3_takeStep 8 = .ok (.getfield 81, 3) := by decide +kernel
theorem dX3_takeStep_11 : decode cX3_takeStep 11 = .ok (.iload_n 3, 1) := by decide +kernel
theorem dX3_takeStep_12 : decode cX3_takeStep 12 = .ok (.iaload, 1) := by decide +kernel
theorem dX3_takeStep_13 : decode cX3_takeStep 13 = .ok (.istore 5, 2) := by decide +kernel
theorem dX3_takeStep_15 : decode cX3_takeStep 15 = .ok (.iload_n 3, 1) := by decide +kernel
theorem dX3_takeStep_16 : decode cX3_takeStep 16 = .ok (.iconst 1, 1) := by decide +kernel
theorem dX3_takeStep_17 : decode cX3_takeStep 17 = .ok (.iadd, 1) := by decide +kernel
theorem dX3_takeStep_18 : decode cX3_takeStep 18 = .ok (.istore 6, 2) := by decide +kernel
theorem dX3_takeStep_20 : decode cX3_takeStep 20 = .ok (.iconst 1, 1) := by decide +kernel
theorem dX3_takeStep_21 : decode cX3_takeStep 21 = .ok (.istore 7, 2) := by decide +kernel
theorem dX3_takeStep_23 : decode cX3_takeStep 23 = .ok (.aload 4, 2) := by decide +kernel
theorem dX3_takeStep_25 : decode cX3_takeStep 25 = .ok (.getfield 67, 3) := by decide +kernel
theorem dX3_takeStep_28 : decode cX3_takeStep 28 = .ok (.iload_n 3, 1) := by decide +kernel
theorem dX3_takeStep_29 : decode cX3_takeStep 29 = .ok (.iaload, 1) := by decide +kernel
theorem dX3_takeStep_30 : decode cX3_takeStep 30 = .ok (.tableswitch 236 8 23 #[99, 236, 236, 236, 197, 128, 160, 178, 144, 236, 236, 99, 99, 88, 236, 78], 78) := by decide +kernel
theorem dX3_takeStep_108 : decode cX3_takeStep 108 = .ok (.aload 4, 2) := by decide +kernel
theorem dX3_takeStep_110 : decode cX3_takeStep 110 = .ok (.getfield 64, 3) := by decide +kernel
theorem dX3_takeStep_113 : decode cX3_takeStep 113 = .ok (.istore 6, 2) := by decide +kernel
theorem dX3_takeStep_115 : decode cX3_takeStep 115 = .ok (.goto 159, 3) := by decide +kernel
theorem dX3_takeStep_118 : decode cX3_takeStep 118 = .ok (.aload_n 0, 1) := by decide +kernel
theorem dX3_takeStep_119 : decode cX3_takeStep 119 = .ok (.getfield 35, 3) := by decide +kernel
theorem dX3_takeStep_122 : decode cX3_takeStep 122 = .ok (.iload_n 3, 1) := by decide +kernel
theorem dX3_takeStep_123 : decode cX3_takeStep 123 = .ok (.iload 5, 2) := by decide +kernel
theorem dX3_takeStep_125 : decode cX3_takeStep 125 = .ok (.iastore, 1) := by decide +kernel
theorem dX3_takeStep_126 : decode cX3_takeStep 126 = .ok (.goto 148, 3) := by decide +kernel
theorem dX3_takeStep_129 : decode cX3_takeStep 129 = .ok (.aload_n 1, 1) := by decide +kernel
theorem dX3_takeStep_130 : decode cX3_takeStep 130 = .ok (.aload_n 2, 1) := by decide +kernel
theorem dX3_takeStep_131 : decode cX3_takeStep 131 = .ok (.iload_n 3, 1) := by decide +kernel
theorem dX3_takeStep_132 : decode cX3_takeStep 132 = .ok (.invokestatic 84, 3) := by decide +kernel
theorem dX3_takeStep_135 : decode cX3_takeStep 135 = .ok (.ifCond .eq 9, 3) := by decide +kernel
theorem dX3_takeStep_138 : decode cX3_takeStep 138 = .ok (.iload_n 3, 1) := by decide +kernel
theorem dX3_takeStep_139 : decode cX3_takeStep 139 = .ok (.iconst 1, 1) := by decide +kernel
theorem dX3_takeStep_140 : decode cX3_takeStep 140 = .ok (.iadd, 1) := by decide +kernel
theorem dX3_takeStep_141 : decode cX3_takeStep 141 = .ok (.goto 12, 3) := by decide +kernel
theorem dX3_takeStep_144 : decode cX3_takeStep 144 = .ok (.aload 4, 2) := by decide +kernel
theorem dX3_takeStep_146 : decode cX3_takeStep 146 = .ok (.getfield 78, 3) := by decide +kernel
theorem dX3_takeStep_149 : decode cX3_takeStep 149 = .ok (.iload_n 3, 1) := by decide +kernel
theorem dX3_takeStep_150 : decode cX3_takeStep 150 = .ok (.iaload, 1) := by decide +kernel
theorem dX3_takeStep_151 : decode cX3_takeStep 151 = .ok (.iconst 1, 1) := by decide +kernel
theorem dX3_takeStep_152 : decode cX3_takeStep 152 = .ok (.iadd, 1) := by decide +kernel
theorem dX3_takeStep_153 : decode cX3_takeStep 153 = .ok (.istore 6, 2) := by decide +kernel
theorem dX3_takeStep_155 : decode cX3_takeStep 155 = .ok (.goto 119, 3) := by decide +kernel
theorem dX3_takeStep_158 : decode cX3_takeStep 158 = .ok (.aload_n 2, 1) := by decide +kernel
theorem dX3_takeStep_159 : decode cX3_takeStep 159 = .ok (.dup, 1) := by decide +kernel
theorem dX3_takeStep_160 : decode cX3_takeStep 160 = .ok (.getfield 88, 3) := by decide +kernel
theorem dX3_takeStep_163 : decode cX3_takeStep 163 = .ok (.iconst 1, 1) := by decide +kernel
theorem dX3_takeStep_164 : decode cX3_takeStep 164 = .ok (.iload 5, 2) := by decide +kernel
theorem dX3_takeStep_166 : decode cX3_takeStep 166 = .ok (.ishl, 1) := by decide +kernel
theorem dX3_takeStep_167 : decode cX3_takeStep 167 = .ok (.ixor, 1) := by decide +kernel
theorem dX3_takeStep_168 : decode cX3_takeStep 168 = .ok (.putfield 88, 3) := by decide +kernel
theorem dX3_takeStep_171 : decode cX3_takeStep 171 = .ok (.goto 103, 3) := by decide +kernel
theorem dX3_takeStep_174 : decode cX3_takeStep 174 = .ok (.aload_n 2, 1) := by decide +kernel
theorem dX3_takeStep_175 : decode cX3_takeStep 175 = .ok (.dup, 1) := by decide +kernel
theorem dX3_takeStep_176 : decode cX3_takeStep 176 = .ok (.getfield 91, 3) := by decide +kernel
theorem dX3_takeStep_179 : decode cX3_takeStep 179 = .ok (.iconst 1, 1) := by decide +kernel
theorem dX3_takeStep_180 : decode cX3_takeStep 180 = .ok (.iload 5, 2) := by decide +kernel
theorem dX3_takeStep_182 : decode cX3_takeStep 182 = .ok (.ishl, 1) := by decide +kernel
theorem dX3_takeStep_183 : decode cX3_takeStep 183 = .ok (.ixor, 1) := by decide +kernel
theorem dX3_takeStep_184 : decode cX3_takeStep 184 = .ok (.putfield 91, 3) := by decide +kernel
theorem dX3_takeStep_187 : decode cX3_takeStep 187 = .ok (.goto 87, 3) := by decide +kernel
theorem dX3_takeStep_190 : decode cX3_takeStep 190 = .ok (.aload_n 2, 1) := by decide +kernel
theorem dX3_takeStep_191 : decode cX3_takeStep 191 = .ok (.iload 5, 2) := by decide +kernel
theorem dX3_takeStep_193 : decode cX3_takeStep 193 = .ok (.aload 4, 2) := by decide +kernel
theorem dX3_takeStep_195 : decode cX3_takeStep 195 = .ok (.getfield 94, 3) := by decide +kernel
theorem dX3_takeStep_198 : decode cX3_takeStep 198 = .ok (.iload_n 3, 1) := by decide +kernel
theorem dX3_takeStep_199 : decode cX3_takeStep 199 = .ok (.iaload, 1) := by decide +kernel
theorem dX3_takeStep_200 : decode cX3_takeStep 200 = .ok (.invokevirtual 97, 3) := by decide +kernel
theorem dX3_takeStep_203 : decode cX3_takeStep 203 = .ok (.istore 7, 2) := by decide +kernel
theorem dX3_takeStep_205 : decode cX3_takeStep 205 = .ok (.goto 69, 3) := by decide +kernel
theorem dX3_takeStep_208 : decode cX3_takeStep 208 = .ok (.aload_n 2, 1) := by decide +kernel
theorem dX3_takeStep_209 : decode cX3_takeStep 209 = .ok (.iload 5, 2) := by decide +kernel
theorem dX3_takeStep_211 : decode cX3_takeStep 211 = .ok (.invokevirtual 101, 3) := by decide +kernel
theorem dX3_takeStep_214 : decode cX3_takeStep 214 = .ok (.ifCond .le 7, 3) := by decide +kernel
theorem dX3_takeStep_217 : decode cX3_takeStep 217 = .ok (.iconst 1, 1) := by decide +kernel
theorem dX3_takeStep_218 : decode cX3_takeStep 218 = .ok (.goto 4, 3) := by decide +kernel
theorem dX3_takeStep_221 : decode cX3_takeStep 221 = .ok (.iconst 0, 1) := by decide +kernel
theorem dX3_takeStep_222 : decode cX3_takeStep 222 = .ok (.istore 7, 2) := by decide +kernel
theorem dX3_takeStep_224 : decode cX3_takeStep 224 = .ok (.goto 50, 3) := by decide +kernel
theorem dX3_takeStep_227 : decode cX3_takeStep 227 = .ok (.aload_n 2, 1) := by decide +kernel
theorem dX3_takeStep_228 : decode cX3_takeStep 228 = .ok (.getfield 59, 3) := by decide +kernel
theorem dX3_takeStep_231 : decode cX3_takeStep 231 = .ok (.iload 5, 2) := by decide +kernel
theorem dX3_takeStep_233 : decode cX3_takeStep 233 = .ok (.iadd, 1) := by decide +kernel
theorem dX3_takeStep_234 : decode cX3_takeStep 234 = .ok (.sipush 9999, 3) := by decide +kernel
theorem dX3_takeStep_237 : decode cX3_takeStep 237 = .ok (.if_icmp .gt 7, 3) := by decide +kernel
theorem dX3_takeStep_240 : decode cX3_takeStep 240 = .ok (.iconst 1, 1) := by decide +kernel
theorem dX3_takeStep_241 : decode cX3_takeStep 241 = .ok (.goto 4, 3) := by decide +kernel
theorem dX3_takeStep_244 : decode cX3_takeStep 244 = .ok (.iconst 0, 1) := by decide +kernel
theorem dX3_takeStep_245 : decode cX3_takeStep 245 = .ok (.istore 7, 2) := by decide +kernel
theorem dX3_takeStep_247 : decode cX3_takeStep 247 = .ok (.aload_n 2, 1) := by decide +kernel
theorem dX3_takeStep_248 : decode cX3_takeStep 248 = .ok (.aload_n 1, 1) := by decide +kernel
theorem dX3_takeStep_249 : decode cX3_takeStep 249 = .ok (.iload 7, 2) := by decide +kernel
theorem dX3_takeStep_251 : decode cX3_takeStep 251 = .ok (.ifCond .eq 8, 3) := by decide +kernel
theorem dX3_takeStep_254 : decode cX3_takeStep 254 = .ok (.iload 5, 2) := by decide +kernel
theorem dX3_takeStep_256 : decode cX3_takeStep 256 = .ok (.goto 4, 3) := by decide +kernel
theorem dX3_takeStep_259 : decode cX3_takeStep 259 = .ok (.iconst 0, 1) := by decide +kernel
theorem dX3_takeStep_260 : decode cX3_takeStep 260 = .ok (.invokevirtual 105, 3) := by decide +kernel
theorem dX3_takeStep_263 : decode cX3_takeStep 263 = .ok (.goto 11, 3) := by decide +kernel
theorem dX3_takeStep_266 : decode cX3_takeStep 266 = .ok (.aload_n 0, 1) := by decide +kernel
theorem dX3_takeStep_267 : decode cX3_takeStep 267 = .ok (.aload_n 1, 1) := by decide +kernel
theorem dX3_takeStep_268 : decode cX3_takeStep 268 = .ok (.aload_n 2, 1) := by decide +kernel
theorem dX3_takeStep_269 : decode cX3_takeStep 269 = .ok (.invokevirtual 109, 3) := by decide +kernel
theorem dX3_takeStep_272 : decode cX3_takeStep 272 = .ok (.istore 7, 2) := by decide +kernel
theorem dX3_takeStep_274 : decode cX3_takeStep 274 = .ok (.aload_n 0, 1) := by decide +kernel
theorem dX3_takeStep_275 : decode cX3_takeStep 275 = .ok (.dup, 1) := by decide +kernel
theorem dX3_takeStep_276 : decode cX3_takeStep 276 = .ok (.getfield 15, 3) := by decide +kernel
theorem dX3_takeStep_279 : decode cX3_takeStep 279 = .ok (.iload 7, 2) := by decide +kernel
theorem dX3_takeStep_281 : decode cX3_takeStep 281 = .ok (.ifCond .eq 7, 3) := by decide +kernel
theorem dX3_takeStep_284 : decode cX3_takeStep 284 = .ok (.iconst 0, 1) := by decide +kernel
theorem dX3_takeStep_285 : decode cX3_takeStep 285 = .ok (.goto 4, 3) := by decide +kernel
theorem dX3_takeStep_288 : decode cX3_takeStep 288 = .ok (.iconst 1, 1) := by decide +kernel
theorem dX3_takeStep_289 : decode cX3_takeStep 289 = .ok (.iadd, 1) := by decide +kernel
theorem dX3_takeStep_290 : decode cX3_takeStep 290 = .ok (.putfield 15, 3) := by decide +kernel
theorem dX3_takeStep_293 : decode cX3_takeStep 293 = .ok (.iload 6, 2) := by decide +kernel
theorem dX3_takeStep_295 : decode cX3_takeStep 295 = .ok (.ireturn, 1) := by decide +kernel
theorem dX3_holds_0 : decode cX3_holds 0 = .ok (.aload_n 0, 1) := by decide +kernel
theorem dX3_holds_1 : decode cX3_holds 1 = .ok (.getfield 55, 3) := by decide +kernel
theorem dX3_holds_4 : decode cX3_holds 4 = .ok (.getfield 81, 3) := by decide +kernel
theorem dX3_holds_7 : decode cX3_holds 7 = .ok (.iload_n 2, 1) := by decide +kernel
theorem dX3_holds_8 : decode cX3_holds 8 = .ok (.iaload, 1) := by decide +kernel
theorem dX3_holds_9 : decode cX3_holds 9 = .ok (.istore_n 3, 1) := by decide +kernel
theorem dX3_holds_10 : decode cX3_holds 10 = .ok (.aload_n 0, 1) := by decide +kernel
theorem dX3_holds_11 : decode cX3_holds 11 = .ok (.getfield 55, 3) := by decide +kernel
theorem dX3_holds_14 : decode cX3_holds 14 = .ok (.getfield 67, 3) := by decide +kernel
theorem dX3_holds_17 : decode cX3_holds 17 = .ok (.iload_n 2, 1) := by decide +kernel
theorem dX3_holds_18 : decode cX3_holds 18 = .ok (.iaload, 1) := by decide +kernel
theorem dX3_holds_19 : decode cX3_holds 19 = .ok (.lookupswitch 59 #[(8, 25), (19, 44)], 25) := by decide +kernel
theorem dX3_holds_44 : decode cX3_holds 44 = .ok (.aload_n 1, 1) := by decide +kernel
theorem dX3_holds_45 : decode cX3_holds 45 = .ok (.getfield 113, 3) := by decide +kernel
theorem dX3_holds_48 : decode cX3_holds 48 = .ok (.iload_n 3, 1) := by decide +kernel
theorem dX3_holds_49 : decode cX3_holds 49 = .ok (.iaload, 1) := by decide +kernel
theorem dX3_holds_50 : decode cX3_holds 50 = .ok (.aload_n 0, 1) := by decide +kernel
theorem dX3_holds_51 : decode cX3_holds 51 = .ok (.getfield 55, 3) := by decide +kernel
theorem dX3_holds_54 : decode cX3_holds 54 = .ok (.getfield 94, 3) := by decide +kernel
theorem dX3_holds_57 : decode cX3_holds 57 = .ok (.iload_n 2, 1) := by decide +kernel
theorem dX3_holds_58 : decode cX3_holds 58 = .ok (.iaload, 1) := by decide +kernel
theorem dX3_holds_59 : decode cX3_holds 59 = .ok (.invokestatic 116, 3) := by decide +kernel
theorem dX3_holds_62 : decode cX3_holds 62 = .ok (.ireturn, 1) := by decide +kernel
theorem dX3_holds_63 : decode cX3_holds 63 = .ok (.aload_n 1, 1) := by decide +kernel
theorem dX3_holds_64 : decode cX3_holds 64 = .ok (.aload_n 0, 1) := by decide +kernel
theorem dX3_holds_65 : decode cX3_holds 65 = .ok (.iload_n 3, 1) := by decide +kernel
theorem dX3_holds_66 : decode cX3_holds 66 = .ok (.invokevirtual 119, 3) := by decide +kernel
theorem dX3_holds_69 : decode cX3_holds 69 = .ok (.ifCond .ne 7, 3) := by decide +kernel
theorem dX3_holds_72 : decode cX3_holds 72 = .ok (.iconst 1, 1) := by decide +kernel
theorem dX3_holds_73 : decode cX3_holds 73 = .ok (.goto 4, 3) := by decide +kernel
theorem dX3_holds_76 : decode cX3_holds 76 = .ok (.iconst 0, 1) := by decide +kernel
theorem dX3_holds_77 : decode cX3_holds 77 = .ok (.ireturn, 1) := by decide +kernel
theorem dX3_holds_78 : decode cX3_holds 78 = .ok (.aload_n 1, 1) := by decide +kernel
theorem dX3_holds_79 : decode cX3_holds 79 = .ok (.aload_n 0, 1) := by decide +kernel
theorem dX3_holds_80 : decode cX3_holds 80 = .ok (.invokevirtual 123, 3) := by decide +kernel
theorem dX3_holds_83 : decode cX3_holds 83 = .ok (.iconst 1, 1) := by decide +kernel
theorem dX3_holds_84 : decode cX3_holds 84 = .ok (.iload_n 3, 1) := by decide +kernel
theorem dX3_holds_85 : decode cX3_holds 85 = .ok (.ishl, 1) := by decide +kernel
theorem dX3_holds_86 : decode cX3_holds 86 = .ok (.invokevirtual 127, 3) := by decide +kernel
theorem dX3_holds_89 : decode cX3_holds 89 = .ok (.ireturn, 1) := by decide +kernel
theorem dX3_searches_0 : decode cX3_searches 0 = .ok (.iconst 0, 1) := by decide +kernel
theorem dX3_searches_1 : decode cX3_searches 1 = .ok (.istore_n 3, 1) := by decide +kernel
theorem dX3_searches_2 : decode cX3_searches 2 = .ok (.iconst 0, 1) := by decide +kernel
theorem dX3_searches_3 : decode cX3_searches 3 = .ok (.istore 4, 2) := by decide +kernel
theorem dX3_searches_5 : decode cX3_searches 5 = .ok (.iload 4, 2) := by decide +kernel
theorem dX3_searches_7 : decode cX3_searches 7 = .ok (.aload_n 1, 1) := by decide +kernel
theorem dX3_searches_8 : decode cX3_searches 8 = .ok (.getfield 130, 3) := by decide +kernel
theorem dX3_searches_11 : decode cX3_searches 11 = .ok (.if_icmp .ge 44, 3) := by decide +kernel
theorem dX3_searches_14 : decode cX3_searches 14 = .ok (.aload_n 2, 1) := by decide +kernel
theorem dX3_searches_15 : decode cX3_searches 15 = .ok (.getfield 91, 3) := by decide +kernel
theorem dX3_searches_18 : decode cX3_searches 18 = .ok (.iload 4, 2) := by decide +kernel
theorem dX3_searches_20 : decode cX3_searches 20 = .ok (.invokestatic 116, 3) := by decide +kernel
theorem dX3_searches_23 : decode cX3_searches 23 = .ok (.ifCond .ne 26, 3) := by decide +kernel
theorem dX3_searches_26 : decode cX3_searches 26 = .ok (.aload_n 0, 1) := by decide +kernel
theorem dX3_searches_27 : decode cX3_searches 27 = .ok (.invokevirtual 133, 3) := by decide +kernel
theorem dX3_searches_30 : decode cX3_searches 30 = .ok (.aload_n 2, 1) := by decide +kernel
theorem dX3_searches_31 : decode cX3_searches 31 = .ok (.getfield 136, 3) := by decide +kernel
theorem dX3_searches_34 : decode cX3_searches 34 = .ok (.iload 4, 2) := by decide +kernel
theorem dX3_searches_36 : decode cX3_searches 36 = .ok (.iaload, 1) := by decide +kernel
theorem dX3_searches_37 : decode cX3_searches 37 = .ok (.if_icmp .ge 12, 3) := by decide +kernel
theorem dX3_searches_40 : decode cX3_searches 40 = .ok (.iload_n 3, 1) := by decide +kernel
theorem dX3_searches_41 : decode cX3_searches 41 = .ok (.aload_n 2, 1) := by decide +kernel
theorem dX3_searches_42 : decode cX3_searches 42 = .ok (.iload 4, 2) := by decide +kernel
theorem dX3_searches_44 : decode cX3_searches 44 = .ok (.invokevirtual 101, 3) := by decide +kernel
theorem dX3_searches_47 : decode cX3_searches 47 = .ok (.iadd, 1) := by decide +kernel
theorem dX3_searches_48 : decode cX3_searches 48 = .ok (.istore_n 3, 1) := by decide +kernel
theorem dX3_searches_49 : decode cX3_searches 49 = .ok (.iinc 4 1, 3) := by decide +kernel
theorem dX3_searches_52 : decode cX3_searches 52 = .ok (.goto (-47), 3) := by decide +kernel
theorem dX3_searches_55 : decode cX3_searches 55 = .ok (.aload_n 0, 1) := by decide +kernel
theorem dX3_searches_56 : decode cX3_searches 56 = .ok (.dup, 1) := by decide +kernel
theorem dX3_searches_57 : decode cX3_searches 57 = .ok (.getfield 24, 3) := by decide +kernel
theorem dX3_searches_60 : decode cX3_searches 60 = .ok (.iload_n 3, 1) := by decide +kernel
theorem dX3_searches_61 : decode cX3_searches 61 = .ok (.iadd, 1) := by decide +kernel
theorem dX3_searches_62 : decode cX3_searches 62 = .ok (.putfield 24, 3) := by decide +kernel
theorem dX3_searches_65 : decode cX3_searches 65 = .ok (.iload_n 3, 1) := by decide +kernel
theorem dX3_searches_66 : decode cX3_searches 66 = .ok (.ifCond .le 7, 3) := by decide +kernel
theorem dX3_searches_69 : decode cX3_searches 69 = .ok (.iconst 1, 1) := by decide +kernel
theorem dX3_searches_70 : decode cX3_searches 70 = .ok (.goto 4, 3) := by decide +kernel
theorem dX3_searches_73 : decode cX3_searches 73 = .ok (.iconst 0, 1) := by decide +kernel
theorem dX3_searches_74 : decode cX3_searches 74 = .ok (.ireturn, 1) := by decide +kernel
theorem dX3_drawSixteenth_0 : decode cX3_drawSixteenth 0 = .ok (.aload_n 0, 1) := by decide +kernel
theorem dX3_drawSixteenth_1 : decode cX3_drawSixteenth 1 = .ok (.aload_n 0, 1) := by decide +kernel
theorem dX3_drawSixteenth_2 : decode cX3_drawSixteenth 2 = .ok (.getfield 30, 3) := by decide +kernel
theorem dX3_drawSixteenth_5 : decode cX3_drawSixteenth 5 = .ok (.sipush 2969, 3) := by decide +kernel
theorem dX3_drawSixteenth_8 : decode cX3_drawSixteenth 8 = .ok (.imul, 1) := by decide +kernel
theorem dX3_drawSixteenth_9 : decode cX3_drawSixteenth 9 = .ok (.sipush 10651, 3) := by decide +kernel
theorem dX3_drawSixteenth_12 : decode cX3_drawSixteenth 12 = .ok (.iadd, 1) := by decide +kernel
theorem dX3_drawSixteenth_13 : decode cX3_drawSixteenth 13 = .ok (.ldc 139, 2) := by decide +kernel
theorem dX3_drawSixteenth_15 : decode cX3_drawSixteenth 15 = .ok (.irem, 1) := by decide +kernel
theorem dX3_drawSixteenth_16 : decode cX3_drawSixteenth 16 = .ok (.putfield 30, 3) := by decide +kernel
theorem dX3_drawSixteenth_19 : decode cX3_drawSixteenth 19 = .ok (.aload_n 0, 1) := by decide +kernel
theorem dX3_drawSixteenth_20 : decode cX3_drawSixteenth 20 = .ok (.getfield 30, 3) := by decide +kernel
theorem dX3_drawSixteenth_23 : decode cX3_drawSixteenth 23 = .ok (.bipush 8, 2) := by decide +kernel
theorem dX3_drawSixteenth_25 : decode cX3_drawSixteenth 25 = .ok (.idiv, 1) := by decide +kernel
theorem dX3_drawSixteenth_26 : decode cX3_drawSixteenth 26 = .ok (.bipush 16, 2) := by decide +kernel
theorem dX3_drawSixteenth_28 : decode cX3_drawSixteenth 28 = .ok (.irem, 1) := by decide +kernel
theorem dX3_drawSixteenth_29 : decode cX3_drawSixteenth 29 = .ok (.ireturn, 1) := by decide +kernel
theorem dX4_init_0 : decode cX4_init 0 = .ok (.aload_n 0, 1) := by decide +kernel
theorem dX4_init_1 : decode cX4_init 1 = .ok (.invokespecial 3, 3) := by decide +kernel
theorem dX4_init_4 : decode cX4_init 4 = .ok (.aload_n 0, 1) := by decide +kernel
theorem dX4_init_5 : decode cX4_init 5 = .ok (.lconst 0, 1) := by decide +kernel
theorem dX4_init_6 : decode cX4_init 6 = .ok (.putfield 9, 3) := by decide +kernel
theorem dX4_init_9 : decode cX4_init 9 = .ok (.aload_n 0, 1) := by decide +kernel
theorem dX4_init_10 : decode cX4_init 10 = .ok (.lconst 1, 1) := by decide +kernel
theorem dX4_init_11 : decode cX4_init 11 = .ok (.putfield 15, 3) := by decide +kernel
theorem dX4_init_14 : decode cX4_init 14 = .ok (.aload_n 0, 1) := by decide +kernel
theorem dX4_init_15 : decode cX4_init 15 = .ok (.bipush 64, 2) := by decide +kernel
theorem dX4_init_17 : decode cX4_init 17 = .ok (.newarray .long, 2) := by decide +kernel
theorem dX4_init_19 : decode cX4_init 19 = .ok (.putfield 18, 3) := by decide +kernel
theorem dX4_init_22 : decode cX4_init 22 = .ok (.aload_n 0, 1) := by decide +kernel
theorem dX4_init_23 : decode cX4_init 23 = .ok (.bipush 64, 2) := by decide +kernel
theorem dX4_init_25 : decode cX4_init 25 = .ok (.newarray .int, 2) := by decide +kernel
theorem dX4_init_27 : decode cX4_init 27 = .ok (.putfield 22, 3) := by decide +kernel
theorem dX4_init_30 : decode cX4_init 30 = .ok (.return_, 1) := by decide +kernel
theorem dX4_keep_0 : decode cX4_keep 0 = .ok (.lload_n 3, 1) := by decide +kernel
theorem dX4_keep_1 : decode cX4_keep 1 = .ok (.lload_n 1, 1) := by decide +kernel
theorem dX4_keep_2 : decode cX4_keep 2 = .ok (.invokestatic 26, 3) := by decide +kernel
theorem dX4_keep_5 : decode cX4_keep 5 = .ok (.lstore 5, 2) := by decide +kernel
theorem dX4_keep_7 : decode cX4_keep 7 = .ok (.lload 5, 2) := by decide +kernel
theorem dX4_keep_9 : decode cX4_keep 9 = .ok (.lconst 0, 1) := by decide +kernel
theorem dX4_keep_10 : decode cX4_keep 10 = .ok (.lcmp, 1) := by decide +kernel
theorem dX4_keep_11 : decode cX4_keep 11 = .ok (.ifCond .le 19, 3) := by decide +kernel
theorem dX4_keep_14 : decode cX4_keep 14 = .ok (.aload_n 0, 1) := by decide +kernel
theorem dX4_keep_15 : decode cX4_keep 15 = .ok (.lload_n 1, 1) := by decide +kernel
theorem dX4_keep_16 : decode cX4_keep 16 = .ok (.lload 5, 2) := by decide +kernel
theorem dX4_keep_18 : decode cX4_keep 18 = .ok (.ldiv, 1) := by decide +kernel
theorem dX4_keep_19 : decode cX4_keep 19 = .ok (.putfield 9, 3) := by decide +kernel
theorem dX4_keep_22 : decode cX4_keep 22 = .ok (.aload_n 0, 1) := by decide +kernel
theorem dX4_keep_23 : decode cX4_keep 23 = .ok (.lload_n 3, 1) := by decide +kernel
theorem dX4_keep_24 : decode cX4_keep 24 = .ok (.lload 5, 2) := by decide +kernel
theorem dX4_keep_26 : decode cX4_keep 26 = .ok (.ldiv, 1) := by decide +kernel
theorem dX4_keep_27 : decode cX4_keep 27 = .ok (.putfield 15, 3) := by decide +kernel
theorem dX4_keep_30 : decode cX4_keep 30 = .ok (.return_, 1) := by decide +kernel
theorem dX4_commonDivisor_0 : decode cX4_commonDivisor 0 = .ok (.lload_n 0, 1) := by decide +kernel
theorem dX4_commonDivisor_1 : decode cX4_commonDivisor 1 = .ok (.lstore 4, 2) := by decide +kernel
theorem dX4_commonDivisor_3 : decode cX4_commonDivisor 3 = .ok (.lload_n 2, 1) := by decide +kernel
theorem dX4_commonDivisor_4 : decode cX4_commonDivisor 4 = .ok (.lstore 6, 2) := by decide +kernel
theorem dX4_commonDivisor_6 : decode cX4_commonDivisor 6 = .ok (.iconst 0, 1) := by decide +kernel
theorem dX4_commonDivisor_7 : decode cX4_commonDivisor 7 = .ok (.istore 8, 2) := by decide +kernel
theorem dX4_commonDivisor_9 : decode cX4_commonDivisor 9 = .ok (.iload 8, 2) := by decide +kernel
theorem dX4_commonDivisor_11 : decode cX4_commonDivisor 11 = .ok (.sipush 200, 3) := by decide +kernel
theorem dX4_commonDivisor_14 : decode cX4_commonDivisor 14 = .ok (.if_icmp .ge 31, 3) := by decide +kernel
theorem dX4_commonDivisor_17 : decode cX4_commonDivisor 17 = .ok (.lload 6, 2) := by decide +kernel
theorem dX4_commonDivisor_19 : decode cX4_commonDivisor 19 = .ok (.lconst 0, 1) := by decide +kernel
theorem dX4_commonDivisor_20 : decode cX4_commonDivisor 20 = .ok (.lcmp, 1) := by decide +kernel
theorem dX4_commonDivisor_21 : decode cX4_commonDivisor 21 = .ok (.ifCond .eq 24, 3) := by decide +kernel
theorem dX4_commonDivisor_24 : decode cX4_commonDivisor 24 = .ok (.lload 4, 2) := by decide +kernel
theorem dX4_commonDivisor_26 : decode cX4_commonDivisor 26 = .ok (.lload 6, 2) := by decide +kernel
theorem dX4_commonDivisor_28 : decode cX4_commonDivisor 28 = .ok (.lrem, 1) := by decide +kernel
theorem dX4_commonDivisor_29 : decode cX4_commonDivisor 29 = .ok (.lstore 9, 2) := by decide +kernel
theorem dX4_commonDivisor_31 : decode cX4_commonDivisor 31 = .ok (.lload 6, 2) := by decide +kernel
theorem dX4_commonDivisor_33 : decode cX4_commonDivisor 33 = .ok (.lstore 4, 2) := by decide +kernel
theorem dX4_commonDivisor_35 : decode cX4_commonDivisor 35 = .ok (.lload 9, 2) := by decide +kernel
theorem dX4_commonDivisor_37 : decode cX4_commonDivisor 37 = .ok (.lstore 6, 2) := by decide +kernel
theorem dX4_commonDivisor_39 : decode cX4_commonDivisor 39 = .ok (.iinc 8 1, 3) := by decide +kernel
theorem dX4_commonDivisor_42 : decode cX4_commonDivisor 42 = .ok (.goto (-33), 3) := by decide +kernel
theorem dX4_commonDivisor_45 : decode cX4_commonDivisor 45 = .ok (.lload 4, 2) := by decide +kernel
theorem dX4_commonDivisor_47 : decode cX4_commonDivisor 47 = .ok (.lreturn, 1) := by decide +kernel
theorem dX4_tellRisk_0 : decode cX4_tellRisk 0 = .ok (.lconst 1, 1) := by decide +kernel
theorem dX4_tellRisk_1 : decode cX4_tellRisk 1 = .ok (.lstore_n 3, 1) := by decide +kernel
theorem dX4_tellRisk_2 : decode cX4_tellRisk 2 = .ok (.lconst 1, 1) := by decide +kernel
theorem dX4_tellRisk_3 : decode cX4_tellRisk 3 = .ok (.lstore 5, 2) := by decide +kernel
theorem dX4_tellRisk_5 : decode cX4_tellRisk 5 = .ok (.iconst 0, 1) := by decide +kernel
theorem dX4_tellRisk_6 : decode cX4_tellRisk 6 = .ok (.istore 7, 2) := by decide +kernel
theorem dX4_tellRisk_8 : decode cX4_tellRisk 8 = .ok (.iload 7, 2) := by decide +kernel
theorem dX4_tellRisk_10 : decode cX4_tellRisk 10 = .ok (.iload_n 2, 1) := by decide +kernel
theorem dX4_tellRisk_11 : decode cX4_tellRisk 11 = .ok (.if_icmp .ge 80, 3) := by decide +kernel
theorem dX4_tellRisk_14 : decode cX4_tellRisk 14 = .ok (.iconst 0, 1) := by decide +kernel
theorem dX4_tellRisk_15 : decode cX4_tellRisk 15 = .ok (.istore 8, 2) := by decide +kernel
theorem dX4_tellRisk_17 : decode cX4_tellRisk 17 = .ok (.iload 8, 2) := by decide +kernel
theorem dX4_tellRisk_19 : decode cX4_tellRisk 19 = .ok (.aload_n 1, 1) := by decide +kernel
theorem dX4_tellRisk_20 : decode cX4_tellRisk 20 = .ok (.getfield 30, 3) := by decide +kernel
theorem dX4_tellRisk_23 : decode cX4_tellRisk 23 = .ok (.if_icmp .ge 62, 3) := by decide +kernel
theorem dX4_tellRisk_26 : decode cX4_tellRisk 26 = .ok (.aload_n 1, 1) := by decide +kernel
theorem dX4_tellRisk_27 : decode cX4_tellRisk 27 = .ok (.getfield 36, 3) := by decide +kernel
theorem dX4_tellRisk_30 : decode cX4_tellRisk 30 = .ok (.getfield 40, 3) := by decide +kernel
theorem dX4_tellRisk_33 : decode cX4_tellRisk 33 = .ok (.iload 8, 2) := by decide +kernel
theorem dX4_tellRisk_35 : decode cX4_tellRisk 35 = .ok (.invokestatic 45, 3) := by decide +kernel
theorem dX4_tellRisk_38 : decode cX4_tellRisk 38 = .ok (.ifCond .ne 41, 3) := by decide +kernel
theorem dX4_tellRisk_41 : decode cX4_tellRisk 41 = .ok (.aload_n 1, 1) := by decide +kernel
theorem dX4_tellRisk_42 : decode cX4_tellRisk 42 = .ok (.getfield 36, 3) := by decide +kernel
theorem dX4_tellRisk_45 : decode cX4_tellRisk 45 = .ok (.getfield 49, 3) := by decide +kernel
theorem dX4_tellRisk_48 : decode cX4_tellRisk 48 = .ok (.iload 8, 2) := by decide +kernel
theorem dX4_tellRisk_50 : decode cX4_tellRisk 50 = .ok (.iaload, 1) := by decide +kernel
theorem dX4_tellRisk_51 : decode cX4_tellRisk 51 = .ok (.ifCond .le 28, 3) := by decide +kernel
theorem dX4_tellRisk_54 : decode cX4_tellRisk 54 = .ok (.lload_n 3, 1) := by decide +kernel
theorem dX4_tellRisk_55 : decode cX4_tellRisk 55 = .ok (.bipush 16, 2) := by decide +kernel
theorem dX4_tellRisk_57 : decode cX4_tellRisk 57 = .ok (.aload_n 1, 1) := by decide +kernel
theorem dX4_tellRisk_58 : decode cX4_tellRisk 58 = .ok (.getfield 36, 3) := by decide +kernel
theorem dX4_tellRisk_61 : decode cX4_tellRisk 61 = .ok (.getfield 52, 3) := by decide +kernel
theorem dX4_tellRisk_64 : decode cX4_tellRisk 64 = .ok (.iload 8, 2) := by decide +kernel
theorem dX4_tellRisk_66 : decode cX4_tellRisk 66 = .ok (.iaload, 1) := by decide +kernel
theorem dX4_tellRisk_67 : decode cX4_tellRisk 67 = .ok (.isub, 1) := by decide +kernel
theorem dX4_tellRisk_68 : decode cX4_tellRisk 68 = .ok (.i2l, 1) := by decide +kernel
theorem dX4_tellRisk_69 : decode cX4_tellRisk 69 = .ok (.lmul, 1) := by decide +kernel
theorem dX4_tellRisk_70 : decode cX4_tellRisk 70 = .ok (.lstore_n 3, 1) := by decide +kernel
theorem dX4_tellRisk_71 : decode cX4_tellRisk 71 = .ok (.lload 5, 2) := by decide +kernel
theorem dX4_tellRisk_73 : decode cX4_tellRisk 73 = .ok (.ldc2_w 55, 3) := by decide +kernel
theorem dX4_tellRisk_76 : decode cX4_tellRisk 76 = .ok (.lmul, 1) := by decide +kernel
theorem dX4_tellRisk_77 : decode cX4_tellRisk 77 = .ok (.lstore 5, 2) := by decide +kernel
theorem dX4_tellRisk_79 : decode cX4_tellRisk 79 = .ok (.iinc 8 1, 3) := by decide +kernel
theorem dX4_tellRisk_82 : decode cX4_tellRisk 82 = .ok (.goto (-65), 3) := by decide +kernel
theorem dX4_tellRisk_85 : decode cX4_tellRisk 85 = .ok (.iinc 7 1, 3) := by decide +kernel
theorem dX4_tellRisk_88 : decode cX4_tellRisk 88 = .ok (.goto (-80), 3) := by decide +kernel
theorem dX4_tellRisk_91 : decode cX4_tellRisk 91 = .ok (.aload_n 0, 1) := by decide +kernel
theorem dX4_tellRisk_92 : decode cX4_tellRisk 92 = .ok (.lload 5, 2) := by decide +kernel
theorem dX4_tellRisk_94 : decode cX4_tellRisk 94 = .ok (.lload_n 3, 1) := by decide +kernel
theorem dX4_tellRisk_95 : decode cX4_tellRisk 95 = .ok (.lsub, 1) := by decide +kernel
theorem dX4_tellRisk_96 : decode cX4_tellRisk 96 = .ok (.lload 5, 2) := by decide +kernel
theorem dX4_tellRisk_98 : decode cX4_tellRisk 98 = .ok (.invokevirtual 57, 3) := by decide +kernel
theorem dX4_tellRisk_101 : decode cX4_tellRisk 101 = .ok (.return_, 1) := by decide +kernel
theorem dX4_tellGame_0 : decode cX4_tellGame 0 = .ok (.aload_n 1, 1) := by decide +kernel
theorem dX4_tellGame_1 : decode cX4_tellGame 1 = .ok (.invokestatic 61, 3) := by decide +kernel
theorem dX4_tellGame_4 : decode cX4_tellGame 4 = .ok (.iconst (-1), 1) := by decide +kernel
theorem dX4_tellGame_5 : decode cX4_tellGame 5 = .ok (.if_icmp .eq 11, 3) := by decide +kernel
theorem dX4_tellGame_8 : decode cX4_tellGame 8 = .ok (.aload_n 0, 1) := by decide +kernel
theorem dX4_tellGame_9 : decode cX4_tellGame 9 = .ok (.lconst 0, 1) := by decide +kernel
theorem dX4_tellGame_10 : decode cX4_tellGame 10 = .ok (.lconst 1, 1) := by decide +kernel
theorem dX4_tellGame_11 : decode cX4_tellGame 11 = .ok (.invokevirtual 57, 3) := by decide +kernel
theorem dX4_tellGame_14 : decode cX4_tellGame 14 = .ok (.iconst 1, 1) := by decide +kernel
theorem dX4_tellGame_15 : decode cX4_tellGame 15 = .ok (.ireturn, 1) := by decide +kernel
theorem dX4_tellGame_16 : decode cX4_tellGame 16 = .ok (.aload_n 1, 1) := by decide +kernel
theorem dX4_tellGame_17 : decode cX4_tellGame 17 = .ok (.invokestatic 65, 3) := by decide +kernel
theorem dX4_tellGame_20 : decode cX4_tellGame 20 = .ok (.lstore_n 2, 1) := by decide +kernel
theorem dX4_tellGame_21 : decode cX4_tellGame 21 = .ok (.lload_n 2, 1) := by decide +kernel
theorem dX4_tellGame_22 : decode cX4_tellGame 22 = .ok (.lconst 0, 1) := by decide +kernel
theorem dX4_tellGame_23 : decode cX4_tellGame 23 = .ok (.lcmp, 1) := by decide +kernel
theorem dX4_tellGame_24 : decode cX4_tellGame 24 = .ok (.ifCond .ne 5, 3) := by decide +kernel
theorem dX4_tellGame_27 : decode cX4_tellGame 27 = .ok (.iconst 0, 1) := by decide +kernel
theorem dX4_tellGame_28 : decode cX4_tellGame 28 = .ok (.ireturn, 1) := by decide +kernel
theorem dX4_tellGame_29 : decode cX4_tellGame 29 = .ok (.aload_n 0, 1) := by decide +kernel
theorem dX4_tellGame_30 : decode cX4_tellGame 30 = .ok (.ldc2_w 69, 3) := by decide +kernel
theorem dX4_tellGame_33 : decode cX4_tellGame 33 = .ok (.ldc2_w 55, 3) := by decide +kernel
theorem dX4_tellGame_36 : decode cX4_tellGame 36 = .ok (.lload_n 2, 1) := by decide +kernel
theorem dX4_tellGame_37 : decode cX4_tellGame 37 = .ok (.lmul, 1) := by decide +kernel
theorem dX4_tellGame_38 : decode cX4_tellGame 38 = .ok (.invokevirtual 57, 3) := by decide +kernel
theorem dX4_tellGame_41 : decode cX4_tellGame 41 = .ok (.iconst 1, 1) := by decide +kernel
theorem dX4_tellGame_42 : decode cX4_tellGame 42 = .ok (.ireturn, 1) := by decide +kernel
theorem dX4_tellMix_0 : decode cX4_tellMix 0 = .ok (.aload_n 1, 1) := by decide +kernel
theorem dX4_tellMix_1 : decode cX4_tellMix 1 = .ok (.invokestatic 61, 3) := by decide +kernel
theorem dX4_tellMix_4 : decode cX4_tellMix 4 = .ok (.istore_n 3, 1) := by decide +kernel
theorem dX4_tellMix_5 : decode cX4_tellMix 5 = .ok (.iload_n 3, 1) := by decide +kernel
theorem dX4_tellMix_6 : decode cX4_tellMix 6 = .ok (.iconst (-1), 1) := by decide +kernel
theorem dX4_tellMix_7 : decode cX4_tellMix 7 = .ok (.if_icmp .eq 21, 3) := by decide +kernel
theorem dX4_tellMix_10 : decode cX4_tellMix 10 = .ok (.aload_n 0, 1) := by decide +kernel
theorem dX4_tellMix_11 : decode cX4_tellMix 11 = .ok (.iload_n 2, 1) := by decide +kernel
theorem dX4_tellMix_12 : decode cX4_tellMix 12 = .ok (.iload_n 3, 1) := by decide +kernel
theorem dX4_tellMix_13 : decode cX4_tellMix 13 = .ok (.if_icmp .ne 7, 3) := by decide +kernel
theorem dX4_tellMix_16 : decode cX4_tellMix 16 = .ok (.lconst 1, 1) := by decide +kernel
theorem dX4_tellMix_17 : decode cX4_tellMix 17 = .ok (.goto 4, 3) := by decide +kernel
theorem dX4_tellMix_20 : decode cX4_tellMix 20 = .ok (.lconst 0, 1) := by decide +kernel
theorem dX4_tellMix_21 : decode cX4_tellMix 21 = .ok (.lconst 1, 1) := by decide +kernel
theorem dX4_tellMix_22 : decode cX4_tellMix 22 = .ok (.invokevirtual 57, 3) := by decide +kernel
theorem dX4_tellMix_25 : decode cX4_tellMix 25 = .ok (.goto 16, 3) := by decide +kernel
theorem dX4_tellMix_28 : decode cX4_tellMix 28 = .ok (.aload_n 0, 1) := by decide +kernel
theorem dX4_tellMix_29 : decode cX4_tellMix 29 = .ok (.aload_n 1, 1) := by decide +kernel
theorem dX4_tellMix_30 : decode cX4_tellMix 30 = .ok (.iload_n 2, 1) := by decide +kernel
theorem dX4_tellMix_31 : decode cX4_tellMix 31 = .ok (.invokestatic 71, 3) := by decide +kernel
theorem dX4_tellMix_34 : decode cX4_tellMix 34 = .ok (.aload_n 1, 1) := by decide +kernel
theorem dX4_tellMix_35 : decode cX4_tellMix 35 = .ok (.invokestatic 65, 3) := by decide +kernel
theorem dX4_tellMix_38 : decode cX4_tellMix 38 = .ok (.invokevirtual 57, 3) := by decide +kernel
theorem dX4_tellMix_41 : decode cX4_tellMix 41 = .ok (.return_, 1) := by decide +kernel
theorem dX4_firstSafe_0 : decode cX4_firstSafe 0 = .ok (.iconst 0, 1) := by decide +kernel
theorem dX4_firstSafe_1 : decode cX4_firstSafe 1 = .ok (.istore_n 1, 1) := by decide +kernel
theorem dX4_firstSafe_2 : decode cX4_firstSafe 2 = .ok (.iload_n 1, 1) := by decide +kernel
theorem dX4_firstSafe_3 : decode cX4_firstSafe 3 = .ok (.aload_n 0, 1) := by decide +kernel
theorem dX4_firstSafe_4 : decode cX4_firstSafe 4 = .ok (.getfield 30, 3) := by decide +kernel
theorem dX4_firstSafe_7 : decode cX4_firstSafe 7 = .ok (.if_icmp .ge 37, 3) := by decide +kernel
theorem dX4_firstSafe_10 : decode cX4_firstSafe 10 = .ok (.aload_n 0, 1) := by decide +kernel
theorem dX4_firstSafe_11 : decode cX4_firstSafe 11 = .ok (.getfield 36, 3) := by decide +kernel
theorem dX4_firstSafe_14 : decode cX4_firstSafe 14 = .ok (.getfield 40, 3) := by decide +kernel
theorem dX4_firstSafe_17 : decode cX4_firstSafe 17 = .ok (.iload_n 1, 1) := by decide +kernel
theorem dX4_firstSafe_18 : decode cX4_firstSafe 18 = .ok (.invokestatic 45, 3) := by decide +kernel
theorem dX4_firstSafe_21 : decode cX4_firstSafe 21 = .ok (.ifCond .ne 17, 3) := by decide +kernel
theorem dX4_firstSafe_24 : decode cX4_firstSafe 24 = .ok (.aload_n 0, 1) := by decide +kernel
theorem dX4_firstSafe_25 : decode cX4_firstSafe 25 = .ok (.getfield 36, 3) := by decide +kernel
theorem dX4_firstSafe_28 : decode cX4_firstSafe 28 = .ok (.getfield 52, 3) := by decide +kernel
theorem dX4_firstSafe_31 : decode cX4_firstSafe 31 = .ok (.iload_n 1, 1) := by decide +kernel
theorem dX4_firstSafe_32 : decode cX4_firstSafe 32 = .ok (.iaload, 1) := by decide +kernel
theorem dX4_firstSafe_33 : decode cX4_firstSafe 33 = .ok (.ifCond .ne 5, 3) := by decide +kernel
theorem dX4_firstSafe_36 : decode cX4_firstSafe 36 = .ok (.iload_n 1, 1) := by decide +kernel
theorem dX4_firstSafe_37 : decode cX4_firstSafe 37 = .ok (.ireturn, 1) := by decide +kernel
theorem dX4_firstSafe_38 : decode cX4_firstSafe 38 = .ok (.iinc 1 1, 3) := by decide +kernel
theorem dX4_firstSafe_41 : decode cX4_firstSafe 41 = .ok (.goto (-39), 3) := by decide +kernel
theorem dX4_firstSafe_44 : decode cX4_firstSafe 44 = .ok (.iconst (-1), 1) := by decide +kernel
theorem dX4_firstSafe_45 : decode cX4_firstSafe 45 = .ok (.ireturn, 1) := by decide +kernel
theorem dX4_part_0 : decode cX4_part 0 = .ok (.aload_n 0, 1) := by decide +kernel
theorem dX4_part_1 : decode cX4_part 1 = .ok (.getfield 36, 3) := by decide +kernel
theorem dX4_part_4 : decode cX4_part 4 = .ok (.getfield 52, 3) := by decide +kernel
theorem dX4_part_7 : decode cX4_part 7 = .ok (.iload_n 1, 1) := by decide +kernel
theorem dX4_part_8 : decode cX4_part 8 = .ok (.iaload, 1) := by decide +kernel
theorem dX4_part_9 : decode cX4_part 9 = .ok (.istore_n 2, 1) := by decide +kernel
theorem dX4_part_10 : decode cX4_part 10 = .ok (.iload_n 2, 1) := by decide +kernel
theorem dX4_part_11 : decode cX4_part 11 = .ok (.ifCond .ne 7, 3) := by decide +kernel
theorem dX4_part_14 : decode cX4_part 14 = .ok (.lconst 0, 1) := by decide +kernel
theorem dX4_part_15 : decode cX4_part 15 = .ok (.goto 9, 3) := by decide +kernel
theorem dX4_part_18 : decode cX4_part 18 = .ok (.ldc2_w 69, 3) := by decide +kernel
theorem dX4_part_21 : decode cX4_part 21 = .ok (.iload_n 2, 1) := by decide +kernel
theorem dX4_part_22 : decode cX4_part 22 = .ok (.i2l, 1) := by decide +kernel
theorem dX4_part_23 : decode cX4_part 23 = .ok (.ldiv, 1) := by decide +kernel
theorem dX4_part_24 : decode cX4_part 24 = .ok (.lreturn, 1) := by decide +kernel
theorem dX4_sumOfParts_0 : decode cX4_sumOfParts 0 = .ok (.lconst 0, 1) := by decide +kernel
theorem dX4_sumOfParts_1 : decode cX4_sumOfParts 1 = .ok (.lstore_n 1, 1) := by decide +kernel
theorem dX4_sumOfParts_2 : decode cX4_sumOfParts 2 = .ok (.iconst 0, 1) := by decide +kernel
theorem dX4_sumOfParts_3 : decode cX4_sumOfParts 3 = .ok (.istore_n 3, 1) := by decide +kernel
theorem dX4_sumOfParts_4 : decode cX4_sumOfParts 4 = .ok (.iload_n 3, 1) := by decide +kernel
theorem dX4_sumOfParts_5 : decode cX4_sumOfParts 5 = .ok (.aload_n 0, 1) := by decide +kernel
theorem dX4_sumOfParts_6 : decode cX4_sumOfParts 6 = .ok (.getfield 30, 3) := by decide +kernel
theorem dX4_sumOfParts_9 : decode cX4_sumOfParts 9 = .ok (.if_icmp .ge 31, 3) := by decide +kernel
theorem dX4_sumOfParts_12 : decode cX4_sumOfParts 12 = .ok (.aload_n 0, 1) := by decide +kernel
theorem dX4_sumOfParts_13 : decode cX4_sumOfParts 13 = .ok (.getfield 36, 3) := by decide +kernel
theorem dX4_sumOfParts_16 : decode cX4_sumOfParts 16 = .ok (.getfield 40, 3) := by decide +kernel
theorem dX4_sumOfParts_19 : decode cX4_sumOfParts 19 = .ok (.iload_n 3, 1) := by decide +kernel
theorem dX4_sumOfParts_20 : decode cX4_sumOfParts 20 = .ok (.invokestatic 45, 3) := by decide +kernel
theorem dX4_sumOfParts_23 : decode cX4_sumOfParts 23 = .ok (.ifCond .ne 11, 3) := by decide +kernel
theorem dX4_sumOfParts_26 : decode cX4_sumOfParts 26 = .ok (.lload_n 1, 1) := by decide +kernel
theorem dX4_sumOfParts_27 : decode cX4_sumOfParts 27 = .ok (.aload_n 0, 1) := by decide +kernel
theorem dX4_sumOfParts_28 : decode cX4_sumOfParts 28 = .ok (.iload_n 3, 1) := by decide +kernel
theorem dX4_sumOfParts_29 : decode cX4_sumOfParts 29 = .ok (.invokestatic 71, 3) := by decide +kernel
theorem dX4_sumOfParts_32 : decode cX4_sumOfParts 32 = .ok (.ladd, 1) := by decide +kernel
theorem dX4_sumOfParts_33 : decode cX4_sumOfParts 33 = .ok (.lstore_n 1, 1) := by decide +kernel
theorem dX4_sumOfParts_34 : decode cX4_sumOfParts 34 = .ok (.iinc 3 1, 3) := by decide +kernel
theorem dX4_sumOfParts_37 : decode cX4_sumOfParts 37 = .ok (.goto (-33), 3) := by decide +kernel
theorem dX4_sumOfParts_40 : decode cX4_sumOfParts 40 = .ok (.lload_n 1, 1) := by decide +kernel
theorem dX4_sumOfParts_41 : decode cX4_sumOfParts 41 = .ok (.lreturn, 1) := by decide +kernel
theorem dX4_fewestPages_0 : decode cX4_fewestPages 0 = .ok (.aload_n 0, 1) := by decide +kernel
theorem dX4_fewestPages_1 : decode cX4_fewestPages 1 = .ok (.aload_n 1, 1) := by decide +kernel
theorem dX4_fewestPages_2 : decode cX4_fewestPages 2 = .ok (.invokevirtual 75, 3) := by decide +kernel
theorem dX4_fewestPages_5 : decode cX4_fewestPages 5 = .ok (.aload_n 1, 1) := by decide +kernel
theorem dX4_fewestPages_6 : decode cX4_fewestPages 6 = .ok (.invokevirtual 79, 3) := by decide +kernel
theorem dX4_fewestPages_9 : decode cX4_fewestPages 9 = .ok (.istore_n 2, 1) := by decide +kernel
theorem dX4_fewestPages_10 : decode cX4_fewestPages 10 = .ok (.iconst (-1), 1) := by decide +kernel
theorem dX4_fewestPages_11 : decode cX4_fewestPages 11 = .ok (.istore_n 3, 1) := by decide +kernel
theorem dX4_fewestPages_12 : decode cX4_fewestPages 12 = .ok (.bipush 7, 2) := by decide +kernel
theorem dX4_fewestPages_14 : decode cX4_fewestPages 14 = .ok (.istore 4, 2) := by decide +kernel
theorem dX4_fewestPages_16 : decode cX4_fewestPages 16 = .ok (.aload_n 0, 1) := by decide +kernel
theorem dX4_fewestPages_17 : decode cX4_fewestPages 17 = .ok (.getfield 18, 3) := by decide +kernel
theorem dX4_fewestPages_20 : decode cX4_fewestPages 20 = .ok (.iconst 0, 1) := by decide +kernel
theorem dX4_fewestPages_21 : decode cX4_fewestPages 21 = .ok (.lconst 1, 1) := by decide +kernel
theorem dX4_fewestPages_22 : decode cX4_fewestPages 22 = .ok (.lastore, 1) := by decide +kernel
theorem dX4_fewestPages_23 : decode cX4_fewestPages 23 = .ok (.iconst 0, 1) := by decide +kernel
theorem dX4_fewestPages_24 : decode cX4_fewestPages 24 = .ok (.istore 5, 2) := by decide +kernel
theorem dX4_fewestPages_26 : decode cX4_fewestPages 26 = .ok (.iload 5, 2) := by decide +kernel
theorem dX4_fewestPages_28 : decode cX4_fewestPages 28 = .ok (.iconst 1, 1) := by decide +kernel
theorem dX4_fewestPages_29 : decode cX4_fewestPages 29 = .ok (.aload_n 1, 1) := by decide +kernel
theorem dX4_fewestPages_30 : decode cX4_fewestPages 30 = .ok (.getfield 30, 3) := by decide +kernel
theorem dX4_fewestPages_33 : decode cX4_fewestPages 33 = .ok (.ishl, 1) := by decide +kernel
theorem dX4_fewestPages_34 : decode cX4_fewestPages 34 = .ok (.if_icmp .ge 57, 3) := by decide +kernel
theorem dX4_fewestPages_37 : decode cX4_fewestPages 37 = .ok (.iload 5, 2) := by decide +kernel
theorem dX4_fewestPages_39 : decode cX4_fewestPages 39 = .ok (.ifCond .le 10, 3) := by decide +kernel
theorem dX4_fewestPages_42 : decode cX4_fewestPages 42 = .ok (.aload_n 0, 1) := by decide +kernel
theorem dX4_fewestPages_43 : decode cX4_fewestPages 43 = .ok (.aload_n 1, 1) := by decide +kernel
theorem dX4_fewestPages_44 : decode cX4_fewestPages 44 = .ok (.iload 5, 2) := by decide +kernel
theorem dX4_fewestPages_46 : decode cX4_fewestPages 46 = .ok (.invokevirtual 83, 3) := by decide +kernel
theorem dX4_fewestPages_49 : decode cX4_fewestPages 49 = .ok (.aload_n 0, 1) := by decide +kernel
theorem dX4_fewestPages_50 : decode cX4_fewestPages 50 = .ok (.getfield 18, 3) := by decide +kernel
theorem dX4_fewestPages_53 : decode cX4_fewestPages 53 = .ok (.iload 5, 2) := by decide +kernel
theorem dX4_fewestPages_55 : decode cX4_fewestPages 55 = .ok (.laload, 1) := by decide +kernel
theorem dX4_fewestPages_56 : decode cX4_fewestPages 56 = .ok (.iload_n 2, 1) := by decide +kernel
theorem dX4_fewestPages_57 : decode cX4_fewestPages 57 = .ok (.lushr, 1) := by decide +kernel
theorem dX4_fewestPages_58 : decode cX4_fewestPages 58 = .ok (.lconst 1, 1) := by decide +kernel
theorem dX4_fewestPages_59 : decode cX4_fewestPages 59 = .ok (.land, 1) := by decide +kernel
theorem dX4_fewestPages_60 : decode cX4_fewestPages 60 = .ok (.lconst 0, 1) := by decide +kernel
theorem dX4_fewestPages_61 : decode cX4_fewestPages 61 = .ok (.lcmp, 1) := by decide +kernel
theorem dX4_fewestPages_62 : decode cX4_fewestPages 62 = .ok (.ifCond .eq 23, 3) := by decide +kernel
theorem dX4_fewestPages_65 : decode cX4_fewestPages 65 = .ok (.iload 5, 2) := by decide +kernel
theorem dX4_fewestPages_67 : decode cX4_fewestPages 67 = .ok (.invokestatic 87, 3) := by decide +kernel
theorem dX4_fewestPages_70 : decode cX4_fewestPages 70 = .ok (.iload 4, 2) := by decide +kernel
theorem dX4_fewestPages_72 : decode cX4_fewestPages 72 = .ok (.if_icmp .ge 13, 3) := by decide +kernel
theorem dX4_fewestPages_75 : decode cX4_fewestPages 75 = .ok (.iload 5, 2) := by decide +kernel
theorem dX4_fewestPages_77 : decode cX4_fewestPages 77 = .ok (.invokestatic 87, 3) := by decide +kernel
theorem dX4_fewestPages_80 : decode cX4_fewestPages 80 = .ok (.istore 4, 2) := by decide +kernel
theorem dX4_fewestPages_82 : decode cX4_fewestPages 82 = .ok (.iload 5, 2) := by decide +kernel
theorem dX4_fewestPages_84 : decode cX4_fewestPages 84 = .ok (.istore_n 3, 1) := by decide +kernel
theorem dX4_fewestPages_85 : decode cX4_fewestPages 85 = .ok (.iinc 5 1, 3) := by decide +kernel
theorem dX4_fewestPages_88 : decode cX4_fewestPages 88 = .ok (.goto (-62), 3) := by decide +kernel
theorem dX4_fewestPages_91 : decode cX4_fewestPages 91 = .ok (.iload_n 3, 1) := by decide +kernel
theorem dX4_fewestPages_92 : decode cX4_fewestPages 92 = .ok (.ireturn, 1) := by decide +kernel
theorem dX4_sumLetters_0 : decode cX4_sumLetters 0 = .ok (.iconst 0, 1) := by decide +kernel
theorem dX4_sumLetters_1 : decode cX4_sumLetters 1 = .ok (.istore_n 2, 1) := by decide +kernel
theorem dX4_sumLetters_2 : decode cX4_sumLetters 2 = .ok (.iload_n 2, 1) := by decide +kernel
theorem dX4_sumLetters_3 : decode cX4_sumLetters 3 = .ok (.bipush 64, 2) := by decide +kernel
theorem dX4_sumLetters_5 : decode cX4_sumLetters 5 = .ok (.if_icmp .ge 59, 3) := by decide +kernel
theorem dX4_sumLetters_8 : decode cX4_sumLetters 8 = .ok (.iconst 0, 1) := by decide +kernel
theorem dX4_sumLetters_9 : decode cX4_sumLetters 9 = .ok (.istore_n 3, 1) := by decide +kernel
theorem dX4_sumLetters_10 : decode cX4_sumLetters 10 = .ok (.iconst 0, 1) := by decide +kernel
theorem dX4_sumLetters_11 : decode cX4_sumLetters 11 = .ok (.istore 4, 2) := by decide +kernel
theorem dX4_sumLetters_13 : decode cX4_sumLetters 13 = .ok (.iload 4, 2) := by decide +kernel
theorem dX4_sumLetters_15 : decode cX4_sumLetters 15 = .ok (.aload_n 1, 1) := by decide +kernel
theorem dX4_sumLetters_16 : decode cX4_sumLetters 16 = .ok (.getfield 93, 3) := by decide +kernel
theorem dX4_sumLetters_19 : decode cX4_sumLetters 19 = .ok (.if_icmp .ge 32, 3) := by decide +kernel
theorem dX4_sumLetters_22 : decode cX4_sumLetters 22 = .ok (.iload_n 3, 1) := by decide +kernel
theorem dX4_sumLetters_23 : decode cX4_sumLetters 23 = .ok (.iload_n 2, 1) := by decide +kernel
theorem dX4_sumLetters_24 : decode cX4_sumLetters 24 = .ok (.iload 4, 2) := by decide +kernel
theorem dX4_sumLetters_26 : decode cX4_sumLetters 26 = .ok (.invokestatic 45, 3) := by decide +kernel
theorem dX4_sumLetters_29 : decode cX4_sumLetters 29 = .ok (.ifCond .eq 13, 3) := by decide +kernel
theorem dX4_sumLetters_32 : decode cX4_sumLetters 32 = .ok (.aload_n 1, 1) := by decide +kernel
theorem dX4_sumLetters_33 : decode cX4_sumLetters 33 = .ok (.getfield 96, 3) := by decide +kernel
theorem dX4_sumLetters_36 : decode cX4_sumLetters 36 = .ok (.iload 4, 2) := by decide +kernel
theorem dX4_sumLetters_38 : decode cX4_sumLetters 38 = .ok (.iaload, 1) := by decide +kernel
theorem dX4_sumLetters_39 : decode cX4_sumLetters 39 = .ok (.goto 4, 3) := by decide +kernel
theorem dX4_sumLetters_42 : decode cX4_sumLetters 42 = .ok (.iconst 0, 1) := by decide +kernel
theorem dX4_sumLetters_43 : decode cX4_sumLetters 43 = .ok (.iadd, 1) := by decide +kernel
theorem dX4_sumLetters_44 : decode cX4_sumLetters 44 = .ok (.istore_n 3, 1) := by decide +kernel
theorem dX4_sumLetters_45 : decode cX4_sumLetters 45 = .ok (.iinc 4 1, 3) := by decide +kernel
theorem dX4_sumLetters_48 : decode cX4_sumLetters 48 = .ok (.goto (-35), 3) := by decide +kernel
theorem dX4_sumLetters_51 : decode cX4_sumLetters 51 = .ok (.aload_n 0, 1) := by decide +kernel
theorem dX4_sumLetters_52 : decode cX4_sumLetters 52 = .ok (.getfield 22, 3) := by decide +kernel
theorem dX4_sumLetters_55 : decode cX4_sumLetters 55 = .ok (.iload_n 2, 1) := by decide +kernel
theorem dX4_sumLetters_56 : decode cX4_sumLetters 56 = .ok (.iload_n 3, 1) := by decide +kernel
theorem dX4_sumLetters_57 : decode cX4_sumLetters 57 = .ok (.iastore, 1) := by decide +kernel
theorem dX4_sumLetters_58 : decode cX4_sumLetters 58 = .ok (.iinc 2 1, 3) := by decide +kernel
theorem dX4_sumLetters_61 : decode cX4_sumLetters 61 = .ok (.goto (-59), 3) := by decide +kernel
theorem dX4_sumLetters_64 : decode cX4_sumLetters 64 = .ok (.return_, 1) := by decide +kernel
theorem dX4_fillHolds_0 : decode cX4_fillHolds 0 = .ok (.iconst 0, 1) := by decide +kernel
theorem dX4_fillHolds_1 : decode cX4_fillHolds 1 = .ok (.istore_n 3, 1) := by decide +kernel
theorem dX4_fillHolds_2 : decode cX4_fillHolds 2 = .ok (.iload_n 3, 1) := by decide +kernel
theorem dX4_fillHolds_3 : decode cX4_fillHolds 3 = .ok (.iconst 5, 1) := by decide +kernel
theorem dX4_fillHolds_4 : decode cX4_fillHolds 4 = .ok (.if_icmp .ge 17, 3) := by decide +kernel
theorem dX4_fillHolds_7 : decode cX4_fillHolds 7 = .ok (.iload_n 2, 1) := by decide +kernel
theorem dX4_fillHolds_8 : decode cX4_fillHolds 8 = .ok (.iload_n 3, 1) := by decide +kernel
theorem dX4_fillHolds_9 : decode cX4_fillHolds 9 = .ok (.invokestatic 45, 3) := by decide +kernel
theorem dX4_fillHolds_12 : decode cX4_fillHolds 12 = .ok (.ifCond .ne 9, 3) := by decide +kernel
theorem dX4_fillHolds_15 : decode cX4_fillHolds 15 = .ok (.iinc 3 1, 3) := by decide +kernel
theorem dX4_fillHolds_18 : decode cX4_fillHolds 18 = .ok (.goto (-16), 3) := by decide +kernel
theorem dX4_fillHolds_21 : decode cX4_fillHolds 21 = .ok (.aload_n 1, 1) := by decide +kernel
theorem dX4_fillHolds_22 : decode cX4_fillHolds 22 = .ok (.getfield 99, 3) := by decide +kernel
theorem dX4_fillHolds_25 : decode cX4_fillHolds 25 = .ok (.iload_n 3, 1) := by decide +kernel
theorem dX4_fillHolds_26 : decode cX4_fillHolds 26 = .ok (.iaload, 1) := by decide +kernel
theorem dX4_fillHolds_27 : decode cX4_fillHolds 27 = .ok (.istore 4, 2) := by decide +kernel
theorem dX4_fillHolds_29 : decode cX4_fillHolds 29 = .ok (.aload_n 1, 1) := by decide +kernel
theorem dX4_fillHolds_30 : decode cX4_fillHolds 30 = .ok (.invokevirtual 79, 3) := by decide +kernel
theorem dX4_fillHolds_33 : decode cX4_fillHolds 33 = .ok (.istore 5, 2) := by decide +kernel
theorem dX4_fillHolds_35 : decode cX4_fillHolds 35 = .ok (.aload_n 0, 1) := by decide +kernel
theorem dX4_fillHolds_36 : decode cX4_fillHolds 36 = .ok (.getfield 18, 3) := by decide +kernel
theorem dX4_fillHolds_39 : decode cX4_fillHolds 39 = .ok (.iload_n 2, 1) := by decide +kernel
theorem dX4_fillHolds_40 : decode cX4_fillHolds 40 = .ok (.iconst 1, 1) := by decide +kernel
theorem dX4_fillHolds_41 : decode cX4_fillHolds 41 = .ok (.iload_n 3, 1) := by decide +kernel
theorem dX4_fillHolds_42 : decode cX4_fillHolds 42 = .ok (.ishl, 1) := by decide +kernel
theorem dX4_fillHolds_43 : decode cX4_fillHolds 43 = .ok (.iconst (-1), 1) := by decide +kernel
theorem dX4_fillHolds_44 : decode cX4_fillHolds 44 = .ok (.ixor, 1) := by decide +kernel
theorem dX4_fillHolds_45 : decode cX4_fillHolds 45 = .ok (.iand, 1) := by decide +kernel
theorem dX4_fillHolds_46 : decode cX4_fillHolds 46 = .ok (.laload, 1) := by decide +kernel
theorem dX4_fillHolds_47 : decode cX4_fillHolds 47 = .ok (.lstore 6, 2) := by decide +kernel
theorem dX4_fillHolds_49 : decode cX4_fillHolds 49 = .ok (.lconst 0, 1) := by decide +kernel
theorem dX4_fillHolds_50 : decode cX4_fillHolds 50 = .ok (.lstore 8, 2) := by decide +kernel
theorem dX4_fillHolds_52 : decode cX4_fillHolds 52 = .ok (.iconst 0, 1) := by decide +kernel
theorem dX4_fillHolds_53 : decode cX4_fillHolds 53 = .ok (.istore 10, 2) := by decide +kernel
theorem dX4_fillHolds_55 : decode cX4_fillHolds 55 = .ok (.iload 10, 2) := by decide +kernel
theorem dX4_fillHolds_57 : decode cX4_fillHolds 57 = .ok (.iload 5, 2) := by decide +kernel
theorem dX4_fillHolds_59 : decode cX4_fillHolds 59 = .ok (.if_icmp .gt 35, 3) := by decide +kernel
theorem dX4_fillHolds_62 : decode cX4_fillHolds 62 = .ok (.aload_n 0, 1) := by decide +kernel
theorem dX4_fillHolds_63 : decode cX4_fillHolds 63 = .ok (.getfield 22, 3) := by decide +kernel
theorem dX4_fillHolds_66 : decode cX4_fillHolds 66 = .ok (.iload 10, 2) := by decide +kernel
theorem dX4_fillHolds_68 : decode cX4_fillHolds 68 = .ok (.iaload, 1) := by decide +kernel
theorem dX4_fillHolds_69 : decode cX4_fillHolds 69 = .ok (.iload 4, 2) := by decide +kernel
theorem dX4_fillHolds_71 : decode cX4_fillHolds 71 = .ok (.if_icmp .gt 17, 3) := by decide +kernel
theorem dX4_fillHolds_74 : decode cX4_fillHolds 74 = .ok (.lload 8, 2) := by decide +kernel
theorem dX4_fillHolds_76 : decode cX4_fillHolds 76 = .ok (.lload 6, 2) := by decide +kernel
theorem dX4_fillHolds_78 : decode cX4_fillHolds 78 = .ok (.iload 10, 2) := by decide +kernel
theorem dX4_fillHolds_80 : decode cX4_fillHolds 80 = .ok (.iload 5, 2) := by decide +kernel
theorem dX4_fillHolds_82 : decode cX4_fillHolds 82 = .ok (.invokestatic 102, 3) := by decide +kernel
theorem dX4_fillHolds_85 : decode cX4_fillHolds 85 = .ok (.lor, 1) := by decide +kernel
theorem dX4_fillHolds_86 : decode cX4_fillHolds 86 = .ok (.lstore 8, 2) := by decide +kernel
theorem dX4_fillHolds_88 : decode cX4_fillHolds 88 = .ok (.iinc 10 1, 3) := by decide +kernel
theorem dX4_fillHolds_91 : decode cX4_fillHolds 91 = .ok (.goto (-36), 3) := by decide +kernel
theorem dX4_fillHolds_94 : decode cX4_fillHolds 94 = .ok (.aload_n 0, 1) := by decide +kernel
theorem dX4_fillHolds_95 : decode cX4_fillHolds 95 = .ok (.getfield 18, 3) := by decide +kernel
theorem dX4_fillHolds_98 : decode cX4_fillHolds 98 = .ok (.iload_n 2, 1) := by decide +kernel
theorem dX4_fillHolds_99 : decode cX4_fillHolds 99 = .ok (.lload 8, 2) := by decide +kernel
theorem dX4_fillHolds_101 : decode cX4_fillHolds 101 = .ok (.lastore, 1) := by decide +kernel
theorem dX4_fillHolds_102 : decode cX4_fillHolds 102 = .ok (.return_, 1) := by decide +kernel
theorem dX4_joined_0 : decode cX4_joined 0 = .ok (.lconst 0, 1) := by decide +kernel
theorem dX4_joined_1 : decode cX4_joined 1 = .ok (.lstore 4, 2) := by decide +kernel
theorem dX4_joined_3 : decode cX4_joined 3 = .ok (.iconst 0, 1) := by decide +kernel
theorem dX4_joined_4 : decode cX4_joined 4 = .ok (.istore 6, 2) := by decide +kernel
theorem dX4_joined_6 : decode cX4_joined 6 = .ok (.iload 6, 2) := by decide +kernel
theorem dX4_joined_8 : decode cX4_joined 8 = .ok (.iload_n 3, 1) := by decide +kernel
theorem dX4_joined_9 : decode cX4_joined 9 = .ok (.if_icmp .gt 38, 3) := by decide +kernel
theorem dX4_joined_12 : decode cX4_joined 12 = .ok (.iload 6, 2) := by decide +kernel
theorem dX4_joined_14 : decode cX4_joined 14 = .ok (.iload_n 2, 1) := by decide +kernel
theorem dX4_joined_15 : decode cX4_joined 15 = .ok (.iand, 1) := by decide +kernel
theorem dX4_joined_16 : decode cX4_joined 16 = .ok (.ifCond .ne 25, 3) := by decide +kernel
theorem dX4_joined_19 : decode cX4_joined 19 = .ok (.lload_n 0, 1) := by decide +kernel
theorem dX4_joined_20 : decode cX4_joined 20 = .ok (.iload 6, 2) := by decide +kernel
theorem dX4_joined_22 : decode cX4_joined 22 = .ok (.lushr, 1) := by decide +kernel
theorem dX4_joined_23 : decode cX4_joined 23 = .ok (.lconst 1, 1) := by decide +kernel
theorem dX4_joined_24 : decode cX4_joined 24 = .ok (.land, 1) := by decide +kernel
theorem dX4_joined_25 : decode cX4_joined 25 = .ok (.lconst 0, 1) := by decide +kernel
theorem dX4_joined_26 : decode cX4_joined 26 = .ok (.lcmp, 1) := by decide +kernel
theorem dX4_joined_27 : decode cX4_joined 27 = .ok (.ifCond .eq 14, 3) := by decide +kernel
theorem dX4_joined_30 : decode cX4_joined 30 = .ok (.lload 4, 2) := by decide +kernel
theorem dX4_joined_32 : decode cX4_joined 32 = .ok (.lconst 1, 1) := by decide +kernel
theorem dX4_joined_33 : decode cX4_joined 33 = .ok (.iload 6, 2) := by decide +kernel
theorem dX4_joined_35 : decode cX4_joined 35 = .ok (.iload_n 2, 1) := by decide +kernel
theorem dX4_joined_36 : decode cX4_joined 36 = .ok (.ior, 1) := by decide +kernel
theorem dX4_joined_37 : decode cX4_joined 37 = .ok (.lshl, 1) := by decide +kernel
theorem dX4_joined_38 : decode cX4_joined 38 = .ok (.lor, 1) := by decide +kernel
theorem dX4_joined_39 : decode cX4_joined 39 = .ok (.lstore 4, 2) := by decide +kernel
theorem dX4_joined_41 : decode cX4_joined 41 = .ok (.iinc 6 1, 3) := by decide +kernel
theorem dX4_joined_44 : decode cX4_joined 44 = .ok (.goto (-38), 3) := by decide +kernel
theorem dX4_joined_47 : decode cX4_joined 47 = .ok (.lload 4, 2) := by decide +kernel
theorem dX4_joined_49 : decode cX4_joined 49 = .ok (.lreturn, 1) := by decide +kernel
theorem dX5_init_0 : decode cX5_init 0 = .ok (.aload_n 0, 1) := by decide +kernel
theorem dX5_init_1 : decode cX5_init 1 = .ok (.invokespecial 3, 3) := by decide +kernel
theorem dX5_init_4 : decode cX5_init 4 = .ok (.aload_n 0, 1) := by decide +kernel
theorem dX5_init_5 : decode cX5_init 5 = .ok (.iconst 0, 1) := by decide +kernel
theorem dX5_init_6 : decode cX5_init 6 = .ok (.putfield 9, 3) := by decide +kernel
theorem dX5_init_9 : decode cX5_init 9 = .ok (.aload_n 0, 1) := by decide +kernel
theorem dX5_init_10 : decode cX5_init 10 = .ok (.iconst 0, 1) := by decide +kernel
theorem dX5_init_11 : decode cX5_init 11 = .ok (.putfield 15, 3) := by decide +kernel
theorem dX5_init_14 : decode cX5_init 14 = .ok (.aload_n 0, 1) := by decide +kernel
theorem dX5_init_15 : decode cX5_init 15 = .ok (.iconst 0, 1) := by decide +kernel
theorem dX5_init_16 : decode cX5_init 16 = .ok (.putfield 19, 3) := by decide +kernel
theorem dX5_init_19 : decode cX5_init 19 = .ok (.aload_n 0, 1) := by decide +kernel
theorem dX5_init_20 : decode cX5_init 20 = .ok (.bipush 60, 2) := by decide +kernel
theorem dX5_init_22 : decode cX5_init 22 = .ok (.newarray .int, 2) := by decide +kernel
theorem dX5_init_24 : decode cX5_init 24 = .ok (.putfield 22, 3) := by decide +kernel
theorem dX5_init_27 : decode cX5_init 27 = .ok (.aload_n 0, 1) := by decide +kernel
theorem dX5_init_28 : decode cX5_init 28 = .ok (.bipush 60, 2) := by decide +kernel
theorem dX5_init_30 : decode cX5_init 30 = .ok (.newarray .int, 2) := by decide +kernel
theorem dX5_init_32 : decode cX5_init 32 = .ok (.putfield 26, 3) := by decide +kernel
theorem dX5_init_35 : decode cX5_init 35 = .ok (.aload_n 0, 1) := by decide +kernel
theorem dX5_init_36 : decode cX5_init 36 = .ok (.bipush 60, 2) := by decide +kernel
theorem dX5_init_38 : decode cX5_init 38 = .ok (.newarray .int, 2) := by decide +kernel
theorem dX5_init_40 : decode cX5_init 40 = .ok (.putfield 29, 3) := by decide +kernel
theorem dX5_init_43 : decode cX5_init 43 = .ok (.aload_n 0, 1) := by decide +kernel
theorem dX5_init_44 : decode cX5_init 44 = .ok (.bipush 60, 2) := by decide +kernel
theorem dX5_init_46 : decode cX5_init 46 = .ok (.newarray .int, 2) := by decide +kernel
theorem dX5_init_48 : decode cX5_init 48 = .ok (.putfield 32, 3) := by decide +kernel
theorem dX5_init_51 : decode cX5_init 51 = .ok (.return_, 1) := by decide +kernel
theorem dX5_isTest_0 : decode cX5_isTest 0 = .ok (.iload_n 0, 1) := by decide +kernel
theorem dX5_isTest_1 : decode cX5_isTest 1 = .ok (.bipush 8, 2) := by decide +kernel
theorem dX5_isTest_3 : decode cX5_isTest 3 = .ok (.if_icmp .eq 15, 3) := by decide +kernel
theorem dX5_isTest_6 : decode cX5_isTest 6 = .ok (.iload_n 0, 1) := by decide +kernel
theorem dX5_isTest_7 : decode cX5_isTest 7 = .ok (.bipush 19, 2) := by decide +kernel
theorem dX5_isTest_9 : decode cX5_isTest 9 = .ok (.if_icmp .eq 9, 3) := by decide +kernel
theorem dX5_isTest_12 : decode cX5_isTest 12 = .ok (.iload_n 0, 1) := by decide +kernel
theorem dX5_isTest_13 : decode cX5_isTest 13 = .ok (.bipush 20, 2) := by decide +kernel
theorem dX5_isTest_15 : decode cX5_isTest 15 = .ok (.if_icmp .ne 7, 3) := by decide +kernel
theorem dX5_isTest_18 : decode cX5_isTest 18 = .ok (.iconst 1, 1) := by decide +kernel
theorem dX5_isTest_19 : decode cX5_isTest 19 = .ok (.goto 4, 3) := by decide +kernel
theorem dX5_isTest_22 : decode cX5_isTest 22 = .ok (.iconst 0, 1) := by decide +kernel
theorem dX5_isTest_23 : decode cX5_isTest 23 = .ok (.ireturn, 1) := by decide +kernel
theorem dX5_clear_0 : decode cX5_clear 0 = .ok (.aload_n 0, 1) := by decide +kernel
theorem dX5_clear_1 : decode cX5_clear 1 = .ok (.iconst 0, 1) := by decide +kernel
theorem dX5_clear_2 : decode cX5_clear 2 = .ok (.putfield 9, 3) := by decide +kernel
theorem dX5_clear_5 : decode cX5_clear 5 = .ok (.aload_n 0, 1) := by decide +kernel
theorem dX5_clear_6 : decode cX5_clear 6 = .ok (.iconst 0, 1) := by decide +kernel
theorem dX5_clear_7 : decode cX5_clear 7 = .ok (.putfield 15, 3) := by decide +kernel
theorem dX5_clear_10 : decode cX5_clear 10 = .ok (.aload_n 0, 1) := by decide +kernel
theorem dX5_clear_11 : decode cX5_clear 11 = .ok (.iconst 0, 1) := by decide +kernel
theorem dX5_clear_12 : decode cX5_clear 12 = .ok (.putfield 19, 3) := by decide +kernel
theorem dX5_clear_15 : decode cX5_clear 15 = .ok (.return_, 1) := by decide +kernel
theorem dX5_copyFrom_0 : decode cX5_copyFrom 0 = .ok (.aload_n 0, 1) := by decide +kernel
theorem dX5_copyFrom_1 : decode cX5_copyFrom 1 = .ok (.aload_n 1, 1) := by decide +kernel
theorem dX5_copyFrom_2 : decode cX5_copyFrom 2 = .ok (.getfield 9, 3) := by decide +kernel
theorem dX5_copyFrom_5 : decode cX5_copyFrom 5 = .ok (.putfield 9, 3) := by decide +kernel
theorem dX5_copyFrom_8 : decode cX5_copyFrom 8 = .ok (.aload_n 0, 1) := by decide +kernel
theorem dX5_copyFrom_9 : decode cX5_copyFrom 9 = .ok (.aload_n 1, 1) := by decide +kernel
theorem dX5_copyFrom_10 : decode cX5_copyFrom 10 = .ok (.getfield 15, 3) := by decide +kernel
theorem dX5_copyFrom_13 : decode cX5_copyFrom 13 = .ok (.putfield 15, 3) := by decide +kernel
theorem dX5_copyFrom_16 : decode cX5_copyFrom 16 = .ok (.aload_n 0, 1) := by decide +kernel
theorem dX5_copyFrom_17 : decode cX5_copyFrom 17 = .ok (.aload_n 1, 1) := by decide +kernel
theorem dX5_copyFrom_18 : decode cX5_copyFrom 18 = .ok (.getfield 19, 3) := by decide +kernel
theorem dX5_copyFrom_21 : decode cX5_copyFrom 21 = .ok (.putfield 19, 3) := by decide +kernel
theorem dX5_copyFrom_24 : decode cX5_copyFrom 24 = .ok (.aload_n 1, 1) := by decide +kernel
theorem dX5_copyFrom_25 : decode cX5_copyFrom 25 = .ok (.getfield 22, 3) := by decide +kernel
theorem dX5_copyFrom_28 : decode cX5_copyFrom 28 = .ok (.iconst 0, 1) := by decide +kernel
theorem dX5_copyFrom_29 : decode cX5_copyFrom 29 = .ok (.aload_n 0, 1) := by decide +kernel
theorem dX5_copyFrom_30 : decode cX5_copyFrom 30 = .ok (.getfield 22, 3) := by decide +kernel
theorem dX5_copyFrom_33 : decode cX5_copyFrom 33 = .ok (.iconst 0, 1) := by decide +kernel
theorem dX5_copyFrom_34 : decode cX5_copyFrom 34 = .ok (.aload_n 0, 1) := by decide +kernel
theorem dX5_copyFrom_35 : decode cX5_copyFrom 35 = .ok (.getfield 19, 3) := by decide +kernel
theorem dX5_copyFrom_38 : decode cX5_copyFrom 38 = .ok (.invokestatic 35, 3) := by decide +kernel
theorem dX5_copyFrom_41 : decode cX5_copyFrom 41 = .ok (.aload_n 1, 1) := by decide +kernel
theorem dX5_copyFrom_42 : decode cX5_copyFrom 42 = .ok (.getfield 26, 3) := by decide +kernel
theorem dX5_copyFrom_45 : decode cX5_copyFrom 45 = .ok (.iconst 0, 1) := by decide +kernel
theorem dX5_copyFrom_46 : decode cX5_copyFrom 46 = .ok (.aload_n 0, 1) := by decide +kernel
theorem dX5_copyFrom_47 : decode cX5_copyFrom 47 = .ok (.getfield 26, 3) := by decide +kernel
theorem dX5_copyFrom_50 : decode cX5_copyFrom 50 = .ok (.iconst 0, 1) := by decide +kernel
theorem dX5_copyFrom_51 : decode cX5_copyFrom 51 = .ok (.aload_n 0, 1) := by decide +kernel
theorem dX5_copyFrom_52 : decode cX5_copyFrom 52 = .ok (.getfield 19, 3) := by decide +kernel
theorem dX5_copyFrom_55 : decode cX5_copyFrom 55 = .ok (.invokestatic 35, 3) := by decide +kernel
theorem dX5_copyFrom_58 : decode cX5_copyFrom 58 = .ok (.aload_n 1, 1) := by decide +kernel
theorem dX5_copyFrom_59 : decode cX5_copyFrom 59 = .ok (.getfield 29, 3) := by decide +kernel
theorem dX5_copyFrom_62 : decode cX5_copyFrom 62 = .ok (.iconst 0, 1) := by decide +kernel
theorem dX5_copyFrom_63 : decode cX5_copyFrom 63 = .ok (.aload_n 0, 1) := by decide +kernel
theorem dX5_copyFrom_64 : decode cX5_copyFrom 64 = .ok (.getfield 29, 3) := by decide +kernel
theorem dX5_copyFrom_67 : decode cX5_copyFrom 67 = .ok (.iconst 0, 1) := by decide +kernel
theorem dX5_copyFrom_68 : decode cX5_copyFrom 68 = .ok (.aload_n 0, 1) := by decide +kernel
theorem dX5_copyFrom_69 : decode cX5_copyFrom 69 = .ok (.getfield 19, 3) := by decide +kernel
theorem dX5_copyFrom_72 : decode cX5_copyFrom 72 = .ok (.invokestatic 35, 3) := by decide +kernel
theorem dX5_copyFrom_75 : decode cX5_copyFrom 75 = .ok (.aload_n 1, 1) := by decide +kernel
theorem dX5_copyFrom_76 : decode cX5_copyFrom 76 = .ok (.getfield 32, 3) := by decide +kernel
theorem dX5_copyFrom_79 : decode cX5_copyFrom 79 = .ok (.iconst 0, 1) := by decide +kernel
theorem dX5_copyFrom_80 : decode cX5_copyFrom 80 = .ok (.aload_n 0, 1) := by decide +kernel
theorem dX5_copyFrom_81 : decode cX5_copyFrom 81 = .ok (.getfield 32, 3) := by decide +kernel
theorem dX5_copyFrom_84 : decode cX5_copyFrom 84 = .ok (.iconst 0, 1) := by decide +kernel
theorem dX5_copyFrom_85 : decode cX5_copyFrom 85 = .ok (.aload_n 0, 1) := by decide +kernel
theorem dX5_copyFrom_86 : decode cX5_copyFrom 86 = .ok (.getfield 19, 3) := by decide +kernel
theorem dX5_copyFrom_89 : decode cX5_copyFrom 89 = .ok (.invokestatic 35, 3) := by decide +kernel
theorem dX5_copyFrom_92 : decode cX5_copyFrom 92 = .ok (.return_, 1) := by decide +kernel
theorem dX5_add_0 : decode cX5_add 0 = .ok (.aload_n 0, 1) := by decide +kernel
theorem dX5_add_1 : decode cX5_add 1 = .ok (.getfield 19, 3) := by decide +kernel
theorem dX5_add_4 : decode cX5_add 4 = .ok (.bipush 60, 2) := by decide +kernel
theorem dX5_add_6 : decode cX5_add 6 = .ok (.if_icmp .lt 5, 3) := by decide +kernel
theorem dX5_add_9 : decode cX5_add 9 = .ok (.iconst (-1), 1) := by decide +kernel
theorem dX5_add_10 : decode cX5_add 10 = .ok (.ireturn, 1) := by decide +kernel
theorem dX5_add_11 : decode cX5_add 11 = .ok (.aload_n 0, 1) := by decide +kernel
theorem dX5_add_12 : decode cX5_add 12 = .ok (.getfield 22, 3) := by decide +kernel
theorem dX5_add_15 : decode cX5_add 15 = .ok (.aload_n 0, 1) := by decide +kernel
theorem dX5_add_16 : decode cX5_add 16 = .ok (.getfield 19, 3) := by decide +kernel
theorem dX5_add_19 : decode cX5_add 19 = .ok (.iload_n 1, 1) := by decide +kernel
theorem dX5_add_20 : decode cX5_add 20 = .ok (.iastore, 1) := by decide +kernel
theorem dX5_add_21 : decode cX5_add 21 = .ok (.aload_n 0, 1) := by decide +kernel
theorem dX5_add_22 : decode cX5_add 22 = .ok (.getfield 26, 3) := by decide +kernel
theorem dX5_add_25 : decode cX5_add 25 = .ok (.aload_n 0, 1) := by decide +kernel
theorem dX5_add_26 : decode cX5_add 26 = .ok (.getfield 19, 3) := by decide +kernel
theorem dX5_add_29 : decode cX5_add 29 = .ok (.iload_n 2, 1) := by decide +kernel
theorem dX5_add_30 : decode cX5_add 30 = .ok (.iastore, 1) := by decide +kernel
theorem dX5_add_31 : decode cX5_add 31 = .ok (.aload_n 0, 1) := by decide +kernel
theorem dX5_add_32 : decode cX5_add 32 = .ok (.getfield 29, 3) := by decide +kernel
theorem dX5_add_35 : decode cX5_add 35 = .ok (.aload_n 0, 1) := by decide +kernel
theorem dX5_add_36 : decode cX5_add 36 = .ok (.getfield 19, 3) := by decide +kernel
theorem dX5_add_39 : decode cX5_add 39 = .ok (.iload_n 3, 1) := by decide +kernel
theorem dX5_add_40 : decode cX5_add 40 = .ok (.iastore, 1) := by decide +kernel
theorem dX5_add_41 : decode cX5_add 41 = .ok (.aload_n 0, 1) := by decide +kernel
theorem dX5_add_42 : decode cX5_add 42 = .ok (.getfield 32, 3) := by decide +kernel
theorem dX5_add_45 : decode cX5_add 45 = .ok (.aload_n 0, 1) := by decide +kernel
theorem dX5_add_46 : decode cX5_add 46 = .ok (.getfield 19, 3) := by decide +kernel
theorem dX5_add_49 : decode cX5_add 49 = .ok (.iconst (-1), 1) := by decide +kernel
theorem dX5_add_50 : decode cX5_add 50 = .ok (.iastore, 1) := by decide +kernel
theorem dX5_add_51 : decode cX5_add 51 = .ok (.aload_n 0, 1) := by decide +kernel
theorem dX5_add_52 : decode cX5_add 52 = .ok (.dup, 1) := by decide +kernel
theorem dX5_add_53 : decode cX5_add 53 = .ok (.getfield 19, 3) := by decide +kernel
theorem dX5_add_56 : decode cX5_add 56 = .ok (.iconst 1, 1) := by decide +kernel
theorem dX5_add_57 : decode cX5_add 57 = .ok (.iadd, 1) := by decide +kernel
theorem dX5_add_58 : decode cX5_add 58 = .ok (.putfield 19, 3) := by decide +kernel
theorem dX5_add_61 : decode cX5_add 61 = .ok (.aload_n 0, 1) := by decide +kernel
theorem dX5_add_62 : decode cX5_add 62 = .ok (.getfield 19, 3) := by decide +kernel
theorem dX5_add_65 : decode cX5_add 65 = .ok (.iconst 1, 1) := by decide +kernel
theorem dX5_add_66 : decode cX5_add 66 = .ok (.isub, 1) := by decide +kernel
theorem dX5_add_67 : decode cX5_add 67 = .ok (.ireturn, 1) := by decide +kernel
theorem dX5_close_0 : decode cX5_close 0 = .ok (.aload_n 0, 1) := by decide +kernel
theorem dX5_close_1 : decode cX5_close 1 = .ok (.bipush 22, 2) := by decide +kernel
theorem dX5_close_3 : decode cX5_close 3 = .ok (.iconst 0, 1) := by decide +kernel
theorem dX5_close_4 : decode cX5_close 4 = .ok (.iconst 0, 1) := by decide +kernel
theorem dX5_close_5 : decode cX5_close 5 = .ok (.invokevirtual 41, 3) := by decide +kernel
theorem dX5_close_8 : decode cX5_close 8 = .ok (.istore_n 2, 1) := by decide +kernel
theorem dX5_close_9 : decode cX5_close 9 = .ok (.iload_n 2, 1) := by decide +kernel
theorem dX5_close_10 : decode cX5_close 10 = .ok (.iconst (-1), 1) := by decide +kernel
theorem dX5_close_11 : decode cX5_close 11 = .ok (.if_icmp .eq 26, 3) := by decide +kernel
theorem dX5_close_14 : decode cX5_close 14 = .ok (.iload_n 1, 1) := by decide +kernel
theorem dX5_close_15 : decode cX5_close 15 = .ok (.ifCond .lt 22, 3) := by decide +kernel
theorem dX5_close_18 : decode cX5_close 18 = .ok (.iload_n 1, 1) := by decide +kernel
theorem dX5_close_19 : decode cX5_close 19 = .ok (.iload_n 2, 1) := by decide +kernel
theorem dX5_close_20 : decode cX5_close 20 = .ok (.if_icmp .ge 17, 3) := by decide +kernel
theorem dX5_close_23 : decode cX5_close 23 = .ok (.aload_n 0, 1) := by decide +kernel
theorem dX5_close_24 : decode cX5_close 24 = .ok (.getfield 32, 3) := by decide +kernel
theorem dX5_close_27 : decode cX5_close 27 = .ok (.iload_n 2, 1) := by decide +kernel
theorem dX5_close_28 : decode cX5_close 28 = .ok (.iload_n 1, 1) := by decide +kernel
theorem dX5_close_29 : decode cX5_close 29 = .ok (.iastore, 1) := by decide +kernel
theorem dX5_close_30 : decode cX5_close 30 = .ok (.aload_n 0, 1) := by decide +kernel
theorem dX5_close_31 : decode cX5_close 31 = .ok (.getfield 32, 3) := by decide +kernel
theorem dX5_close_34 : decode cX5_close 34 = .ok (.iload_n 1, 1) := by decide +kernel
theorem dX5_close_35 : decode cX5_close 35 = .ok (.iload_n 2, 1) := by decide +kernel
theorem dX5_close_36 : decode cX5_close 36 = .ok (.iastore, 1) := by decide +kernel
theorem dX5_close_37 : decode cX5_close 37 = .ok (.return_, 1) := by decide +kernel
theorem dX6_init_0 : decode cX6_init 0 = .ok (.aload_n 0, 1) := by decide +kernel
theorem dX6_init_1 : decode cX6_init 1 = .ok (.invokespecial 3, 3) := by decide +kernel
theorem dX6_init_4 : decode cX6_init 4 = .ok (.aload_n 0, 1) := by decide +kernel
theorem dX6_init_5 : decode cX6_init 5 = .ok (.iconst 3, 1) := by decide +kernel
theorem dX6_init_6 : decode cX6_init 6 = .ok (.newarray .int, 2) := by decide +kernel
theorem dX6_init_8 : decode cX6_init 8 = .ok (.putfield 9, 3) := by decide +kernel
theorem dX6_init_11 : decode cX6_init 11 = .ok (.aload_n 0, 1) := by decide +kernel
theorem dX6_init_12 : decode cX6_init 12 = .ok (.iconst 0, 1) := by decide +kernel
theorem dX6_init_13 : decode cX6_init 13 = .ok (.putfield 15, 3) := by decide +kernel
theorem dX6_init_16 : decode cX6_init 16 = .ok (.return_, 1) := by decide +kernel
theorem dX6_take_0 : decode cX6_take 0 = .ok (.aload_n 3, 1) := by decide +kernel
theorem dX6_take_1 : decode cX6_take 1 = .ok (.invokevirtual 19, 3) := by decide +kernel
theorem dX6_take_4 : decode cX6_take 4 = .ok (.aload_n 0, 1) := by decide +kernel
theorem dX6_take_5 : decode cX6_take 5 = .ok (.iconst 0, 1) := by decide +kernel
theorem dX6_take_6 : decode cX6_take 6 = .ok (.putfield 15, 3) := by decide +kernel
theorem dX6_take_9 : decode cX6_take 9 = .ok (.iconst 1, 1) := by decide +kernel
theorem dX6_take_10 : decode cX6_take 10 = .ok (.istore 4, 2) := by decide +kernel
theorem dX6_take_12 : decode cX6_take 12 = .ok (.iconst 0, 1) := by decide +kernel
theorem dX6_take_13 : decode cX6_take 13 = .ok (.istore 5, 2) := by decide +kernel
theorem dX6_take_15 : decode cX6_take 15 = .ok (.iload 5, 2) := by decide +kernel
theorem dX6_take_17 : decode cX6_take 17 = .ok (.sipush 300, 3) := by decide +kernel
theorem dX6_take_20 : decode cX6_take 20 = .ok (.if_icmp .ge 48, 3) := by decide +kernel
theorem dX6_take_23 : decode cX6_take 23 = .ok (.iload 4, 2) := by decide +kernel
theorem dX6_take_25 : decode cX6_take 25 = .ok (.ifCond .eq 43, 3) := by decide +kernel
theorem dX6_take_28 : decode cX6_take 28 = .ok (.aload_n 1, 1) := by decide +kernel
theorem dX6_take_29 : decode cX6_take 29 = .ok (.getfield 24, 3) := by decide +kernel
theorem dX6_take_32 : decode cX6_take 32 = .ok (.ifCond .eq 36, 3) := by decide +kernel
theorem dX6_take_35 : decode cX6_take 35 = .ok (.aload_n 1, 1) := by decide +kernel
theorem dX6_take_36 : decode cX6_take 36 = .ok (.getfield 29, 3) := by decide +kernel
theorem dX6_take_39 : decode cX6_take 39 = .ok (.bipush 22, 2) := by decide +kernel
theorem dX6_take_41 : decode cX6_take 41 = .ok (.if_icmp .ne 12, 3) := by decide +kernel
theorem dX6_take_44 : decode cX6_take 44 = .ok (.aload_n 0, 1) := by decide +kernel
theorem dX6_take_45 : decode cX6_take 45 = .ok (.aload_n 1, 1) := by decide +kernel
theorem dX6_take_46 : decode cX6_take 46 = .ok (.aload_n 3, 1) := by decide +kernel
theorem dX6_take_47 : decode cX6_take 47 = .ok (.invokevirtual 32, 3) := by decide +kernel
theorem dX6_take_50 : decode cX6_take 50 = .ok (.goto 10, 3) := by decide +kernel
theorem dX6_take_53 : decode cX6_take 53 = .ok (.aload_n 0, 1) := by decide +kernel
theorem dX6_take_54 : decode cX6_take 54 = .ok (.aload_n 1, 1) := by decide +kernel
theorem dX6_take_55 : decode cX6_take 55 = .ok (.aload_n 2, 1) := by decide +kernel
theorem dX6_take_56 : decode cX6_take 56 = .ok (.aload_n 3, 1) := by decide +kernel
theorem dX6_take_57 : decode cX6_take 57 = .ok (.invokevirtual 36, 3) := by decide +kernel
theorem dX6_take_60 : decode cX6_take 60 = .ok (.istore 4, 2) := by decide +kernel
theorem dX6_take_62 : decode cX6_take 62 = .ok (.iinc 5 1, 3) := by decide +kernel
theorem dX6_take_65 : decode cX6_take 65 = .ok (.goto (-50), 3) := by decide +kernel
theorem dX6_take_68 : decode cX6_take 68 = .ok (.iload 4, 2) := by decide +kernel
theorem dX6_take_70 : decode cX6_take 70 = .ok (.ifCond .eq 17, 3) := by decide +kernel
theorem dX6_take_73 : decode cX6_take 73 = .ok (.aload_n 0, 1) := by decide +kernel
theorem dX6_take_74 : decode cX6_take 74 = .ok (.getfield 15, 3) := by decide +kernel
theorem dX6_take_77 : decode cX6_take 77 = .ok (.ifCond .le 10, 3) := by decide +kernel
theorem dX6_take_80 : decode cX6_take 80 = .ok (.aload_n 1, 1) := by decide +kernel
theorem dX6_take_81 : decode cX6_take 81 = .ok (.iconst 2, 1) := by decide +kernel
theorem dX6_take_82 : decode cX6_take 82 = .ok (.invokevirtual 40, 3) := by decide +kernel
theorem dX6_take_85 : decode cX6_take 85 = .ok (.istore 4, 2) := by decide +kernel
theorem dX6_take_87 : decode cX6_take 87 = .ok (.aload_n 3, 1) := by decide +kernel
theorem dX6_take_88 : decode cX6_take 88 = .ok (.iload 4, 2) := by decide +kernel
theorem dX6_take_90 : decode cX6_take 90 = .ok (.putfield 44, 3) := by decide +kernel
theorem dX6_take_93 : decode cX6_take 93 = .ok (.iload 4, 2) := by decide +kernel
theorem dX6_take_95 : decode cX6_take 95 = .ok (.ireturn, 1) := by decide +kernel
theorem dX6_takeEnd_0 : decode cX6_takeEnd 0 = .ok (.aload_n 0, 1) := by decide +kernel
theorem dX6_takeEnd_1 : decode cX6_takeEnd 1 = .ok (.getfield 15, 3) := by decide +kernel
theorem dX6_takeEnd_4 : decode cX6_takeEnd 4 = .ok (.ifCond .gt 9, 3) := by decide +kernel
theorem dX6_takeEnd_7 : decode cX6_takeEnd 7 = .ok (.aload_n 1, 1) := by decide +kernel
theorem dX6_takeEnd_8 : decode cX6_takeEnd 8 = .ok (.iconst 2, 1) := by decide +kernel
theorem dX6_takeEnd_9 : decode cX6_takeEnd 9 = .ok (.invokevirtual 40, 3) := by decide +kernel
theorem dX6_takeEnd_12 : decode cX6_takeEnd 12 = .ok (.ireturn, 1) := by decide +kernel
theorem dX6_takeEnd_13 : decode cX6_takeEnd 13 = .ok (.aload_n 1, 1) := by decide +kernel
theorem dX6_takeEnd_14 : decode cX6_takeEnd 14 = .ok (.invokevirtual 48, 3) := by decide +kernel
theorem dX6_takeEnd_17 : decode cX6_takeEnd 17 = .ok (.aload_n 1, 1) := by decide +kernel
theorem dX6_takeEnd_18 : decode cX6_takeEnd 18 = .ok (.invokevirtual 51, 3) := by decide +kernel
theorem dX6_takeEnd_21 : decode cX6_takeEnd 21 = .ok (.ifCond .ne 5, 3) := by decide +kernel
theorem dX6_takeEnd_24 : decode cX6_takeEnd 24 = .ok (.iconst 0, 1) := by decide +kernel
theorem dX6_takeEnd_25 : decode cX6_takeEnd 25 = .ok (.ireturn, 1) := by decide +kernel
theorem dX6_takeEnd_26 : decode cX6_takeEnd 26 = .ok (.aload_n 0, 1) := by decide +kernel
theorem dX6_takeEnd_27 : decode cX6_takeEnd 27 = .ok (.dup, 1) := by decide +kernel
theorem dX6_takeEnd_28 : decode cX6_takeEnd 28 = .ok (.getfield 15, 3) := by decide +kernel
theorem dX6_takeEnd_31 : decode cX6_takeEnd 31 = .ok (.iconst 1, 1) := by decide +kernel
theorem dX6_takeEnd_32 : decode cX6_takeEnd 32 = .ok (.isub, 1) := by decide +kernel
theorem dX6_takeEnd_33 : decode cX6_takeEnd 33 = .ok (.putfield 15, 3) := by decide +kernel
theorem dX6_takeEnd_36 : decode cX6_takeEnd 36 = .ok (.aload_n 2, 1) := by decide +kernel
theorem dX6_takeEnd_37 : decode cX6_takeEnd 37 = .ok (.aload_n 0, 1) := by decide +kernel
theorem dX6_takeEnd_38 : decode cX6_takeEnd 38 = .ok (.getfield 9, 3) := by decide +kernel
theorem dX6_takeEnd_41 : decode cX6_takeEnd 41 = .ok (.aload_n 0, 1) := by decide +kernel
theorem dX6_takeEnd_42 : decode cX6_takeEnd 42 = .ok (.getfield 15, 3) := by decide +kernel
theorem dX6_takeEnd_45 : decode cX6_takeEnd 45 = .ok (.iaload, 1) := by decide +kernel
theorem dX6_takeEnd_46 : decode cX6_takeEnd 46 = .ok (.invokevirtual 55, 3) := by decide +kernel
theorem dX6_takeEnd_49 : decode cX6_takeEnd 49 = .ok (.iconst 1, 1) := by decide +kernel
theorem dX6_takeEnd_50 : decode cX6_takeEnd 50 = .ok (.ireturn, 1) := by decide +kernel
theorem dX6_takeStep_0 : decode cX6_takeStep 0 = .ok (.aload_n 1, 1) := by decide +kernel
theorem dX6_takeStep_1 : decode cX6_takeStep 1 = .ok (.getfield 29, 3) := by decide +kernel
theorem dX6_takeStep_4 : decode cX6_takeStep 4 = .ok (.istore 4, 2) := by decide +kernel
theorem dX6_takeStep_6 : decode cX6_takeStep 6 = .ok (.iload 4, 2) := by decide +kernel
theorem dX6_takeStep_8 : decode cX6_takeStep 8 = .ok (.bipush 12, 2) := by decide +kernel
theorem dX6_takeStep_10 : decode cX6_takeStep 10 = .ok (.if_icmp .lt 17, 3) := by decide +kernel
theorem dX6_takeStep_13 : decode cX6_takeStep 13 = .ok (.iload 4, 2) := by decide +kernel
theorem dX6_takeStep_15 : decode cX6_takeStep 15 = .ok (.bipush 19, 2) := by decide +kernel
theorem dX6_takeStep_17 : decode cX6_takeStep 17 = .ok (.if_icmp .eq 10, 3) := by decide +kernel
theorem dX6_takeStep_20 : decode cX6_takeStep 20 = .ok (.iload 4, 2) := by decide +kernel
theorem dX6_takeStep_22 : decode cX6_takeStep 22 = .ok (.bipush 20, 2) := by decide +kernel
theorem dX6_takeStep_24 : decode cX6_takeStep 24 = .ok (.if_icmp .ne 9, 3) := by decide +kernel
theorem dX6_takeStep_27 : decode cX6_takeStep 27 = .ok (.aload_n 1, 1) := by decide +kernel
theorem dX6_takeStep_28 : decode cX6_takeStep 28 = .ok (.iconst 2, 1) := by decide +kernel
theorem dX6_takeStep_29 : decode cX6_takeStep 29 = .ok (.invokevirtual 40, 3) := by decide +kernel
theorem dX6_takeStep_32 : decode cX6_takeStep 32 = .ok (.ireturn, 1) := by decide +kernel
theorem dX6_takeStep_33 : decode cX6_takeStep 33 = .ok (.aload_n 3, 1) := by decide +kernel
theorem dX6_takeStep_34 : decode cX6_takeStep 34 = .ok (.getfield 59, 3) := by decide +kernel
theorem dX6_takeStep_37 : decode cX6_takeStep 37 = .ok (.bipush 30, 2) := by decide +kernel
theorem dX6_takeStep_39 : decode cX6_takeStep 39 = .ok (.if_icmp .lt 10, 3) := by decide +kernel
theorem dX6_takeStep_42 : decode cX6_takeStep 42 = .ok (.aload_n 1, 1) := by decide +kernel
theorem dX6_takeStep_43 : decode cX6_takeStep 43 = .ok (.bipush 6, 2) := by decide +kernel
theorem dX6_takeStep_45 : decode cX6_takeStep 45 = .ok (.invokevirtual 40, 3) := by decide +kernel
theorem dX6_takeStep_48 : decode cX6_takeStep 48 = .ok (.ireturn, 1) := by decide +kernel
theorem dX6_takeStep_49 : decode cX6_takeStep 49 = .ok (.iload 4, 2) := by decide +kernel
theorem dX6_takeStep_51 : decode cX6_takeStep 51 = .ok (.bipush 18, 2) := by decide +kernel
theorem dX6_takeStep_53 : decode cX6_takeStep 53 = .ok (.if_icmp .eq 10, 3) := by decide +kernel
theorem dX6_takeStep_56 : decode cX6_takeStep 56 = .ok (.iload 4, 2) := by decide +kernel
theorem dX6_takeStep_58 : decode cX6_takeStep 58 = .ok (.bipush 21, 2) := by decide +kernel
theorem dX6_takeStep_60 : decode cX6_takeStep 60 = .ok (.if_icmp .ne 18, 3) := by decide +kernel
theorem dX6_takeStep_63 : decode cX6_takeStep 63 = .ok (.aload_n 0, 1) := by decide +kernel
theorem dX6_takeStep_64 : decode cX6_takeStep 64 = .ok (.getfield 15, 3) := by decide +kernel
theorem dX6_takeStep_67 : decode cX6_takeStep 67 = .ok (.iconst 3, 1) := by decide +kernel
theorem dX6_takeStep_68 : decode cX6_takeStep 68 = .ok (.if_icmp .lt 10, 3) := by decide +kernel
theorem dX6_takeStep_71 : decode cX6_takeStep 71 = .ok (.aload_n 1, 1) := by decide +kernel
theorem dX6_takeStep_72 : decode cX6_takeStep 72 = .ok (.bipush 7, 2) := by decide +kernel
theorem dX6_takeStep_74 : decode cX6_takeStep 74 = .ok (.invokevirtual 40, 3) := by decide +kernel
theorem dX6_takeStep_77 : decode cX6_takeStep 77 = .ok (.ireturn, 1) := by decide +kernel
theorem dX6_takeStep_78 : decode cX6_takeStep 78 = .ok (.aload_n 1, 1) := by decide +kernel
theorem dX6_takeStep_79 : decode cX6_takeStep 79 = .ok (.invokevirtual 48, 3) := by decide +kernel
theorem dX6_takeStep_82 : decode cX6_takeStep 82 = .ok (.iload 4, 2) := by decide +kernel
theorem dX6_takeStep_84 : decode cX6_takeStep 84 = .ok (.bipush 18, 2) := by decide +kernel
theorem dX6_takeStep_86 : decode cX6_takeStep 86 = .ok (.if_icmp .ne 27, 3) := by decide +kernel
theorem dX6_takeStep_89 : decode cX6_takeStep 89 = .ok (.aload_n 1, 1) := by decide +kernel
theorem dX6_takeStep_90 : decode cX6_takeStep 90 = .ok (.getfield 29, 3) := by decide +kernel
theorem dX6_takeStep_93 : decode cX6_takeStep 93 = .ok (.istore 4, 2) := by decide +kernel
theorem dX6_takeStep_95 : decode cX6_takeStep 95 = .ok (.iload 4, 2) := by decide +kernel
theorem dX6_takeStep_97 : decode cX6_takeStep 97 = .ok (.invokestatic 62, 3) := by decide +kernel
theorem dX6_takeStep_100 : decode cX6_takeStep 100 = .ok (.ifCond .ne 9, 3) := by decide +kernel
theorem dX6_takeStep_103 : decode cX6_takeStep 103 = .ok (.aload_n 1, 1) := by decide +kernel
theorem dX6_takeStep_104 : decode cX6_takeStep 104 = .ok (.iconst 2, 1) := by decide +kernel
theorem dX6_takeStep_105 : decode cX6_takeStep 105 = .ok (.invokevirtual 40, 3) := by decide +kernel
theorem dX6_takeStep_108 : decode cX6_takeStep 108 = .ok (.ireturn, 1) := by decide +kernel
theorem dX6_takeStep_109 : decode cX6_takeStep 109 = .ok (.aload_n 1, 1) := by decide +kernel
theorem dX6_takeStep_110 : decode cX6_takeStep 110 = .ok (.invokevirtual 48, 3) := by decide +kernel
theorem dX6_takeStep_113 : decode cX6_takeStep 113 = .ok (.aload_n 1, 1) := by decide +kernel
theorem dX6_takeStep_114 : decode cX6_takeStep 114 = .ok (.aload_n 2, 1) := by decide +kernel
theorem dX6_takeStep_115 : decode cX6_takeStep 115 = .ok (.iload 4, 2) := by decide +kernel
theorem dX6_takeStep_117 : decode cX6_takeStep 117 = .ok (.invokestatic 65, 3) := by decide +kernel
theorem dX6_takeStep_120 : decode cX6_takeStep 120 = .ok (.istore 5, 2) := by decide +kernel
theorem dX6_takeStep_122 : decode cX6_takeStep 122 = .ok (.iload 5, 2) := by decide +kernel
theorem dX6_takeStep_124 : decode cX6_takeStep 124 = .ok (.iconst (-1), 1) := by decide +kernel
theorem dX6_takeStep_125 : decode cX6_takeStep 125 = .ok (.if_icmp .ne 7, 3) := by decide +kernel
theorem dX6_takeStep_128 : decode cX6_takeStep 128 = .ok (.iconst (-1), 1) := by decide +kernel
theorem dX6_takeStep_129 : decode cX6_takeStep 129 = .ok (.goto 10, 3) := by decide +kernel
theorem dX6_takeStep_132 : decode cX6_takeStep 132 = .ok (.aload_n 1, 1) := by decide +kernel
theorem dX6_takeStep_133 : decode cX6_takeStep 133 = .ok (.aload_n 2, 1) := by decide +kernel
theorem dX6_takeStep_134 : decode cX6_takeStep 134 = .ok (.iload 4, 2) := by decide +kernel
theorem dX6_takeStep_136 : decode cX6_takeStep 136 = .ok (.invokestatic 69, 3) := by decide +kernel
theorem dX6_takeStep_139 : decode cX6_takeStep 139 = .ok (.istore 6, 2) := by decide +kernel
theorem dX6_takeStep_141 : decode cX6_takeStep 141 = .ok (.iload 6, 2) := by decide +kernel
theorem dX6_takeStep_143 : decode cX6_takeStep 143 = .ok (.iconst (-1), 1) := by decide +kernel
theorem dX6_takeStep_144 : decode cX6_takeStep 144 = .ok (.if_icmp .eq 10, 3) := by decide +kernel
theorem dX6_takeStep_147 : decode cX6_takeStep 147 = .ok (.aload_n 1, 1) := by decide +kernel
theorem dX6_takeStep_148 : decode cX6_takeStep 148 = .ok (.invokevirtual 51, 3) := by decide +kernel
theorem dX6_takeStep_151 : decode cX6_takeStep 151 = .ok (.ifCond .ne 5, 3) := by decide +kernel
theorem dX6_takeStep_154 : decode cX6_takeStep 154 = .ok (.iconst 0, 1) := by decide +kernel
theorem dX6_takeStep_155 : decode cX6_takeStep 155 = .ok (.ireturn, 1) := by decide +kernel
theorem dX6_takeStep_156 : decode cX6_takeStep 156 = .ok (.aload_n 0, 1) := by decide +kernel
theorem dX6_takeStep_157 : decode cX6_takeStep 157 = .ok (.aload_n 3, 1) := by decide +kernel
theorem dX6_takeStep_158 : decode cX6_takeStep 158 = .ok (.iload 4, 2) := by decide +kernel
theorem dX6_takeStep_160 : decode cX6_takeStep 160 = .ok (.iload 5, 2) := by decide +kernel
theorem dX6_takeStep_162 : decode cX6_takeStep 162 = .ok (.iload 6, 2) := by decide +kernel
theorem dX6_takeStep_164 : decode cX6_takeStep 164 = .ok (.invokevirtual 72, 3) := by decide +kernel
theorem dX6_takeStep_167 : decode cX6_takeStep 167 = .ok (.iconst 1, 1) := by decide +kernel
theorem dX6_takeStep_168 : decode cX6_takeStep 168 = .ok (.ireturn, 1) := by decide +kernel
theorem dX6_takeOne_0 : decode cX6_takeOne 0 = .ok (.iload_n 2, 1) := by decide +kernel
theorem dX6_takeOne_1 : decode cX6_takeOne 1 = .ok (.tableswitch 118 8 21 #[79, 118, 118, 118, 71, 79, 79, 92, 92, 118, 118, 92, 105, 71], 71) := by decide +kernel
theorem dX6_takeOne_72 : decode cX6_takeOne 72 = .ok (.aload_n 0, 1) := by decide +kernel
theorem dX6_takeOne_73 : decode cX6_takeOne 73 = .ok (.iconst 1, 1) := by decide +kernel
theorem dX6_takeOne_74 : decode cX6_takeOne 74 = .ok (.bipush 99, 2) := by decide +kernel
theorem dX6_takeOne_76 : decode cX6_takeOne 76 = .ok (.invokevirtual 76, 3) := by decide +kernel
theorem dX6_takeOne_79 : decode cX6_takeOne 79 = .ok (.ireturn, 1) := by decide +kernel
theorem dX6_takeOne_80 : decode cX6_takeOne 80 = .ok (.aload_n 0, 1) := by decide +kernel
theorem dX6_takeOne_81 : decode cX6_takeOne 81 = .ok (.aload_n 1, 1) := by decide +kernel
theorem dX6_takeOne_82 : decode cX6_takeOne 82 = .ok (.getfield 80, 3) := by decide +kernel
theorem dX6_takeOne_85 : decode cX6_takeOne 85 = .ok (.aload_n 1, 1) := by decide +kernel
theorem dX6_takeOne_86 : decode cX6_takeOne 86 = .ok (.getfield 86, 3) := by decide +kernel
theorem dX6_takeOne_89 : decode cX6_takeOne 89 = .ok (.invokevirtual 89, 3) := by decide +kernel
theorem dX6_takeOne_92 : decode cX6_takeOne 92 = .ok (.ireturn, 1) := by decide +kernel
theorem dX6_takeOne_93 : decode cX6_takeOne 93 = .ok (.aload_n 0, 1) := by decide +kernel
theorem dX6_takeOne_94 : decode cX6_takeOne 94 = .ok (.aload_n 1, 1) := by decide +kernel
theorem dX6_takeOne_95 : decode cX6_takeOne 95 = .ok (.getfield 93, 3) := by decide +kernel
theorem dX6_takeOne_98 : decode cX6_takeOne 98 = .ok (.aload_n 1, 1) := by decide +kernel
theorem dX6_takeOne_99 : decode cX6_takeOne 99 = .ok (.getfield 96, 3) := by decide +kernel
theorem dX6_takeOne_102 : decode cX6_takeOne 102 = .ok (.invokevirtual 89, 3) := by decide +kernel
theorem dX6_takeOne_105 : decode cX6_takeOne 105 = .ok (.ireturn, 1) := by decide +kernel
theorem dX6_takeOne_106 : decode cX6_takeOne 106 = .ok (.aload_n 0, 1) := by decide +kernel
theorem dX6_takeOne_107 : decode cX6_takeOne 107 = .ok (.aload_n 1, 1) := by decide +kernel
theorem dX6_takeOne_108 : decode cX6_takeOne 108 = .ok (.getfield 99, 3) := by decide +kernel
theorem dX6_takeOne_111 : decode cX6_takeOne 111 = .ok (.aload_n 1, 1) := by decide +kernel
theorem dX6_takeOne_112 : decode cX6_takeOne 112 = .ok (.getfield 102, 3) := by decide +kernel
theorem dX6_takeOne_115 : decode cX6_takeOne 115 = .ok (.invokevirtual 89, 3) := by decide +kernel
theorem dX6_takeOne_118 : decode cX6_takeOne 118 = .ok (.ireturn, 1) := by decide +kernel
theorem dX6_takeOne_119 : decode cX6_takeOne 119 = .ok (.iconst 0, 1) := by decide +kernel
theorem dX6_takeOne_120 : decode cX6_takeOne 120 = .ok (.ireturn, 1) := by decide +kernel
theorem dX6_takeOther_0 : decode cX6_takeOther 0 = .ok (.iload_n 2, 1) := by decide +kernel
theorem dX6_takeOther_1 : decode cX6_takeOther 1 = .ok (.lookupswitch 53 #[(8, 40), (14, 27)], 27) := by decide +kernel
theorem dX6_takeOther_28 : decode cX6_takeOther 28 = .ok (.aload_n 0, 1) := by decide +kernel
theorem dX6_takeOther_29 : decode cX6_takeOther 29 = .ok (.aload_n 1, 1) := by decide +kernel
theorem dX6_takeOther_30 : decode cX6_takeOther 30 = .ok (.getfield 80, 3) := by decide +kernel
theorem dX6_takeOther_33 : decode cX6_takeOther 33 = .ok (.aload_n 1, 1) := by decide +kernel
theorem dX6_takeOther_34 : decode cX6_takeOther 34 = .ok (.getfield 86, 3) := by decide +kernel
theorem dX6_takeOther_37 : decode cX6_takeOther 37 = .ok (.invokevirtual 89, 3) := by decide +kernel
theorem dX6_takeOther_40 : decode cX6_takeOther 40 = .ok (.ireturn, 1) := by decide +kernel
theorem dX6_takeOther_41 : decode cX6_takeOther 41 = .ok (.aload_n 0, 1) := by decide +kernel
theorem dX6_takeOther_42 : decode cX6_takeOther 42 = .ok (.aload_n 1, 1) := by decide +kernel
theorem dX6_takeOther_43 : decode cX6_takeOther 43 = .ok (.getfield 99, 3) := by decide +kernel
theorem dX6_takeOther_46 : decode cX6_takeOther 46 = .ok (.aload_n 1, 1) := by decide +kernel
theorem dX6_takeOther_47 : decode cX6_takeOther 47 = .ok (.getfield 102, 3) := by decide +kernel
theorem dX6_takeOther_50 : decode cX6_takeOther 50 = .ok (.invokevirtual 89, 3) := by decide +kernel
theorem dX6_takeOther_53 : decode cX6_takeOther 53 = .ok (.ireturn, 1) := by decide +kernel
theorem dX6_takeOther_54 : decode cX6_takeOther 54 = .ok (.iconst 0, 1) := by decide +kernel
theorem dX6_takeOther_55 : decode cX6_takeOther 55 = .ok (.ireturn, 1) := by decide +kernel
theorem dX6_addStep_0 : decode cX6_addStep 0 = .ok (.aload_n 1, 1) := by decide +kernel
theorem dX6_addStep_1 : decode cX6_addStep 1 = .ok (.iload_n 2, 1) := by decide +kernel
theorem dX6_addStep_2 : decode cX6_addStep 2 = .ok (.iload_n 3, 1) := by decide +kernel
theorem dX6_addStep_3 : decode cX6_addStep 3 = .ok (.iload 4, 2) := by decide +kernel
theorem dX6_addStep_5 : decode cX6_addStep 5 = .ok (.invokevirtual 105, 3) := by decide +kernel
theorem dX6_addStep_8 : decode cX6_addStep 8 = .ok (.istore 5, 2) := by decide +kernel
theorem dX6_addStep_10 : decode cX6_addStep 10 = .ok (.aload_n 1, 1) := by decide +kernel
theorem dX6_addStep_11 : decode cX6_addStep 11 = .ok (.dup, 1) := by decide +kernel
theorem dX6_addStep_12 : decode cX6_addStep 12 = .ok (.getfield 59, 3) := by decide +kernel
theorem dX6_addStep_15 : decode cX6_addStep 15 = .ok (.iconst 1, 1) := by decide +kernel
theorem dX6_addStep_16 : decode cX6_addStep 16 = .ok (.iadd, 1) := by decide +kernel
theorem dX6_addStep_17 : decode cX6_addStep 17 = .ok (.putfield 59, 3) := by decide +kernel
theorem dX6_addStep_20 : decode cX6_addStep 20 = .ok (.iload_n 2, 1) := by decide +kernel
theorem dX6_addStep_21 : decode cX6_addStep 21 = .ok (.bipush 21, 2) := by decide +kernel
theorem dX6_addStep_23 : decode cX6_addStep 23 = .ok (.if_icmp .eq 10, 3) := by decide +kernel
theorem dX6_addStep_26 : decode cX6_addStep 26 = .ok (.iload_n 2, 1) := by decide +kernel
theorem dX6_addStep_27 : decode cX6_addStep 27 = .ok (.invokestatic 62, 3) := by decide +kernel
theorem dX6_addStep_30 : decode cX6_addStep 30 = .ok (.ifCond .eq 32, 3) := by decide +kernel
theorem dX6_addStep_33 : decode cX6_addStep 33 = .ok (.aload_n 0, 1) := by decide +kernel
theorem dX6_addStep_34 : decode cX6_addStep 34 = .ok (.getfield 15, 3) := by decide +kernel
theorem dX6_addStep_37 : decode cX6_addStep 37 = .ok (.iconst 3, 1) := by decide +kernel
theorem dX6_addStep_38 : decode cX6_addStep 38 = .ok (.if_icmp .ge 24, 3) := by decide +kernel
theorem dX6_addStep_41 : decode cX6_addStep 41 = .ok (.aload_n 0, 1) := by decide +kernel
theorem dX6_addStep_42 : decode cX6_addStep 42 = .ok (.getfield 9, 3) := by decide +kernel
theorem dX6_addStep_45 : decode cX6_addStep 45 = .ok (.aload_n 0, 1) := by decide +kernel
theorem dX6_addStep_46 : decode cX6_addStep 46 = .ok (.getfield 15, 3) := by decide +kernel
theorem dX6_addStep_49 : decode cX6_addStep 49 = .ok (.iload 5, 2) := by decide +kernel
theorem dX6_addStep_51 : decode cX6_addStep 51 = .ok (.iastore, 1) := by decide +kernel
theorem dX6_addStep_52 : decode cX6_addStep 52 = .ok (.aload_n 0, 1) := by decide +kernel
theorem dX6_addStep_53 : decode cX6_addStep 53 = .ok (.dup, 1) := by decide +kernel
theorem dX6_addStep_54 : decode cX6_addStep 54 = .ok (.getfield 15, 3) := by decide +kernel
theorem dX6_addStep_57 : decode cX6_addStep 57 = .ok (.iconst 1, 1) := by decide +kernel
theorem dX6_addStep_58 : decode cX6_addStep 58 = .ok (.iadd, 1) := by decide +kernel
theorem dX6_addStep_59 : decode cX6_addStep 59 = .ok (.putfield 15, 3) := by decide +kernel
theorem dX6_addStep_62 : decode cX6_addStep 62 = .ok (.return_, 1) := by decide +kernel
theorem dX7_init_0 : decode cX7_init 0 = .ok (.aload_n 0, 1) := by decide +kernel
theorem dX7_init_1 : decode cX7_init 1 = .ok (.invokespecial 3, 3) := by decide +kernel
theorem dX7_init_4 : decode cX7_init 4 = .ok (.aload_n 0, 1) := by decide +kernel
theorem dX7_init_5 : decode cX7_init 5 = .ok (.bipush 8, 2) := by decide +kernel
theorem dX7_init_7 : decode cX7_init 7 = .ok (.newarray .int, 2) := by decide +kernel
theorem dX7_init_9 : decode cX7_init 9 = .ok (.putfield 9, 3) := by decide +kernel
theorem dX7_init_12 : decode cX7_init 12 = .ok (.aload_n 0, 1) := by decide +kernel
theorem dX7_init_13 : decode cX7_init 13 = .ok (.iconst 0, 1) := by decide +kernel
theorem dX7_init_14 : decode cX7_init 14 = .ok (.putfield 15, 3) := by decide +kernel
theorem dX7_init_17 : decode cX7_init 17 = .ok (.aload_n 0, 1) := by decide +kernel
theorem dX7_init_18 : decode cX7_init 18 = .ok (.iconst 0, 1) := by decide +kernel
theorem dX7_init_19 : decode cX7_init 19 = .ok (.putfield 19, 3) := by decide +kernel
theorem dX7_init_22 : decode cX7_init 22 = .ok (.aload_n 0, 1) := by decide +kernel
theorem dX7_init_23 : decode cX7_init 23 = .ok (.bipush 8, 2) := by decide +kernel
theorem dX7_init_25 : decode cX7_init 25 = .ok (.newarray .int, 2) := by decide +kernel
theorem dX7_init_27 : decode cX7_init 27 = .ok (.putfield 22, 3) := by decide +kernel
theorem dX7_init_30 : decode cX7_init 30 = .ok (.aload_n 0, 1) := by decide +kernel
theorem dX7_init_31 : decode cX7_init 31 = .ok (.bipush 8, 2) := by decide +kernel
theorem dX7_init_33 : decode cX7_init 33 = .ok (.newarray .int, 2) := by decide +kernel
theorem dX7_init_35 : decode cX7_init 35 = .ok (.putfield 25, 3) := by decide +kernel
theorem dX7_init_38 : decode cX7_init 38 = .ok (.aload_n 0, 1) := by decide +kernel
theorem dX7_init_39 : decode cX7_init 39 = .ok (.bipush 6, 2) := by decide +kernel
theorem dX7_init_41 : decode cX7_init 41 = .ok (.newarray .int, 2) := by decide +kernel
theorem dX7_init_43 : decode cX7_init 43 = .ok (.putfield 28, 3) := by decide +kernel
theorem dX7_init_46 : decode cX7_init 46 = .ok (.aload_n 0, 1) := by decide +kernel
theorem dX7_init_47 : decode cX7_init 47 = .ok (.bipush 36, 2) := by decide +kernel
theorem dX7_init_49 : decode cX7_init 49 = .ok (.newarray .int, 2) := by decide +kernel
theorem dX7_init_51 : decode cX7_init 51 = .ok (.putfield 31, 3) := by decide +kernel
theorem dX7_init_54 : decode cX7_init 54 = .ok (.aload_n 0, 1) := by decide +kernel
theorem dX7_init_55 : decode cX7_init 55 = .ok (.bipush 6, 2) := by decide +kernel
theorem dX7_init_57 : decode cX7_init 57 = .ok (.newarray .int, 2) := by decide +kernel
theorem dX7_init_59 : decode cX7_init 59 = .ok (.putfield 34, 3) := by decide +kernel
theorem dX7_init_62 : decode cX7_init 62 = .ok (.aload_n 0, 1) := by decide +kernel
theorem dX7_init_63 : decode cX7_init 63 = .ok (.bipush 6, 2) := by decide +kernel
theorem dX7_init_65 : decode cX7_init 65 = .ok (.newarray .int, 2) := by decide +kernel
theorem dX7_init_67 : decode cX7_init 67 = .ok (.putfield 37, 3) := by decide +kernel
theorem dX7_init_70 : decode cX7_init 70 = .ok (.aload_n 0, 1) := by decide +kernel
theorem dX7_init_71 : decode cX7_init 71 = .ok (.iconst 0, 1) := by decide +kernel
theorem dX7_init_72 : decode cX7_init 72 = .ok (.putfield 40, 3) := by decide +kernel
theorem dX7_init_75 : decode cX7_init 75 = .ok (.aload_n 0, 1) := by decide +kernel
theorem dX7_init_76 : decode cX7_init 76 = .ok (.iconst 0, 1) := by decide +kernel
theorem dX7_init_77 : decode cX7_init 77 = .ok (.putfield 43, 3) := by decide +kernel
theorem dX7_init_80 : decode cX7_init 80 = .ok (.aload_n 0, 1) := by decide +kernel
theorem dX7_init_81 : decode cX7_init 81 = .ok (.iconst 0, 1) := by decide +kernel
theorem dX7_init_82 : decode cX7_init 82 = .ok (.putfield 46, 3) := by decide +kernel
theorem dX7_init_85 : decode cX7_init 85 = .ok (.aload_n 0, 1) := by decide +kernel
theorem dX7_init_86 : decode cX7_init 86 = .ok (.iconst 0, 1) := by decide +kernel
theorem dX7_init_87 : decode cX7_init 87 = .ok (.putfield 49, 3) := by decide +kernel
theorem dX7_init_90 : decode cX7_init 90 = .ok (.return_, 1) := by decide +kernel
theorem dX7_has_0 : decode cX7_has 0 = .ok (.iload_n 0, 1) := by decide +kernel
theorem dX7_has_1 : decode cX7_has 1 = .ok (.iload_n 1, 1) := by decide +kernel
theorem dX7_has_2 : decode cX7_has 2 = .ok (.ishr, 1) := by decide +kernel
theorem dX7_has_3 : decode cX7_has 3 = .ok (.iconst 1, 1) := by decide +kernel
theorem dX7_has_4 : decode cX7_has 4 = .ok (.iand, 1) := by decide +kernel
theorem dX7_has_5 : decode cX7_has 5 = .ok (.ifCond .eq 7, 3) := by decide +kernel
theorem dX7_has_8 : decode cX7_has 8 = .ok (.iconst 1, 1) := by decide +kernel
theorem dX7_has_9 : decode cX7_has 9 = .ok (.goto 4, 3) := by decide +kernel
theorem dX7_has_12 : decode cX7_has 12 = .ok (.iconst 0, 1) := by decide +kernel
theorem dX7_has_13 : decode cX7_has 13 = .ok (.ireturn, 1) := by decide +kernel
theorem dX7_clear_0 : decode cX7_clear 0 = .ok (.aload_n 0, 1) := by decide +kernel
theorem dX7_clear_1 : decode cX7_clear 1 = .ok (.iconst 0, 1) := by decide +kernel
theorem dX7_clear_2 : decode cX7_clear 2 = .ok (.putfield 15, 3) := by decide +kernel
theorem dX7_clear_5 : decode cX7_clear 5 = .ok (.aload_n 0, 1) := by decide +kernel
theorem dX7_clear_6 : decode cX7_clear 6 = .ok (.iconst 0, 1) := by decide +kernel
theorem dX7_clear_7 : decode cX7_clear 7 = .ok (.putfield 19, 3) := by decide +kernel
theorem dX7_clear_10 : decode cX7_clear 10 = .ok (.aload_n 0, 1) := by decide +kernel
theorem dX7_clear_11 : decode cX7_clear 11 = .ok (.iconst 0, 1) := by decide +kernel
theorem dX7_clear_12 : decode cX7_clear 12 = .ok (.putfield 40, 3) := by decide +kernel
theorem dX7_clear_15 : decode cX7_clear 15 = .ok (.aload_n 0, 1) := by decide +kernel
theorem dX7_clear_16 : decode cX7_clear 16 = .ok (.iconst 0, 1) := by decide +kernel
theorem dX7_clear_17 : decode cX7_clear 17 = .ok (.putfield 43, 3) := by decide +kernel
theorem dX7_clear_20 : decode cX7_clear 20 = .ok (.aload_n 0, 1) := by decide +kernel
theorem dX7_clear_21 : decode cX7_clear 21 = .ok (.iconst 0, 1) := by decide +kernel
theorem dX7_clear_22 : decode cX7_clear 22 = .ok (.putfield 46, 3) := by decide +kernel
theorem dX7_clear_25 : decode cX7_clear 25 = .ok (.aload_n 0, 1) := by decide +kernel
theorem dX7_clear_26 : decode cX7_clear 26 = .ok (.iconst 0, 1) := by decide +kernel
theorem dX7_clear_27 : decode cX7_clear 27 = .ok (.putfield 49, 3) := by decide +kernel
theorem dX7_clear_30 : decode cX7_clear 30 = .ok (.aload_n 0, 1) := by decide +kernel
theorem dX7_clear_31 : decode cX7_clear 31 = .ok (.getfield 22, 3) := by decide +kernel
theorem dX7_clear_34 : decode cX7_clear 34 = .ok (.iconst 0, 1) := by decide +kernel
theorem dX7_clear_35 : decode cX7_clear 35 = .ok (.invokestatic 52, 3) := by decide +kernel
theorem dX7_clear_38 : decode cX7_clear 38 = .ok (.aload_n 0, 1) := by decide +kernel
theorem dX7_clear_39 : decode cX7_clear 39 = .ok (.getfield 25, 3) := by decide +kernel
theorem dX7_clear_42 : decode cX7_clear 42 = .ok (.iconst 0, 1) := by decide +kernel
theorem dX7_clear_43 : decode cX7_clear 43 = .ok (.invokestatic 52, 3) := by decide +kernel
theorem dX7_clear_46 : decode cX7_clear 46 = .ok (.aload_n 0, 1) := by decide +kernel
theorem dX7_clear_47 : decode cX7_clear 47 = .ok (.getfield 28, 3) := by decide +kernel
theorem dX7_clear_50 : decode cX7_clear 50 = .ok (.iconst 0, 1) := by decide +kernel
theorem dX7_clear_51 : decode cX7_clear 51 = .ok (.invokestatic 52, 3) := by decide +kernel
theorem dX7_clear_54 : decode cX7_clear 54 = .ok (.aload_n 0, 1) := by decide +kernel
theorem dX7_clear_55 : decode cX7_clear 55 = .ok (.getfield 31, 3) := by decide +kernel
theorem dX7_clear_58 : decode cX7_clear 58 = .ok (.iconst 0, 1) := by decide +kernel
theorem dX7_clear_59 : decode cX7_clear 59 = .ok (.invokestatic 52, 3) := by decide +kernel
theorem dX7_clear_62 : decode cX7_clear 62 = .ok (.aload_n 0, 1) := by decide +kernel
theorem dX7_clear_63 : decode cX7_clear 63 = .ok (.getfield 34, 3) := by decide +kernel
theorem dX7_clear_66 : decode cX7_clear 66 = .ok (.iconst 0, 1) := by decide +kernel
theorem dX7_clear_67 : decode cX7_clear 67 = .ok (.invokestatic 52, 3) := by decide +kernel
theorem dX7_clear_70 : decode cX7_clear 70 = .ok (.aload_n 0, 1) := by decide +kernel
theorem dX7_clear_71 : decode cX7_clear 71 = .ok (.getfield 37, 3) := by decide +kernel
theorem dX7_clear_74 : decode cX7_clear 74 = .ok (.iconst 0, 1) := by decide +kernel
theorem dX7_clear_75 : decode cX7_clear 75 = .ok (.invokestatic 52, 3) := by decide +kernel
theorem dX7_clear_78 : decode cX7_clear 78 = .ok (.return_, 1) := by decide +kernel
theorem dX7_copyFrom_0 : decode cX7_copyFrom 0 = .ok (.aload_n 0, 1) := by decide +kernel
theorem dX7_copyFrom_1 : decode cX7_copyFrom 1 = .ok (.aload_n 1, 1) := by decide +kernel
theorem dX7_copyFrom_2 : decode cX7_copyFrom 2 = .ok (.getfield 15, 3) := by decide +kernel
theorem dX7_copyFrom_5 : decode cX7_copyFrom 5 = .ok (.putfield 15, 3) := by decide +kernel
theorem dX7_copyFrom_8 : decode cX7_copyFrom 8 = .ok (.aload_n 0, 1) := by decide +kernel
theorem dX7_copyFrom_9 : decode cX7_copyFrom 9 = .ok (.aload_n 1, 1) := by decide +kernel
theorem dX7_copyFrom_10 : decode cX7_copyFrom 10 = .ok (.getfield 19, 3) := by decide +kernel
theorem dX7_copyFrom_13 : decode cX7_copyFrom 13 = .ok (.putfield 19, 3) := by decide +kernel
theorem dX7_copyFrom_16 : decode cX7_copyFrom 16 = .ok (.aload_n 0, 1) := by decide +kernel
theorem dX7_copyFrom_17 : decode cX7_copyFrom 17 = .ok (.aload_n 1, 1) := by decide +kernel
theorem dX7_copyFrom_18 : decode cX7_copyFrom 18 = .ok (.getfield 40, 3) := by decide +kernel
theorem dX7_copyFrom_21 : decode cX7_copyFrom 21 = .ok (.putfield 40, 3) := by decide +kernel
theorem dX7_copyFrom_24 : decode cX7_copyFrom 24 = .ok (.aload_n 0, 1) := by decide +kernel
theorem dX7_copyFrom_25 : decode cX7_copyFrom 25 = .ok (.aload_n 1, 1) := by decide +kernel
theorem dX7_copyFrom_26 : decode cX7_copyFrom 26 = .ok (.getfield 43, 3) := by decide +kernel
theorem dX7_copyFrom_29 : decode cX7_copyFrom 29 = .ok (.putfield 43, 3) := by decide +kernel
theorem dX7_copyFrom_32 : decode cX7_copyFrom 32 = .ok (.aload_n 0, 1) := by decide +kernel
theorem dX7_copyFrom_33 : decode cX7_copyFrom 33 = .ok (.aload_n 1, 1) := by decide +kernel
theorem dX7_copyFrom_34 : decode cX7_copyFrom 34 = .ok (.getfield 46, 3) := by decide +kernel
theorem dX7_copyFrom_37 : decode cX7_copyFrom 37 = .ok (.putfield 46, 3) := by decide +kernel
theorem dX7_copyFrom_40 : decode cX7_copyFrom 40 = .ok (.aload_n 0, 1) := by decide +kernel
theorem dX7_copyFrom_41 : decode cX7_copyFrom 41 = .ok (.aload_n 1, 1) := by decide +kernel
theorem dX7_copyFrom_42 : decode cX7_copyFrom 42 = .ok (.getfield 49, 3) := by decide +kernel
theorem dX7_copyFrom_45 : decode cX7_copyFrom 45 = .ok (.putfield 49, 3) := by decide +kernel
theorem dX7_copyFrom_48 : decode cX7_copyFrom 48 = .ok (.aload_n 1, 1) := by decide +kernel
theorem dX7_copyFrom_49 : decode cX7_copyFrom 49 = .ok (.getfield 9, 3) := by decide +kernel
theorem dX7_copyFrom_52 : decode cX7_copyFrom 52 = .ok (.iconst 0, 1) := by decide +kernel
theorem dX7_copyFrom_53 : decode cX7_copyFrom 53 = .ok (.aload_n 0, 1) := by decide +kernel
theorem dX7_copyFrom_54 : decode cX7_copyFrom 54 = .ok (.getfield 9, 3) := by decide +kernel
theorem dX7_copyFrom_57 : decode cX7_copyFrom 57 = .ok (.iconst 0, 1) := by decide +kernel
theorem dX7_copyFrom_58 : decode cX7_copyFrom 58 = .ok (.bipush 8, 2) := by decide +kernel
theorem dX7_copyFrom_60 : decode cX7_copyFrom 60 = .ok (.invokestatic 58, 3) := by decide +kernel
theorem dX7_copyFrom_63 : decode cX7_copyFrom 63 = .ok (.aload_n 1, 1) := by decide +kernel
theorem dX7_copyFrom_64 : decode cX7_copyFrom 64 = .ok (.getfield 22, 3) := by decide +kernel
theorem dX7_copyFrom_67 : decode cX7_copyFrom 67 = .ok (.iconst 0, 1) := by decide +kernel
theorem dX7_copyFrom_68 : decode cX7_copyFrom 68 = .ok (.aload_n 0, 1) := by decide +kernel
theorem dX7_copyFrom_69 : decode cX7_copyFrom 69 = .ok (.getfield 22, 3) := by decide +kernel
theorem dX7_copyFrom_72 : decode cX7_copyFrom 72 = .ok (.iconst 0, 1) := by decide +kernel
theorem dX7_copyFrom_73 : decode cX7_copyFrom 73 = .ok (.bipush 8, 2) := by decide +kernel
theorem dX7_copyFrom_75 : decode cX7_copyFrom 75 = .ok (.invokestatic 58, 3) := by decide +kernel
theorem dX7_copyFrom_78 : decode cX7_copyFrom 78 = .ok (.aload_n 1, 1) := by decide +kernel
theorem dX7_copyFrom_79 : decode cX7_copyFrom 79 = .ok (.getfield 25, 3) := by decide +kernel
theorem dX7_copyFrom_82 : decode cX7_copyFrom 82 = .ok (.iconst 0, 1) := by decide +kernel
theorem dX7_copyFrom_83 : decode cX7_copyFrom 83 = .ok (.aload_n 0, 1) := by decide +kernel
theorem dX7_copyFrom_84 : decode cX7_copyFrom 84 = .ok (.getfield 25, 3) := by decide +kernel
theorem dX7_copyFrom_87 : decode cX7_copyFrom 87 = .ok (.iconst 0, 1) := by decide +kernel
theorem dX7_copyFrom_88 : decode cX7_copyFrom 88 = .ok (.bipush 8, 2) := by decide +kernel
theorem dX7_copyFrom_90 : decode cX7_copyFrom 90 = .ok (.invokestatic 58, 3) := by decide +kernel
theorem dX7_copyFrom_93 : decode cX7_copyFrom 93 = .ok (.aload_n 1, 1) := by decide +kernel
theorem dX7_copyFrom_94 : decode cX7_copyFrom 94 = .ok (.getfield 28, 3) := by decide +kernel
theorem dX7_copyFrom_97 : decode cX7_copyFrom 97 = .ok (.iconst 0, 1) := by decide +kernel
theorem dX7_copyFrom_98 : decode cX7_copyFrom 98 = .ok (.aload_n 0, 1) := by decide +kernel
theorem dX7_copyFrom_99 : decode cX7_copyFrom 99 = .ok (.getfield 28, 3) := by decide +kernel
theorem dX7_copyFrom_102 : decode cX7_copyFrom 102 = .ok (.iconst 0, 1) := by decide +kernel
theorem dX7_copyFrom_103 : decode cX7_copyFrom 103 = .ok (.bipush 6, 2) := by decide +kernel
theorem dX7_copyFrom_105 : decode cX7_copyFrom 105 = .ok (.invokestatic 58, 3) := by decide +kernel
theorem dX7_copyFrom_108 : decode cX7_copyFrom 108 = .ok (.aload_n 1, 1) := by decide +kernel
theorem dX7_copyFrom_109 : decode cX7_copyFrom 109 = .ok (.getfield 31, 3) := by decide +kernel
theorem dX7_copyFrom_112 : decode cX7_copyFrom 112 = .ok (.iconst 0, 1) := by decide +kernel
theorem dX7_copyFrom_113 : decode cX7_copyFrom 113 = .ok (.aload_n 0, 1) := by decide +kernel
theorem dX7_copyFrom_114 : decode cX7_copyFrom 114 = .ok (.getfield 31, 3) := by decide +kernel
theorem dX7_copyFrom_117 : decode cX7_copyFrom 117 = .ok (.iconst 0, 1) := by decide +kernel
theorem dX7_copyFrom_118 : decode cX7_copyFrom 118 = .ok (.bipush 36, 2) := by decide +kernel
theorem dX7_copyFrom_120 : decode cX7_copyFrom 120 = .ok (.invokestatic 58, 3) := by decide +kernel
theorem dX7_copyFrom_123 : decode cX7_copyFrom 123 = .ok (.aload_n 1, 1) := by decide +kernel
theorem dX7_copyFrom_124 : decode cX7_copyFrom 124 = .ok (.getfield 34, 3) := by decide +kernel
theorem dX7_copyFrom_127 : decode cX7_copyFrom 127 = .ok (.iconst 0, 1) := by decide +kernel
theorem dX7_copyFrom_128 : decode cX7_copyFrom 128 = .ok (.aload_n 0, 1) := by decide +kernel
theorem dX7_copyFrom_129 : decode cX7_copyFrom 129 = .ok (.getfield 34, 3) := by decide +kernel
theorem dX7_copyFrom_132 : decode cX7_copyFrom 132 = .ok (.iconst 0, 1) := by decide +kernel
theorem dX7_copyFrom_133 : decode cX7_copyFrom 133 = .ok (.bipush 6, 2) := by decide +kernel
theorem dX7_copyFrom_135 : decode cX7_copyFrom 135 = .ok (.invokestatic 58, 3) := by decide +kernel
theorem dX7_copyFrom_138 : decode cX7_copyFrom 138 = .ok (.aload_n 1, 1) := by decide +kernel
theorem dX7_copyFrom_139 : decode cX7_copyFrom 139 = .ok (.getfield 37, 3) := by decide +kernel
theorem dX7_copyFrom_142 : decode cX7_copyFrom 142 = .ok (.iconst 0, 1) := by decide +kernel
theorem dX7_copyFrom_143 : decode cX7_copyFrom 143 = .ok (.aload_n 0, 1) := by decide +kernel
theorem dX7_copyFrom_144 : decode cX7_copyFrom 144 = .ok (.getfield 37, 3) := by decide +kernel
theorem dX7_copyFrom_147 : decode cX7_copyFrom 147 = .ok (.iconst 0, 1) := by decide +kernel
theorem dX7_copyFrom_148 : decode cX7_copyFrom 148 = .ok (.bipush 6, 2) := by decide +kernel
theorem dX7_copyFrom_150 : decode cX7_copyFrom 150 = .ok (.invokestatic 58, 3) := by decide +kernel
theorem dX7_copyFrom_153 : decode cX7_copyFrom 153 = .ok (.return_, 1) := by decide +kernel
theorem dX7_orderAll_0 : decode cX7_orderAll 0 = .ok (.iconst 0, 1) := by decide +kernel
theorem dX7_orderAll_1 : decode cX7_orderAll 1 = .ok (.istore_n 2, 1) := by decide +kernel
theorem dX7_orderAll_2 : decode cX7_orderAll 2 = .ok (.iload_n 2, 1) := by decide +kernel
theorem dX7_orderAll_3 : decode cX7_orderAll 3 = .ok (.iload_n 1, 1) := by decide +kernel
theorem dX7_orderAll_4 : decode cX7_orderAll 4 = .ok (.if_icmp .ge 16, 3) := by decide +kernel
theorem dX7_orderAll_7 : decode cX7_orderAll 7 = .ok (.aload_n 0, 1) := by decide +kernel
theorem dX7_orderAll_8 : decode cX7_orderAll 8 = .ok (.getfield 9, 3) := by decide +kernel
theorem dX7_orderAll_11 : decode cX7_orderAll 11 = .ok (.iload_n 2, 1) := by decide +kernel
theorem dX7_orderAll_12 : decode cX7_orderAll 12 = .ok (.iload_n 2, 1) := by decide +kernel
theorem dX7_orderAll_13 : decode cX7_orderAll 13 = .ok (.iastore, 1) := by decide +kernel
theorem dX7_orderAll_14 : decode cX7_orderAll 14 = .ok (.iinc 2 1, 3) := by decide +kernel
theorem dX7_orderAll_17 : decode cX7_orderAll 17 = .ok (.goto (-15), 3) := by decide +kernel
theorem dX7_orderAll_20 : decode cX7_orderAll 20 = .ok (.aload_n 0, 1) := by decide +kernel
theorem dX7_orderAll_21 : decode cX7_orderAll 21 = .ok (.iload_n 1, 1) := by decide +kernel
theorem dX7_orderAll_22 : decode cX7_orderAll 22 = .ok (.putfield 15, 3) := by decide +kernel
theorem dX7_orderAll_25 : decode cX7_orderAll 25 = .ok (.return_, 1) := by decide +kernel
theorem dX7_orderAnew_0 : decode cX7_orderAnew 0 = .ok (.aload_n 1, 1) := by decide +kernel
theorem dX7_orderAnew_1 : decode cX7_orderAnew 1 = .ok (.iconst 0, 1) := by decide +kernel
theorem dX7_orderAnew_2 : decode cX7_orderAnew 2 = .ok (.aload_n 0, 1) := by decide +kernel
theorem dX7_orderAnew_3 : decode cX7_orderAnew 3 = .ok (.getfield 9, 3) := by decide +kernel
theorem dX7_orderAnew_6 : decode cX7_orderAnew 6 = .ok (.iconst 0, 1) := by decide +kernel
theorem dX7_orderAnew_7 : decode cX7_orderAnew 7 = .ok (.aload_n 0, 1) := by decide +kernel
theorem dX7_orderAnew_8 : decode cX7_orderAnew 8 = .ok (.getfield 15, 3) := by decide +kernel
theorem dX7_orderAnew_11 : decode cX7_orderAnew 11 = .ok (.invokestatic 58, 3) := by decide +kernel
theorem dX7_orderAnew_14 : decode cX7_orderAnew 14 = .ok (.aload_n 0, 1) := by decide +kernel
theorem dX7_orderAnew_15 : decode cX7_orderAnew 15 = .ok (.iconst 0, 1) := by decide +kernel
theorem dX7_orderAnew_16 : decode cX7_orderAnew 16 = .ok (.putfield 19, 3) := by decide +kernel
theorem dX7_orderAnew_19 : decode cX7_orderAnew 19 = .ok (.return_, 1) := by decide +kernel
theorem dX7_placeOf_0 : decode cX7_placeOf 0 = .ok (.iconst 0, 1) := by decide +kernel
theorem dX7_placeOf_1 : decode cX7_placeOf 1 = .ok (.istore_n 2, 1) := by decide +kernel
theorem dX7_placeOf_2 : decode cX7_placeOf 2 = .ok (.iload_n 2, 1) := by decide +kernel
theorem dX7_placeOf_3 : decode cX7_placeOf 3 = .ok (.aload_n 0, 1) := by decide +kernel
theorem dX7_placeOf_4 : decode cX7_placeOf 4 = .ok (.getfield 15, 3) := by decide +kernel
theorem dX7_placeOf_7 : decode cX7_placeOf 7 = .ok (.if_icmp .ge 21, 3) := by decide +kernel
theorem dX7_placeOf_10 : decode cX7_placeOf 10 = .ok (.aload_n 0, 1) := by decide +kernel
theorem dX7_placeOf_11 : decode cX7_placeOf 11 = .ok (.getfield 9, 3) := by decide +kernel
theorem dX7_placeOf_14 : decode cX7_placeOf 14 = .ok (.iload_n 2, 1) := by decide +kernel
theorem dX7_placeOf_15 : decode cX7_placeOf 15 = .ok (.iaload, 1) := by decide +kernel
theorem dX7_placeOf_16 : decode cX7_placeOf 16 = .ok (.iload_n 1, 1) := by decide +kernel
theorem dX7_placeOf_17 : decode cX7_placeOf 17 = .ok (.if_icmp .ne 5, 3) := by decide +kernel
theorem dX7_placeOf_20 : decode cX7_placeOf 20 = .ok (.iload_n 2, 1) := by decide +kernel
theorem dX7_placeOf_21 : decode cX7_placeOf 21 = .ok (.ireturn, 1) := by decide +kernel
theorem dX7_placeOf_22 : decode cX7_placeOf 22 = .ok (.iinc 2 1, 3) := by decide +kernel
theorem dX7_placeOf_25 : decode cX7_placeOf 25 = .ok (.goto (-23), 3) := by decide +kernel
theorem dX7_placeOf_28 : decode cX7_placeOf 28 = .ok (.iconst (-1), 1) := by decide +kernel
theorem dX7_placeOf_29 : decode cX7_placeOf 29 = .ok (.ireturn, 1) := by decide +kernel
theorem dX7_nextPlace_0 : decode cX7_nextPlace 0 = .ok (.iconst 0, 1) := by decide +kernel
theorem dX7_nextPlace_1 : decode cX7_nextPlace 1 = .ok (.istore_n 1, 1) := by decide +kernel
theorem dX7_nextPlace_2 : decode cX7_nextPlace 2 = .ok (.iload_n 1, 1) := by decide +kernel
theorem dX7_nextPlace_3 : decode cX7_nextPlace 3 = .ok (.aload_n 0, 1) := by decide +kernel
theorem dX7_nextPlace_4 : decode cX7_nextPlace 4 = .ok (.getfield 15, 3) := by decide +kernel
theorem dX7_nextPlace_7 : decode cX7_nextPlace 7 = .ok (.if_icmp .ge 61, 3) := by decide +kernel
theorem dX7_nextPlace_10 : decode cX7_nextPlace 10 = .ok (.aload_n 0, 1) := by decide +kernel
theorem dX7_nextPlace_11 : decode cX7_nextPlace 11 = .ok (.getfield 19, 3) := by decide +kernel
theorem dX7_nextPlace_14 : decode cX7_nextPlace 14 = .ok (.iload_n 1, 1) := by decide +kernel
theorem dX7_nextPlace_15 : decode cX7_nextPlace 15 = .ok (.iadd, 1) := by decide +kernel
theorem dX7_nextPlace_16 : decode cX7_nextPlace 16 = .ok (.aload_n 0, 1) := by decide +kernel
theorem dX7_nextPlace_17 : decode cX7_nextPlace 17 = .ok (.getfield 15, 3) := by decide +kernel
theorem dX7_nextPlace_20 : decode cX7_nextPlace 20 = .ok (.if_icmp .ge 12, 3) := by decide +kernel
theorem dX7_nextPlace_23 : decode cX7_nextPlace 23 = .ok (.aload_n 0, 1) := by decide +kernel
theorem dX7_nextPlace_24 : decode cX7_nextPlace 24 = .ok (.getfield 19, 3) := by decide +kernel
theorem dX7_nextPlace_27 : decode cX7_nextPlace 27 = .ok (.iload_n 1, 1) := by decide +kernel
theorem dX7_nextPlace_28 : decode cX7_nextPlace 28 = .ok (.iadd, 1) := by decide +kernel
theorem dX7_nextPlace_29 : decode cX7_nextPlace 29 = .ok (.goto 14, 3) := by decide +kernel
theorem dX7_nextPlace_32 : decode cX7_nextPlace 32 = .ok (.aload_n 0, 1) := by decide +kernel
theorem dX7_nextPlace_33 : decode cX7_nextPlace 33 = .ok (.getfield 19, 3) := by decide +kernel
theorem dX7_nextPlace_36 : decode cX7_nextPlace 36 = .ok (.iload_n 1, 1) := by decide +kernel
theorem dX7_nextPlace_37 : decode cX7_nextPlace 37 = .ok (.iadd, 1) := by decide +kernel
theorem dX7_nextPlace_38 : decode cX7_nextPlace 38 = .ok (.aload_n 0, 1) := by decide +kernel
theorem dX7_nextPlace_39 : decode cX7_nextPlace 39 = .ok (.getfield 15, 3) := by decide +kernel
theorem dX7_nextPlace_42 : decode cX7_nextPlace 42 = .ok (.isub, 1) := by decide +kernel
theorem dX7_nextPlace_43 : decode cX7_nextPlace 43 = .ok (.istore_n 2, 1) := by decide +kernel
theorem dX7_nextPlace_44 : decode cX7_nextPlace 44 = .ok (.aload_n 0, 1) := by decide +kernel
theorem dX7_nextPlace_45 : decode cX7_nextPlace 45 = .ok (.getfield 40, 3) := by decide +kernel
theorem dX7_nextPlace_48 : decode cX7_nextPlace 48 = .ok (.aload_n 0, 1) := by decide +kernel
theorem dX7_nextPlace_49 : decode cX7_nextPlace 49 = .ok (.getfield 9, 3) := by decide +kernel
theorem dX7_nextPlace_52 : decode cX7_nextPlace 52 = .ok (.iload_n 2, 1) := by decide +kernel
theorem dX7_nextPlace_53 : decode cX7_nextPlace 53 = .ok (.iaload, 1) := by decide +kernel
theorem dX7_nextPlace_54 : decode cX7_nextPlace 54 = .ok (.invokestatic 64, 3) := by decide +kernel
theorem dX7_nextPlace_57 : decode cX7_nextPlace 57 = .ok (.ifCond .ne 5, 3) := by decide +kernel
theorem dX7_nextPlace_60 : decode cX7_nextPlace 60 = .ok (.iload_n 2, 1) := by decide +kernel
theorem dX7_nextPlace_61 : decode cX7_nextPlace 61 = .ok (.ireturn, 1) := by decide +kernel
theorem dX7_nextPlace_62 : decode cX7_nextPlace 62 = .ok (.iinc 1 1, 3) := by decide +kernel
theorem dX7_nextPlace_65 : decode cX7_nextPlace 65 = .ok (.goto (-63), 3) := by decide +kernel
theorem dX7_nextPlace_68 : decode cX7_nextPlace 68 = .ok (.iconst (-1), 1) := by decide +kernel
theorem dX7_nextPlace_69 : decode cX7_nextPlace 69 = .ok (.ireturn, 1) := by decide +kernel
theorem dX7_usedInAll_0 : decode cX7_usedInAll 0 = .ok (.iconst 0, 1) := by decide +kernel
theorem dX7_usedInAll_1 : decode cX7_usedInAll 1 = .ok (.istore_n 1, 1) := by decide +kernel
theorem dX7_usedInAll_2 : decode cX7_usedInAll 2 = .ok (.iconst 0, 1) := by decide +kernel
theorem dX7_usedInAll_3 : decode cX7_usedInAll 3 = .ok (.istore_n 2, 1) := by decide +kernel
theorem dX7_usedInAll_4 : decode cX7_usedInAll 4 = .ok (.iload_n 2, 1) := by decide +kernel
theorem dX7_usedInAll_5 : decode cX7_usedInAll 5 = .ok (.bipush 6, 2) := by decide +kernel
theorem dX7_usedInAll_7 : decode cX7_usedInAll 7 = .ok (.if_icmp .ge 18, 3) := by decide +kernel
theorem dX7_usedInAll_10 : decode cX7_usedInAll 10 = .ok (.iload_n 1, 1) := by decide +kernel
theorem dX7_usedInAll_11 : decode cX7_usedInAll 11 = .ok (.aload_n 0, 1) := by decide +kernel
theorem dX7_usedInAll_12 : decode cX7_usedInAll 12 = .ok (.getfield 34, 3) := by decide +kernel
theorem dX7_usedInAll_15 : decode cX7_usedInAll 15 = .ok (.iload_n 2, 1) := by decide +kernel
theorem dX7_usedInAll_16 : decode cX7_usedInAll 16 = .ok (.iaload, 1) := by decide +kernel
theorem dX7_usedInAll_17 : decode cX7_usedInAll 17 = .ok (.iadd, 1) := by decide +kernel
theorem dX7_usedInAll_18 : decode cX7_usedInAll 18 = .ok (.istore_n 1, 1) := by decide +kernel
theorem dX7_usedInAll_19 : decode cX7_usedInAll 19 = .ok (.iinc 2 1, 3) := by decide +kernel
theorem dX7_usedInAll_22 : decode cX7_usedInAll 22 = .ok (.goto (-18), 3) := by decide +kernel
theorem dX7_usedInAll_25 : decode cX7_usedInAll 25 = .ok (.iload_n 1, 1) := by decide +kernel
theorem dX7_usedInAll_26 : decode cX7_usedInAll 26 = .ok (.ireturn, 1) := by decide +kernel
theorem dX7_freeOf_0 : decode cX7_freeOf 0 = .ok (.aload_n 1, 1) := by decide +kernel
theorem dX7_freeOf_1 : decode cX7_freeOf 1 = .ok (.getfield 68, 3) := by decide +kernel
theorem dX7_freeOf_4 : decode cX7_freeOf 4 = .ok (.iload_n 2, 1) := by decide +kernel
theorem dX7_freeOf_5 : decode cX7_freeOf 5 = .ok (.iaload, 1) := by decide +kernel
theorem dX7_freeOf_6 : decode cX7_freeOf 6 = .ok (.aload_n 0, 1) := by decide +kernel
theorem dX7_freeOf_7 : decode cX7_freeOf 7 = .ok (.getfield 34, 3) := by decide +kernel
theorem dX7_freeOf_10 : decode cX7_freeOf 10 = .ok (.iload_n 2, 1) := by decide +kernel
theorem dX7_freeOf_11 : decode cX7_freeOf 11 = .ok (.iaload, 1) := by decide +kernel
theorem dX7_freeOf_12 : decode cX7_freeOf 12 = .ok (.isub, 1) := by decide +kernel
theorem dX7_freeOf_13 : decode cX7_freeOf 13 = .ok (.ireturn, 1) := by decide +kernel
theorem dX7_cellsKnowing_0 : decode cX7_cellsKnowing 0 = .ok (.iconst 0, 1) := by decide +kernel
theorem dX7_cellsKnowing_1 : decode cX7_cellsKnowing 1 = .ok (.istore_n 2, 1) := by decide +kernel
theorem dX7_cellsKnowing_2 : decode cX7_cellsKnowing 2 = .ok (.iconst 0, 1) := by decide +kernel
theorem dX7_cellsKnowing_3 : decode cX7_cellsKnowing 3 = .ok (.istore_n 3, 1) := by decide +kernel
theorem dX7_cellsKnowing_4 : decode cX7_cellsKnowing 4 = .ok (.iload_n 3, 1) := by decide +kernel
theorem dX7_cellsKnowing_5 : decode cX7_cellsKnowing 5 = .ok (.bipush 8, 2) := by decide +kernel
theorem dX7_cellsKnowing_7 : decode cX7_cellsKnowing 7 = .ok (.if_icmp .ge 32, 3) := by decide +kernel
theorem dX7_cellsKnowing_10 : decode cX7_cellsKnowing 10 = .ok (.iload_n 2, 1) := by decide +kernel
theorem dX7_cellsKnowing_11 : decode cX7_cellsKnowing 11 = .ok (.aload_n 0, 1) := by decide +kernel
theorem dX7_cellsKnowing_12 : decode cX7_cellsKnowing 12 = .ok (.getfield 22, 3) := by decide +kernel
theorem dX7_cellsKnowing_15 : decode cX7_cellsKnowing 15 = .ok (.iload_n 3, 1) := by decide +kernel
theorem dX7_cellsKnowing_16 : decode cX7_cellsKnowing 16 = .ok (.iaload, 1) := by decide +kernel
theorem dX7_cellsKnowing_17 : decode cX7_cellsKnowing 17 = .ok (.iload_n 1, 1) := by decide +kernel
theorem dX7_cellsKnowing_18 : decode cX7_cellsKnowing 18 = .ok (.invokestatic 64, 3) := by decide +kernel
theorem dX7_cellsKnowing_21 : decode cX7_cellsKnowing 21 = .ok (.ifCond .eq 9, 3) := by decide +kernel
theorem dX7_cellsKnowing_24 : decode cX7_cellsKnowing 24 = .ok (.iconst 1, 1) := by decide +kernel
theorem dX7_cellsKnowing_25 : decode cX7_cellsKnowing 25 = .ok (.iload_n 3, 1) := by decide +kernel
theorem dX7_cellsKnowing_26 : decode cX7_cellsKnowing 26 = .ok (.ishl, 1) := by decide +kernel
theorem dX7_cellsKnowing_27 : decode cX7_cellsKnowing 27 = .ok (.goto 4, 3) := by decide +kernel
theorem dX7_cellsKnowing_30 : decode cX7_cellsKnowing 30 = .ok (.iconst 0, 1) := by decide +kernel
theorem dX7_cellsKnowing_31 : decode cX7_cellsKnowing 31 = .ok (.ior, 1) := by decide +kernel
theorem dX7_cellsKnowing_32 : decode cX7_cellsKnowing 32 = .ok (.istore_n 2, 1) := by decide +kernel
theorem dX7_cellsKnowing_33 : decode cX7_cellsKnowing 33 = .ok (.iinc 3 1, 3) := by decide +kernel
theorem dX7_cellsKnowing_36 : decode cX7_cellsKnowing 36 = .ok (.goto (-32), 3) := by decide +kernel
theorem dX7_cellsKnowing_39 : decode cX7_cellsKnowing 39 = .ok (.iload_n 2, 1) := by decide +kernel
theorem dX7_cellsKnowing_40 : decode cX7_cellsKnowing 40 = .ok (.ireturn, 1) := by decide +kernel
theorem dX7_isReached_0 : decode cX7_isReached 0 = .ok (.iconst 0, 1) := by decide +kernel
theorem dX7_isReached_1 : decode cX7_isReached 1 = .ok (.istore_n 3, 1) := by decide +kernel
theorem dX7_isReached_2 : decode cX7_isReached 2 = .ok (.iload_n 3, 1) := by decide +kernel
theorem dX7_isReached_3 : decode cX7_isReached 3 = .ok (.bipush 8, 2) := by decide +kernel
theorem dX7_isReached_5 : decode cX7_isReached 5 = .ok (.if_icmp .ge 32, 3) := by decide +kernel
theorem dX7_isReached_8 : decode cX7_isReached 8 = .ok (.iload_n 1, 1) := by decide +kernel
theorem dX7_isReached_9 : decode cX7_isReached 9 = .ok (.iload_n 3, 1) := by decide +kernel
theorem dX7_isReached_10 : decode cX7_isReached 10 = .ok (.invokestatic 64, 3) := by decide +kernel
theorem dX7_isReached_13 : decode cX7_isReached 13 = .ok (.ifCond .eq 18, 3) := by decide +kernel
theorem dX7_isReached_16 : decode cX7_isReached 16 = .ok (.iload_n 2, 1) := by decide +kernel
theorem dX7_isReached_17 : decode cX7_isReached 17 = .ok (.aload_n 0, 1) := by decide +kernel
theorem dX7_isReached_18 : decode cX7_isReached 18 = .ok (.getfield 22, 3) := by decide +kernel
theorem dX7_isReached_21 : decode cX7_isReached 21 = .ok (.iload_n 3, 1) := by decide +kernel
theorem dX7_isReached_22 : decode cX7_isReached 22 = .ok (.iaload, 1) := by decide +kernel
theorem dX7_isReached_23 : decode cX7_isReached 23 = .ok (.iconst (-1), 1) := by decide +kernel
theorem dX7_isReached_24 : decode cX7_isReached 24 = .ok (.ixor, 1) := by decide +kernel
theorem dX7_isReached_25 : decode cX7_isReached 25 = .ok (.iand, 1) := by decide +kernel
theorem dX7_isReached_26 : decode cX7_isReached 26 = .ok (.ifCond .eq 5, 3) := by decide +kernel
theorem dX7_isReached_29 : decode cX7_isReached 29 = .ok (.iconst 0, 1) := by decide +kernel
theorem dX7_isReached_30 : decode cX7_isReached 30 = .ok (.ireturn, 1) := by decide +kernel
theorem dX7_isReached_31 : decode cX7_isReached 31 = .ok (.iinc 3 1, 3) := by decide +kernel
theorem dX7_isReached_34 : decode cX7_isReached 34 = .ok (.goto (-32), 3) := by decide +kernel
theorem dX7_isReached_37 : decode cX7_isReached 37 = .ok (.iconst 1, 1) := by decide +kernel
theorem dX7_isReached_38 : decode cX7_isReached 38 = .ok (.ireturn, 1) := by decide +kernel
theorem dX7_swapPlaces_0 : decode cX7_swapPlaces 0 = .ok (.aload_n 0, 1) := by decide +kernel
theorem dX7_swapPlaces_1 : decode cX7_swapPlaces 1 = .ok (.iload_n 1, 1) := by decide +kernel
theorem dX7_swapPlaces_2 : decode cX7_swapPlaces 2 = .ok (.invokevirtual 73, 3) := by decide +kernel
theorem dX7_swapPlaces_5 : decode cX7_swapPlaces 5 = .ok (.istore_n 3, 1) := by decide +kernel
theorem dX7_swapPlaces_6 : decode cX7_swapPlaces 6 = .ok (.aload_n 0, 1) := by decide +kernel
theorem dX7_swapPlaces_7 : decode cX7_swapPlaces 7 = .ok (.iload_n 2, 1) := by decide +kernel
theorem dX7_swapPlaces_8 : decode cX7_swapPlaces 8 = .ok (.invokevirtual 73, 3) := by decide +kernel
theorem dX7_swapPlaces_11 : decode cX7_swapPlaces 11 = .ok (.istore 4, 2) := by decide +kernel
theorem dX7_swapPlaces_13 : decode cX7_swapPlaces 13 = .ok (.iload_n 3, 1) := by decide +kernel
theorem dX7_swapPlaces_14 : decode cX7_swapPlaces 14 = .ok (.iload 4, 2) := by decide +kernel
theorem dX7_swapPlaces_16 : decode cX7_swapPlaces 16 = .ok (.if_icmp .eq 14, 3) := by decide +kernel
theorem dX7_swapPlaces_19 : decode cX7_swapPlaces 19 = .ok (.iload_n 3, 1) := by decide +kernel
theorem dX7_swapPlaces_20 : decode cX7_swapPlaces 20 = .ok (.iconst (-1), 1) := by decide +kernel
theorem dX7_swapPlaces_21 : decode cX7_swapPlaces 21 = .ok (.if_icmp .eq 9, 3) := by decide +kernel
theorem dX7_swapPlaces_24 : decode cX7_swapPlaces 24 = .ok (.iload 4, 2) := by decide +kernel
theorem dX7_swapPlaces_26 : decode cX7_swapPlaces 26 = .ok (.iconst (-1), 1) := by decide +kernel
theorem dX7_swapPlaces_27 : decode cX7_swapPlaces 27 = .ok (.if_icmp .ne 5, 3) := by decide +kernel
theorem dX7_swapPlaces_30 : decode cX7_swapPlaces 30 = .ok (.iconst 0, 1) := by decide +kernel
theorem dX7_swapPlaces_31 : decode cX7_swapPlaces 31 = .ok (.ireturn, 1) := by decide +kernel
theorem dX7_swapPlaces_32 : decode cX7_swapPlaces 32 = .ok (.aload_n 0, 1) := by decide +kernel
theorem dX7_swapPlaces_33 : decode cX7_swapPlaces 33 = .ok (.getfield 9, 3) := by decide +kernel
theorem dX7_swapPlaces_36 : decode cX7_swapPlaces 36 = .ok (.iload_n 3, 1) := by decide +kernel
theorem dX7_swapPlaces_37 : decode cX7_swapPlaces 37 = .ok (.iload_n 2, 1) := by decide +kernel
theorem dX7_swapPlaces_38 : decode cX7_swapPlaces 38 = .ok (.iastore, 1) := by decide +kernel
theorem dX7_swapPlaces_39 : decode cX7_swapPlaces 39 = .ok (.aload_n 0, 1) := by decide +kernel
theorem dX7_swapPlaces_40 : decode cX7_swapPlaces 40 = .ok (.getfield 9, 3) := by decide +kernel
theorem dX7_swapPlaces_43 : decode cX7_swapPlaces 43 = .ok (.iload 4, 2) := by decide +kernel
theorem dX7_swapPlaces_45 : decode cX7_swapPlaces 45 = .ok (.iload_n 1, 1) := by decide +kernel
theorem dX7_swapPlaces_46 : decode cX7_swapPlaces 46 = .ok (.iastore, 1) := by decide +kernel
theorem dX7_swapPlaces_47 : decode cX7_swapPlaces 47 = .ok (.iconst 1, 1) := by decide +kernel
theorem dX7_swapPlaces_48 : decode cX7_swapPlaces 48 = .ok (.ireturn, 1) := by decide +kernel
theorem dX7_erasePage_0 : decode cX7_erasePage 0 = .ok (.aload_n 0, 1) := by decide +kernel
theorem dX7_erasePage_1 : decode cX7_erasePage 1 = .ok (.getfield 34, 3) := by decide +kernel
theorem dX7_erasePage_4 : decode cX7_erasePage 4 = .ok (.iload_n 1, 1) := by decide +kernel
theorem dX7_erasePage_5 : decode cX7_erasePage 5 = .ok (.iaload, 1) := by decide +kernel
theorem dX7_erasePage_6 : decode cX7_erasePage 6 = .ok (.istore_n 2, 1) := by decide +kernel
theorem dX7_erasePage_7 : decode cX7_erasePage 7 = .ok (.iconst 0, 1) := by decide +kernel
theorem dX7_erasePage_8 : decode cX7_erasePage 8 = .ok (.istore_n 3, 1) := by decide +kernel
theorem dX7_erasePage_9 : decode cX7_erasePage 9 = .ok (.iload_n 3, 1) := by decide +kernel
theorem dX7_erasePage_10 : decode cX7_erasePage 10 = .ok (.bipush 6, 2) := by decide +kernel
theorem dX7_erasePage_12 : decode cX7_erasePage 12 = .ok (.if_icmp .ge 21, 3) := by decide +kernel
theorem dX7_erasePage_15 : decode cX7_erasePage 15 = .ok (.aload_n 0, 1) := by decide +kernel
theorem dX7_erasePage_16 : decode cX7_erasePage 16 = .ok (.getfield 31, 3) := by decide +kernel
theorem dX7_erasePage_19 : decode cX7_erasePage 19 = .ok (.iload_n 1, 1) := by decide +kernel
theorem dX7_erasePage_20 : decode cX7_erasePage 20 = .ok (.bipush 6, 2) := by decide +kernel
theorem dX7_erasePage_22 : decode cX7_erasePage 22 = .ok (.imul, 1) := by decide +kernel
theorem dX7_erasePage_23 : decode cX7_erasePage 23 = .ok (.iload_n 3, 1) := by decide +kernel
theorem dX7_erasePage_24 : decode cX7_erasePage 24 = .ok (.iadd, 1) := by decide +kernel
theorem dX7_erasePage_25 : decode cX7_erasePage 25 = .ok (.iconst 0, 1) := by decide +kernel
theorem dX7_erasePage_26 : decode cX7_erasePage 26 = .ok (.iastore, 1) := by decide +kernel
theorem dX7_erasePage_27 : decode cX7_erasePage 27 = .ok (.iinc 3 1, 3) := by decide +kernel
theorem dX7_erasePage_30 : decode cX7_erasePage 30 = .ok (.goto (-21), 3) := by decide +kernel
theorem dX7_erasePage_33 : decode cX7_erasePage 33 = .ok (.aload_n 0, 1) := by decide +kernel
theorem dX7_erasePage_34 : decode cX7_erasePage 34 = .ok (.getfield 34, 3) := by decide +kernel
theorem dX7_erasePage_37 : decode cX7_erasePage 37 = .ok (.iload_n 1, 1) := by decide +kernel
theorem dX7_erasePage_38 : decode cX7_erasePage 38 = .ok (.iconst 0, 1) := by decide +kernel
theorem dX7_erasePage_39 : decode cX7_erasePage 39 = .ok (.iastore, 1) := by decide +kernel
theorem dX7_erasePage_40 : decode cX7_erasePage 40 = .ok (.aload_n 0, 1) := by decide +kernel
theorem dX7_erasePage_41 : decode cX7_erasePage 41 = .ok (.getfield 37, 3) := by decide +kernel
theorem dX7_erasePage_44 : decode cX7_erasePage 44 = .ok (.iload_n 1, 1) := by decide +kernel
theorem dX7_erasePage_45 : decode cX7_erasePage 45 = .ok (.iconst 0, 1) := by decide +kernel
theorem dX7_erasePage_46 : decode cX7_erasePage 46 = .ok (.iastore, 1) := by decide +kernel
theorem dX7_erasePage_47 : decode cX7_erasePage 47 = .ok (.iload_n 2, 1) := by decide +kernel
theorem dX7_erasePage_48 : decode cX7_erasePage 48 = .ok (.ireturn, 1) := by decide +kernel
theorem dX7_goOn_0 : decode cX7_goOn 0 = .ok (.aload_n 0, 1) := by decide +kernel
theorem dX7_goOn_1 : decode cX7_goOn 1 = .ok (.invokevirtual 77, 3) := by decide +kernel
theorem dX7_goOn_4 : decode cX7_goOn 4 = .ok (.istore_n 1, 1) := by decide +kernel
theorem dX7_goOn_5 : decode cX7_goOn 5 = .ok (.iload_n 1, 1) := by decide +kernel
theorem dX7_goOn_6 : decode cX7_goOn 6 = .ok (.iconst (-1), 1) := by decide +kernel
theorem dX7_goOn_7 : decode cX7_goOn 7 = .ok (.if_icmp .ne 5, 3) := by decide +kernel
theorem dX7_goOn_10 : decode cX7_goOn 10 = .ok (.iconst (-1), 1) := by decide +kernel
theorem dX7_goOn_11 : decode cX7_goOn 11 = .ok (.ireturn, 1) := by decide +kernel
theorem dX7_goOn_12 : decode cX7_goOn 12 = .ok (.aload_n 0, 1) := by decide +kernel
theorem dX7_goOn_13 : decode cX7_goOn 13 = .ok (.iload_n 1, 1) := by decide +kernel
theorem dX7_goOn_14 : decode cX7_goOn 14 = .ok (.iconst 1, 1) := by decide +kernel
theorem dX7_goOn_15 : decode cX7_goOn 15 = .ok (.iadd, 1) := by decide +kernel
theorem dX7_goOn_16 : decode cX7_goOn 16 = .ok (.aload_n 0, 1) := by decide +kernel
theorem dX7_goOn_17 : decode cX7_goOn 17 = .ok (.getfield 15, 3) := by decide +kernel
theorem dX7_goOn_20 : decode cX7_goOn 20 = .ok (.if_icmp .ge 9, 3) := by decide +kernel
theorem dX7_goOn_23 : decode cX7_goOn 23 = .ok (.iload_n 1, 1) := by decide +kernel
theorem dX7_goOn_24 : decode cX7_goOn 24 = .ok (.iconst 1, 1) := by decide +kernel
theorem dX7_goOn_25 : decode cX7_goOn 25 = .ok (.iadd, 1) := by decide +kernel
theorem dX7_goOn_26 : decode cX7_goOn 26 = .ok (.goto 4, 3) := by decide +kernel
theorem dX7_goOn_29 : decode cX7_goOn 29 = .ok (.iconst 0, 1) := by decide +kernel
theorem dX7_goOn_30 : decode cX7_goOn 30 = .ok (.putfield 19, 3) := by decide +kernel
theorem dX7_goOn_33 : decode cX7_goOn 33 = .ok (.aload_n 0, 1) := by decide +kernel
theorem dX7_goOn_34 : decode cX7_goOn 34 = .ok (.getfield 9, 3) := by decide +kernel
theorem dX7_goOn_37 : decode cX7_goOn 37 = .ok (.iload_n 1, 1) := by decide +kernel
theorem dX7_goOn_38 : decode cX7_goOn 38 = .ok (.iaload, 1) := by decide +kernel
theorem dX7_goOn_39 : decode cX7_goOn 39 = .ok (.ireturn, 1) := by decide +kernel
theorem dX7_pass_0 : decode cX7_pass 0 = .ok (.aload_n 0, 1) := by decide +kernel
theorem dX7_pass_1 : decode cX7_pass 1 = .ok (.dup, 1) := by decide +kernel
theorem dX7_pass_2 : decode cX7_pass 2 = .ok (.getfield 46, 3) := by decide +kernel
theorem dX7_pass_5 : decode cX7_pass 5 = .ok (.iconst 1, 1) := by decide +kernel
theorem dX7_pass_6 : decode cX7_pass 6 = .ok (.iadd, 1) := by decide +kernel
theorem dX7_pass_7 : decode cX7_pass 7 = .ok (.putfield 46, 3) := by decide +kernel
theorem dX7_pass_10 : decode cX7_pass 10 = .ok (.aload_n 0, 1) := by decide +kernel
theorem dX7_pass_11 : decode cX7_pass 11 = .ok (.invokevirtual 81, 3) := by decide +kernel
theorem dX7_pass_14 : decode cX7_pass 14 = .ok (.istore_n 2, 1) := by decide +kernel
theorem dX7_pass_15 : decode cX7_pass 15 = .ok (.iload_n 2, 1) := by decide +kernel
theorem dX7_pass_16 : decode cX7_pass 16 = .ok (.iconst (-1), 1) := by decide +kernel
theorem dX7_pass_17 : decode cX7_pass 17 = .ok (.if_icmp .ne 5, 3) := by decide +kernel
theorem dX7_pass_20 : decode cX7_pass 20 = .ok (.iconst 0, 1) := by decide +kernel
theorem dX7_pass_21 : decode cX7_pass 21 = .ok (.ireturn, 1) := by decide +kernel
theorem dX7_pass_22 : decode cX7_pass 22 = .ok (.aload_n 0, 1) := by decide +kernel
theorem dX7_pass_23 : decode cX7_pass 23 = .ok (.getfield 22, 3) := by decide +kernel
theorem dX7_pass_26 : decode cX7_pass 26 = .ok (.iload_n 2, 1) := by decide +kernel
theorem dX7_pass_27 : decode cX7_pass 27 = .ok (.iaload, 1) := by decide +kernel
theorem dX7_pass_28 : decode cX7_pass 28 = .ok (.istore_n 3, 1) := by decide +kernel
theorem dX7_pass_29 : decode cX7_pass 29 = .ok (.aload_n 0, 1) := by decide +kernel
theorem dX7_pass_30 : decode cX7_pass 30 = .ok (.getfield 49, 3) := by decide +kernel
theorem dX7_pass_33 : decode cX7_pass 33 = .ok (.istore 4, 2) := by decide +kernel
theorem dX7_pass_35 : decode cX7_pass 35 = .ok (.aload_n 1, 1) := by decide +kernel
theorem dX7_pass_36 : decode cX7_pass 36 = .ok (.getfield 84, 3) := by decide +kernel
theorem dX7_pass_39 : decode cX7_pass 39 = .ok (.iload_n 2, 1) := by decide +kernel
theorem dX7_pass_40 : decode cX7_pass 40 = .ok (.invokestatic 64, 3) := by decide +kernel
theorem dX7_pass_43 : decode cX7_pass 43 = .ok (.ifCond .ne 34, 3) := by decide +kernel
theorem dX7_pass_46 : decode cX7_pass 46 = .ok (.aload_n 0, 1) := by decide +kernel
theorem dX7_pass_47 : decode cX7_pass 47 = .ok (.getfield 22, 3) := by decide +kernel
theorem dX7_pass_50 : decode cX7_pass 50 = .ok (.iload_n 2, 1) := by decide +kernel
theorem dX7_pass_51 : decode cX7_pass 51 = .ok (.dup2, 1) := by decide +kernel
theorem dX7_pass_52 : decode cX7_pass 52 = .ok (.iaload, 1) := by decide +kernel
theorem dX7_pass_53 : decode cX7_pass 53 = .ok (.aload_n 0, 1) := by decide +kernel
theorem dX7_pass_54 : decode cX7_pass 54 = .ok (.aload_n 1, 1) := by decide +kernel
theorem dX7_pass_55 : decode cX7_pass 55 = .ok (.invokevirtual 87, 3) := by decide +kernel
theorem dX7_pass_58 : decode cX7_pass 58 = .ok (.ior, 1) := by decide +kernel
theorem dX7_pass_59 : decode cX7_pass 59 = .ok (.iastore, 1) := by decide +kernel
theorem dX7_pass_60 : decode cX7_pass 60 = .ok (.aload_n 1, 1) := by decide +kernel
theorem dX7_pass_61 : decode cX7_pass 61 = .ok (.getfield 91, 3) := by decide +kernel
theorem dX7_pass_64 : decode cX7_pass 64 = .ok (.iload_n 2, 1) := by decide +kernel
theorem dX7_pass_65 : decode cX7_pass 65 = .ok (.invokestatic 64, 3) := by decide +kernel
theorem dX7_pass_68 : decode cX7_pass 68 = .ok (.ifCond .eq 9, 3) := by decide +kernel
theorem dX7_pass_71 : decode cX7_pass 71 = .ok (.aload_n 0, 1) := by decide +kernel
theorem dX7_pass_72 : decode cX7_pass 72 = .ok (.aload_n 1, 1) := by decide +kernel
theorem dX7_pass_73 : decode cX7_pass 73 = .ok (.iload_n 3, 1) := by decide +kernel
theorem dX7_pass_74 : decode cX7_pass 74 = .ok (.invokevirtual 94, 3) := by decide +kernel
theorem dX7_pass_77 : decode cX7_pass 77 = .ok (.aload_n 0, 1) := by decide +kernel
theorem dX7_pass_78 : decode cX7_pass 78 = .ok (.aload_n 1, 1) := by decide +kernel
theorem dX7_pass_79 : decode cX7_pass 79 = .ok (.iload_n 2, 1) := by decide +kernel
theorem dX7_pass_80 : decode cX7_pass 80 = .ok (.invokevirtual 98, 3) := by decide +kernel
theorem dX7_pass_83 : decode cX7_pass 83 = .ok (.aload_n 0, 1) := by decide +kernel
theorem dX7_pass_84 : decode cX7_pass 84 = .ok (.getfield 22, 3) := by decide +kernel
theorem dX7_pass_87 : decode cX7_pass 87 = .ok (.iload_n 2, 1) := by decide +kernel
theorem dX7_pass_88 : decode cX7_pass 88 = .ok (.iaload, 1) := by decide +kernel
theorem dX7_pass_89 : decode cX7_pass 89 = .ok (.iload_n 3, 1) := by decide +kernel
theorem dX7_pass_90 : decode cX7_pass 90 = .ok (.if_icmp .ne 12, 3) := by decide +kernel
theorem dX7_pass_93 : decode cX7_pass 93 = .ok (.aload_n 0, 1) := by decide +kernel
theorem dX7_pass_94 : decode cX7_pass 94 = .ok (.getfield 49, 3) := by decide +kernel
theorem dX7_pass_97 : decode cX7_pass 97 = .ok (.iload 4, 2) := by decide +kernel
theorem dX7_pass_99 : decode cX7_pass 99 = .ok (.if_icmp .eq 7, 3) := by decide +kernel
theorem dX7_pass_102 : decode cX7_pass 102 = .ok (.iconst 1, 1) := by decide +kernel
theorem dX7_pass_103 : decode cX7_pass 103 = .ok (.goto 4, 3) := by decide +kernel
theorem dX7_pass_106 : decode cX7_pass 106 = .ok (.iconst 0, 1) := by decide +kernel
theorem dX7_pass_107 : decode cX7_pass 107 = .ok (.ireturn, 1) := by decide +kernel
theorem dX7_passMany_0 : decode cX7_passMany 0 = .ok (.iconst 0, 1) := by decide +kernel
theorem dX7_passMany_1 : decode cX7_passMany 1 = .ok (.istore_n 3, 1) := by decide +kernel
theorem dX7_passMany_2 : decode cX7_passMany 2 = .ok (.iconst 0, 1) := by decide +kernel
theorem dX7_passMany_3 : decode cX7_passMany 3 = .ok (.istore 4, 2) := by decide +kernel
theorem dX7_passMany_5 : decode cX7_passMany 5 = .ok (.iload_n 3, 1) := by decide +kernel
theorem dX7_passMany_6 : decode cX7_passMany 6 = .ok (.iload_n 2, 1) := by decide +kernel
theorem dX7_passMany_7 : decode cX7_passMany 7 = .ok (.if_icmp .ge 36, 3) := by decide +kernel
theorem dX7_passMany_10 : decode cX7_passMany 10 = .ok (.iload 4, 2) := by decide +kernel
theorem dX7_passMany_12 : decode cX7_passMany 12 = .ok (.aload_n 0, 1) := by decide +kernel
theorem dX7_passMany_13 : decode cX7_passMany 13 = .ok (.getfield 15, 3) := by decide +kernel
theorem dX7_passMany_16 : decode cX7_passMany 16 = .ok (.if_icmp .ge 27, 3) := by decide +kernel
theorem dX7_passMany_19 : decode cX7_passMany 19 = .ok (.aload_n 0, 1) := by decide +kernel
theorem dX7_passMany_20 : decode cX7_passMany 20 = .ok (.aload_n 1, 1) := by decide +kernel
theorem dX7_passMany_21 : decode cX7_passMany 21 = .ok (.invokevirtual 101, 3) := by decide +kernel
theorem dX7_passMany_24 : decode cX7_passMany 24 = .ok (.ifCond .eq 7, 3) := by decide +kernel
theorem dX7_passMany_27 : decode cX7_passMany 27 = .ok (.iconst 0, 1) := by decide +kernel
theorem dX7_passMany_28 : decode cX7_passMany 28 = .ok (.goto 7, 3) := by decide +kernel
theorem dX7_passMany_31 : decode cX7_passMany 31 = .ok (.iload 4, 2) := by decide +kernel
theorem dX7_passMany_33 : decode cX7_passMany 33 = .ok (.iconst 1, 1) := by decide +kernel
theorem dX7_passMany_34 : decode cX7_passMany 34 = .ok (.iadd, 1) := by decide +kernel
theorem dX7_passMany_35 : decode cX7_passMany 35 = .ok (.istore 4, 2) := by decide +kernel
theorem dX7_passMany_37 : decode cX7_passMany 37 = .ok (.iinc 3 1, 3) := by decide +kernel
theorem dX7_passMany_40 : decode cX7_passMany 40 = .ok (.goto (-35), 3) := by decide +kernel
theorem dX7_passMany_43 : decode cX7_passMany 43 = .ok (.aload_n 0, 1) := by decide +kernel
theorem dX7_passMany_44 : decode cX7_passMany 44 = .ok (.iload_n 2, 1) := by decide +kernel
theorem dX7_passMany_45 : decode cX7_passMany 45 = .ok (.iload_n 3, 1) := by decide +kernel
theorem dX7_passMany_46 : decode cX7_passMany 46 = .ok (.isub, 1) := by decide +kernel
theorem dX7_passMany_47 : decode cX7_passMany 47 = .ok (.invokevirtual 105, 3) := by decide +kernel
theorem dX7_passMany_50 : decode cX7_passMany 50 = .ok (.return_, 1) := by decide +kernel
theorem dX7_skip_0 : decode cX7_skip 0 = .ok (.iconst 0, 1) := by decide +kernel
theorem dX7_skip_1 : decode cX7_skip 1 = .ok (.istore_n 2, 1) := by decide +kernel
theorem dX7_skip_2 : decode cX7_skip 2 = .ok (.iconst 0, 1) := by decide +kernel
theorem dX7_skip_3 : decode cX7_skip 3 = .ok (.istore_n 3, 1) := by decide +kernel
theorem dX7_skip_4 : decode cX7_skip 4 = .ok (.iload_n 3, 1) := by decide +kernel
theorem dX7_skip_5 : decode cX7_skip 5 = .ok (.aload_n 0, 1) := by decide +kernel
theorem dX7_skip_6 : decode cX7_skip 6 = .ok (.getfield 15, 3) := by decide +kernel
theorem dX7_skip_9 : decode cX7_skip 9 = .ok (.if_icmp .ge 33, 3) := by decide +kernel
theorem dX7_skip_12 : decode cX7_skip 12 = .ok (.iload_n 2, 1) := by decide +kernel
theorem dX7_skip_13 : decode cX7_skip 13 = .ok (.aload_n 0, 1) := by decide +kernel
theorem dX7_skip_14 : decode cX7_skip 14 = .ok (.getfield 40, 3) := by decide +kernel
theorem dX7_skip_17 : decode cX7_skip 17 = .ok (.aload_n 0, 1) := by decide +kernel
theorem dX7_skip_18 : decode cX7_skip 18 = .ok (.getfield 9, 3) := by decide +kernel
theorem dX7_skip_21 : decode cX7_skip 21 = .ok (.iload_n 3, 1) := by decide +kernel
theorem dX7_skip_22 : decode cX7_skip 22 = .ok (.iaload, 1) := by decide +kernel
theorem dX7_skip_23 : decode cX7_skip 23 = .ok (.invokestatic 64, 3) := by decide +kernel
theorem dX7_skip_26 : decode cX7_skip 26 = .ok (.ifCond .eq 7, 3) := by decide +kernel
theorem dX7_skip_29 : decode cX7_skip 29 = .ok (.iconst 0, 1) := by decide +kernel
theorem dX7_skip_30 : decode cX7_skip 30 = .ok (.goto 4, 3) := by decide +kernel
theorem dX7_skip_33 : decode cX7_skip 33 = .ok (.iconst 1, 1) := by decide +kernel
theorem dX7_skip_34 : decode cX7_skip 34 = .ok (.iadd, 1) := by decide +kernel
theorem dX7_skip_35 : decode cX7_skip 35 = .ok (.istore_n 2, 1) := by decide +kernel
theorem dX7_skip_36 : decode cX7_skip 36 = .ok (.iinc 3 1, 3) := by decide +kernel
theorem dX7_skip_39 : decode cX7_skip 39 = .ok (.goto (-35), 3) := by decide +kernel
theorem dX7_skip_42 : decode cX7_skip 42 = .ok (.aload_n 0, 1) := by decide +kernel
theorem dX7_skip_43 : decode cX7_skip 43 = .ok (.dup, 1) := by decide +kernel
theorem dX7_skip_44 : decode cX7_skip 44 = .ok (.getfield 46, 3) := by decide +kernel
theorem dX7_skip_47 : decode cX7_skip 47 = .ok (.iload_n 1, 1) := by decide +kernel
theorem dX7_skip_48 : decode cX7_skip 48 = .ok (.iadd, 1) := by decide +kernel
theorem dX7_skip_49 : decode cX7_skip 49 = .ok (.putfield 46, 3) := by decide +kernel
theorem dX7_skip_52 : decode cX7_skip 52 = .ok (.iload_n 1, 1) := by decide +kernel
theorem dX7_skip_53 : decode cX7_skip 53 = .ok (.ifCond .le 17, 3) := by decide +kernel
theorem dX7_skip_56 : decode cX7_skip 56 = .ok (.iload_n 2, 1) := by decide +kernel
theorem dX7_skip_57 : decode cX7_skip 57 = .ok (.ifCond .le 13, 3) := by decide +kernel
theorem dX7_skip_60 : decode cX7_skip 60 = .ok (.iload_n 1, 1) := by decide +kernel
theorem dX7_skip_61 : decode cX7_skip 61 = .ok (.iconst 1, 1) := by decide +kernel
theorem dX7_skip_62 : decode cX7_skip 62 = .ok (.isub, 1) := by decide +kernel
theorem dX7_skip_63 : decode cX7_skip 63 = .ok (.iload_n 2, 1) := by decide +kernel
theorem dX7_skip_64 : decode cX7_skip 64 = .ok (.irem, 1) := by decide +kernel
theorem dX7_skip_65 : decode cX7_skip 65 = .ok (.iconst 1, 1) := by decide +kernel
theorem dX7_skip_66 : decode cX7_skip 66 = .ok (.iadd, 1) := by decide +kernel
theorem dX7_skip_67 : decode cX7_skip 67 = .ok (.goto 4, 3) := by decide +kernel
theorem dX7_skip_70 : decode cX7_skip 70 = .ok (.iconst 0, 1) := by decide +kernel
theorem dX7_skip_71 : decode cX7_skip 71 = .ok (.istore_n 3, 1) := by decide +kernel
theorem dX7_skip_72 : decode cX7_skip 72 = .ok (.iconst 0, 1) := by decide +kernel
theorem dX7_skip_73 : decode cX7_skip 73 = .ok (.istore 4, 2) := by decide +kernel
theorem dX7_skip_75 : decode cX7_skip 75 = .ok (.iload 4, 2) := by decide +kernel
theorem dX7_skip_77 : decode cX7_skip 77 = .ok (.iload_n 3, 1) := by decide +kernel
theorem dX7_skip_78 : decode cX7_skip 78 = .ok (.if_icmp .ge 14, 3) := by decide +kernel
theorem dX7_skip_81 : decode cX7_skip 81 = .ok (.aload_n 0, 1) := by decide +kernel
theorem dX7_skip_82 : decode cX7_skip 82 = .ok (.invokevirtual 81, 3) := by decide +kernel
theorem dX7_skip_85 : decode cX7_skip 85 = .ok (.pop, 1) := by decide +kernel
theorem dX7_skip_86 : decode cX7_skip 86 = .ok (.iinc 4 1, 3) := by decide +kernel
theorem dX7_skip_89 : decode cX7_skip 89 = .ok (.goto (-14), 3) := by decide +kernel
theorem dX7_skip_92 : decode cX7_skip 92 = .ok (.return_, 1) := by decide +kernel
theorem dX7_standingInAll_0 : decode cX7_standingInAll 0 = .ok (.iconst 0, 1) := by decide +kernel
theorem dX7_standingInAll_1 : decode cX7_standingInAll 1 = .ok (.istore_n 2, 1) := by decide +kernel
theorem dX7_standingInAll_2 : decode cX7_standingInAll 2 = .ok (.iconst 0, 1) := by decide +kernel
theorem dX7_standingInAll_3 : decode cX7_standingInAll 3 = .ok (.istore_n 3, 1) := by decide +kernel
theorem dX7_standingInAll_4 : decode cX7_standingInAll 4 = .ok (.iload_n 3, 1) := by decide +kernel
theorem dX7_standingInAll_5 : decode cX7_standingInAll 5 = .ok (.aload_n 1, 1) := by decide +kernel
theorem dX7_standingInAll_6 : decode cX7_standingInAll 6 = .ok (.getfield 109, 3) := by decide +kernel
theorem dX7_standingInAll_9 : decode cX7_standingInAll 9 = .ok (.if_icmp .ge 33, 3) := by decide +kernel
theorem dX7_standingInAll_12 : decode cX7_standingInAll 12 = .ok (.iload_n 2, 1) := by decide +kernel
theorem dX7_standingInAll_13 : decode cX7_standingInAll 13 = .ok (.aload_n 0, 1) := by decide +kernel
theorem dX7_standingInAll_14 : decode cX7_standingInAll 14 = .ok (.getfield 43, 3) := by decide +kernel
theorem dX7_standingInAll_17 : decode cX7_standingInAll 17 = .ok (.iload_n 3, 1) := by decide +kernel
theorem dX7_standingInAll_18 : decode cX7_standingInAll 18 = .ok (.invokestatic 64, 3) := by decide +kernel
theorem dX7_standingInAll_21 : decode cX7_standingInAll 21 = .ok (.ifCond .eq 7, 3) := by decide +kernel
theorem dX7_standingInAll_24 : decode cX7_standingInAll 24 = .ok (.iconst 0, 1) := by decide +kernel
theorem dX7_standingInAll_25 : decode cX7_standingInAll 25 = .ok (.goto 9, 3) := by decide +kernel
theorem dX7_standingInAll_28 : decode cX7_standingInAll 28 = .ok (.aload_n 0, 1) := by decide +kernel
theorem dX7_standingInAll_29 : decode cX7_standingInAll 29 = .ok (.getfield 37, 3) := by decide +kernel
theorem dX7_standingInAll_32 : decode cX7_standingInAll 32 = .ok (.iload_n 3, 1) := by decide +kernel
theorem dX7_standingInAll_33 : decode cX7_standingInAll 33 = .ok (.iaload, 1) := by decide +kernel
theorem dX7_standingInAll_34 : decode cX7_standingInAll 34 = .ok (.ior, 1) := by decide +kernel
theorem dX7_standingInAll_35 : decode cX7_standingInAll 35 = .ok (.istore_n 2, 1) := by decide +kernel
theorem dX7_standingInAll_36 : decode cX7_standingInAll 36 = .ok (.iinc 3 1, 3) := by decide +kernel
theorem dX7_standingInAll_39 : decode cX7_standingInAll 39 = .ok (.goto (-35), 3) := by decide +kernel
theorem dX7_standingInAll_42 : decode cX7_standingInAll 42 = .ok (.iload_n 2, 1) := by decide +kernel
theorem dX7_standingInAll_43 : decode cX7_standingInAll 43 = .ok (.ireturn, 1) := by decide +kernel
theorem dX7_eraseFirstNew_0 : decode cX7_eraseFirstNew 0 = .ok (.iconst 0, 1) := by decide +kernel
theorem dX7_eraseFirstNew_1 : decode cX7_eraseFirstNew 1 = .ok (.istore_n 3, 1) := by decide +kernel
theorem dX7_eraseFirstNew_2 : decode cX7_eraseFirstNew 2 = .ok (.iload_n 3, 1) := by decide +kernel
theorem dX7_eraseFirstNew_3 : decode cX7_eraseFirstNew 3 = .ok (.aload_n 1, 1) := by decide +kernel
theorem dX7_eraseFirstNew_4 : decode cX7_eraseFirstNew 4 = .ok (.getfield 109, 3) := by decide +kernel
theorem dX7_eraseFirstNew_7 : decode cX7_eraseFirstNew 7 = .ok (.if_icmp .ge 77, 3) := by decide +kernel
theorem dX7_eraseFirstNew_10 : decode cX7_eraseFirstNew 10 = .ok (.aload_n 0, 1) := by decide +kernel
theorem dX7_eraseFirstNew_11 : decode cX7_eraseFirstNew 11 = .ok (.getfield 43, 3) := by decide +kernel
theorem dX7_eraseFirstNew_14 : decode cX7_eraseFirstNew 14 = .ok (.iload_n 3, 1) := by decide +kernel
theorem dX7_eraseFirstNew_15 : decode cX7_eraseFirstNew 15 = .ok (.invokestatic 64, 3) := by decide +kernel
theorem dX7_eraseFirstNew_18 : decode cX7_eraseFirstNew 18 = .ok (.ifCond .eq 7, 3) := by decide +kernel
theorem dX7_eraseFirstNew_21 : decode cX7_eraseFirstNew 21 = .ok (.iconst 0, 1) := by decide +kernel
theorem dX7_eraseFirstNew_22 : decode cX7_eraseFirstNew 22 = .ok (.goto 13, 3) := by decide +kernel
theorem dX7_eraseFirstNew_25 : decode cX7_eraseFirstNew 25 = .ok (.aload_n 0, 1) := by decide +kernel
theorem dX7_eraseFirstNew_26 : decode cX7_eraseFirstNew 26 = .ok (.getfield 37, 3) := by decide +kernel
theorem dX7_eraseFirstNew_29 : decode cX7_eraseFirstNew 29 = .ok (.iload_n 3, 1) := by decide +kernel
theorem dX7_eraseFirstNew_30 : decode cX7_eraseFirstNew 30 = .ok (.iaload, 1) := by decide +kernel
theorem dX7_eraseFirstNew_31 : decode cX7_eraseFirstNew 31 = .ok (.iload_n 2, 1) := by decide +kernel
theorem dX7_eraseFirstNew_32 : decode cX7_eraseFirstNew 32 = .ok (.iconst (-1), 1) := by decide +kernel
theorem dX7_eraseFirstNew_33 : decode cX7_eraseFirstNew 33 = .ok (.ixor, 1) := by decide +kernel
theorem dX7_eraseFirstNew_34 : decode cX7_eraseFirstNew 34 = .ok (.iand, 1) := by decide +kernel
theorem dX7_eraseFirstNew_35 : decode cX7_eraseFirstNew 35 = .ok (.istore 4, 2) := by decide +kernel
theorem dX7_eraseFirstNew_37 : decode cX7_eraseFirstNew 37 = .ok (.iconst 0, 1) := by decide +kernel
theorem dX7_eraseFirstNew_38 : decode cX7_eraseFirstNew 38 = .ok (.istore 5, 2) := by decide +kernel
theorem dX7_eraseFirstNew_40 : decode cX7_eraseFirstNew 40 = .ok (.iload 5, 2) := by decide +kernel
theorem dX7_eraseFirstNew_42 : decode cX7_eraseFirstNew 42 = .ok (.aload_n 1, 1) := by decide +kernel
theorem dX7_eraseFirstNew_43 : decode cX7_eraseFirstNew 43 = .ok (.getfield 112, 3) := by decide +kernel
theorem dX7_eraseFirstNew_46 : decode cX7_eraseFirstNew 46 = .ok (.if_icmp .ge 32, 3) := by decide +kernel
theorem dX7_eraseFirstNew_49 : decode cX7_eraseFirstNew 49 = .ok (.iload 4, 2) := by decide +kernel
theorem dX7_eraseFirstNew_51 : decode cX7_eraseFirstNew 51 = .ok (.ifCond .eq 27, 3) := by decide +kernel
theorem dX7_eraseFirstNew_54 : decode cX7_eraseFirstNew 54 = .ok (.iload 4, 2) := by decide +kernel
theorem dX7_eraseFirstNew_56 : decode cX7_eraseFirstNew 56 = .ok (.iload 5, 2) := by decide +kernel
theorem dX7_eraseFirstNew_58 : decode cX7_eraseFirstNew 58 = .ok (.invokestatic 64, 3) := by decide +kernel
theorem dX7_eraseFirstNew_61 : decode cX7_eraseFirstNew 61 = .ok (.ifCond .eq 11, 3) := by decide +kernel
theorem dX7_eraseFirstNew_64 : decode cX7_eraseFirstNew 64 = .ok (.aload_n 0, 1) := by decide +kernel
theorem dX7_eraseFirstNew_65 : decode cX7_eraseFirstNew 65 = .ok (.iload_n 3, 1) := by decide +kernel
theorem dX7_eraseFirstNew_66 : decode cX7_eraseFirstNew 66 = .ok (.iload 5, 2) := by decide +kernel
theorem dX7_eraseFirstNew_68 : decode cX7_eraseFirstNew 68 = .ok (.invokevirtual 115, 3) := by decide +kernel
theorem dX7_eraseFirstNew_71 : decode cX7_eraseFirstNew 71 = .ok (.return_, 1) := by decide +kernel
theorem dX7_eraseFirstNew_72 : decode cX7_eraseFirstNew 72 = .ok (.iinc 5 1, 3) := by decide +kernel
theorem dX7_eraseFirstNew_75 : decode cX7_eraseFirstNew 75 = .ok (.goto (-35), 3) := by decide +kernel
theorem dX7_eraseFirstNew_78 : decode cX7_eraseFirstNew 78 = .ok (.iinc 3 1, 3) := by decide +kernel
theorem dX7_eraseFirstNew_81 : decode cX7_eraseFirstNew 81 = .ok (.goto (-79), 3) := by decide +kernel
theorem dX7_eraseFirstNew_84 : decode cX7_eraseFirstNew 84 = .ok (.return_, 1) := by decide +kernel
theorem dX7_eraseSecret_0 : decode cX7_eraseSecret 0 = .ok (.iload_n 1, 1) := by decide +kernel
theorem dX7_eraseSecret_1 : decode cX7_eraseSecret 1 = .ok (.bipush 6, 2) := by decide +kernel
theorem dX7_eraseSecret_3 : decode cX7_eraseSecret 3 = .ok (.imul, 1) := by decide +kernel
theorem dX7_eraseSecret_4 : decode cX7_eraseSecret 4 = .ok (.iload_n 2, 1) := by decide +kernel
theorem dX7_eraseSecret_5 : decode cX7_eraseSecret 5 = .ok (.iadd, 1) := by decide +kernel
theorem dX7_eraseSecret_6 : decode cX7_eraseSecret 6 = .ok (.istore_n 3, 1) := by decide +kernel
theorem dX7_eraseSecret_7 : decode cX7_eraseSecret 7 = .ok (.aload_n 0, 1) := by decide +kernel
theorem dX7_eraseSecret_8 : decode cX7_eraseSecret 8 = .ok (.getfield 34, 3) := by decide +kernel
theorem dX7_eraseSecret_11 : decode cX7_eraseSecret 11 = .ok (.iload_n 1, 1) := by decide +kernel
theorem dX7_eraseSecret_12 : decode cX7_eraseSecret 12 = .ok (.dup2, 1) := by decide +kernel
theorem dX7_eraseSecret_13 : decode cX7_eraseSecret 13 = .ok (.iaload, 1) := by decide +kernel
theorem dX7_eraseSecret_14 : decode cX7_eraseSecret 14 = .ok (.aload_n 0, 1) := by decide +kernel
theorem dX7_eraseSecret_15 : decode cX7_eraseSecret 15 = .ok (.getfield 31, 3) := by decide +kernel
theorem dX7_eraseSecret_18 : decode cX7_eraseSecret 18 = .ok (.iload_n 3, 1) := by decide +kernel
theorem dX7_eraseSecret_19 : decode cX7_eraseSecret 19 = .ok (.iaload, 1) := by decide +kernel
theorem dX7_eraseSecret_20 : decode cX7_eraseSecret 20 = .ok (.isub, 1) := by decide +kernel
theorem dX7_eraseSecret_21 : decode cX7_eraseSecret 21 = .ok (.iastore, 1) := by decide +kernel
theorem dX7_eraseSecret_22 : decode cX7_eraseSecret 22 = .ok (.aload_n 0, 1) := by decide +kernel
theorem dX7_eraseSecret_23 : decode cX7_eraseSecret 23 = .ok (.getfield 31, 3) := by decide +kernel
theorem dX7_eraseSecret_26 : decode cX7_eraseSecret 26 = .ok (.iload_n 3, 1) := by decide +kernel
theorem dX7_eraseSecret_27 : decode cX7_eraseSecret 27 = .ok (.iconst 0, 1) := by decide +kernel
theorem dX7_eraseSecret_28 : decode cX7_eraseSecret 28 = .ok (.iastore, 1) := by decide +kernel
theorem dX7_eraseSecret_29 : decode cX7_eraseSecret 29 = .ok (.aload_n 0, 1) := by decide +kernel
theorem dX7_eraseSecret_30 : decode cX7_eraseSecret 30 = .ok (.getfield 37, 3) := by decide +kernel
theorem dX7_eraseSecret_33 : decode cX7_eraseSecret 33 = .ok (.iload_n 1, 1) := by decide +kernel
theorem dX7_eraseSecret_34 : decode cX7_eraseSecret 34 = .ok (.dup2, 1) := by decide +kernel
theorem dX7_eraseSecret_35 : decode cX7_eraseSecret 35 = .ok (.iaload, 1) := by decide +kernel
theorem dX7_eraseSecret_36 : decode cX7_eraseSecret 36 = .ok (.iconst 1, 1) := by decide +kernel
theorem dX7_eraseSecret_37 : decode cX7_eraseSecret 37 = .ok (.iload_n 2, 1) := by decide +kernel
theorem dX7_eraseSecret_38 : decode cX7_eraseSecret 38 = .ok (.ishl, 1) := by decide +kernel
theorem dX7_eraseSecret_39 : decode cX7_eraseSecret 39 = .ok (.iconst (-1), 1) := by decide +kernel
theorem dX7_eraseSecret_40 : decode cX7_eraseSecret 40 = .ok (.ixor, 1) := by decide +kernel
theorem dX7_eraseSecret_41 : decode cX7_eraseSecret 41 = .ok (.iand, 1) := by decide +kernel
theorem dX7_eraseSecret_42 : decode cX7_eraseSecret 42 = .ok (.iastore, 1) := by decide +kernel
theorem dX7_eraseSecret_43 : decode cX7_eraseSecret 43 = .ok (.return_, 1) := by decide +kernel
theorem dX7_makePricks_0 : decode cX7_makePricks 0 = .ok (.aload_n 1, 1) := by decide +kernel
theorem dX7_makePricks_1 : decode cX7_makePricks 1 = .ok (.getfield 119, 3) := by decide +kernel
theorem dX7_makePricks_4 : decode cX7_makePricks 4 = .ok (.iload_n 2, 1) := by decide +kernel
theorem dX7_makePricks_5 : decode cX7_makePricks 5 = .ok (.iaload, 1) := by decide +kernel
theorem dX7_makePricks_6 : decode cX7_makePricks 6 = .ok (.istore_n 3, 1) := by decide +kernel
theorem dX7_makePricks_7 : decode cX7_makePricks 7 = .ok (.aload_n 0, 1) := by decide +kernel
theorem dX7_makePricks_8 : decode cX7_makePricks 8 = .ok (.getfield 22, 3) := by decide +kernel
theorem dX7_makePricks_11 : decode cX7_makePricks 11 = .ok (.iload_n 2, 1) := by decide +kernel
theorem dX7_makePricks_12 : decode cX7_makePricks 12 = .ok (.iaload, 1) := by decide +kernel
theorem dX7_makePricks_13 : decode cX7_makePricks 13 = .ok (.aload_n 0, 1) := by decide +kernel
theorem dX7_makePricks_14 : decode cX7_makePricks 14 = .ok (.aload_n 1, 1) := by decide +kernel
theorem dX7_makePricks_15 : decode cX7_makePricks 15 = .ok (.invokevirtual 87, 3) := by decide +kernel
theorem dX7_makePricks_18 : decode cX7_makePricks 18 = .ok (.iconst (-1), 1) := by decide +kernel
theorem dX7_makePricks_19 : decode cX7_makePricks 19 = .ok (.ixor, 1) := by decide +kernel
theorem dX7_makePricks_20 : decode cX7_makePricks 20 = .ok (.iand, 1) := by decide +kernel
theorem dX7_makePricks_21 : decode cX7_makePricks 21 = .ok (.istore 4, 2) := by decide +kernel
theorem dX7_makePricks_23 : decode cX7_makePricks 23 = .ok (.iconst 0, 1) := by decide +kernel
theorem dX7_makePricks_24 : decode cX7_makePricks 24 = .ok (.istore 5, 2) := by decide +kernel
theorem dX7_makePricks_26 : decode cX7_makePricks 26 = .ok (.iload 5, 2) := by decide +kernel
theorem dX7_makePricks_28 : decode cX7_makePricks 28 = .ok (.aload_n 1, 1) := by decide +kernel
theorem dX7_makePricks_29 : decode cX7_makePricks 29 = .ok (.getfield 112, 3) := by decide +kernel
theorem dX7_makePricks_32 : decode cX7_makePricks 32 = .ok (.if_icmp .ge 55, 3) := by decide +kernel
theorem dX7_makePricks_35 : decode cX7_makePricks 35 = .ok (.iload_n 3, 1) := by decide +kernel
theorem dX7_makePricks_36 : decode cX7_makePricks 36 = .ok (.ifCond .le 51, 3) := by decide +kernel
theorem dX7_makePricks_39 : decode cX7_makePricks 39 = .ok (.iload 4, 2) := by decide +kernel
theorem dX7_makePricks_41 : decode cX7_makePricks 41 = .ok (.iload 5, 2) := by decide +kernel
theorem dX7_makePricks_43 : decode cX7_makePricks 43 = .ok (.invokestatic 64, 3) := by decide +kernel
theorem dX7_makePricks_46 : decode cX7_makePricks 46 = .ok (.ifCond .eq 13, 3) := by decide +kernel
theorem dX7_makePricks_49 : decode cX7_makePricks 49 = .ok (.aload_n 0, 1) := by decide +kernel
theorem dX7_makePricks_50 : decode cX7_makePricks 50 = .ok (.aload_n 1, 1) := by decide +kernel
theorem dX7_makePricks_51 : decode cX7_makePricks 51 = .ok (.iload 5, 2) := by decide +kernel
theorem dX7_makePricks_53 : decode cX7_makePricks 53 = .ok (.invokevirtual 122, 3) := by decide +kernel
theorem dX7_makePricks_56 : decode cX7_makePricks 56 = .ok (.goto 4, 3) := by decide +kernel
theorem dX7_makePricks_59 : decode cX7_makePricks 59 = .ok (.iconst (-1), 1) := by decide +kernel
theorem dX7_makePricks_60 : decode cX7_makePricks 60 = .ok (.istore 6, 2) := by decide +kernel
theorem dX7_makePricks_62 : decode cX7_makePricks 62 = .ok (.iload 6, 2) := by decide +kernel
theorem dX7_makePricks_64 : decode cX7_makePricks 64 = .ok (.iconst (-1), 1) := by decide +kernel
theorem dX7_makePricks_65 : decode cX7_makePricks 65 = .ok (.if_icmp .eq 16, 3) := by decide +kernel
theorem dX7_makePricks_68 : decode cX7_makePricks 68 = .ok (.iload_n 3, 1) := by decide +kernel
theorem dX7_makePricks_69 : decode cX7_makePricks 69 = .ok (.aload_n 0, 1) := by decide +kernel
theorem dX7_makePricks_70 : decode cX7_makePricks 70 = .ok (.aload_n 1, 1) := by decide +kernel
theorem dX7_makePricks_71 : decode cX7_makePricks 71 = .ok (.iload 6, 2) := by decide +kernel
theorem dX7_makePricks_73 : decode cX7_makePricks 73 = .ok (.iload 5, 2) := by decide +kernel
theorem dX7_makePricks_75 : decode cX7_makePricks 75 = .ok (.iload_n 3, 1) := by decide +kernel
theorem dX7_makePricks_76 : decode cX7_makePricks 76 = .ok (.invokevirtual 126, 3) := by decide +kernel
theorem dX7_makePricks_79 : decode cX7_makePricks 79 = .ok (.isub, 1) := by decide +kernel
theorem dX7_makePricks_80 : decode cX7_makePricks 80 = .ok (.istore_n 3, 1) := by decide +kernel
theorem dX7_makePricks_81 : decode cX7_makePricks 81 = .ok (.iinc 5 1, 3) := by decide +kernel
theorem dX7_makePricks_84 : decode cX7_makePricks 84 = .ok (.goto (-58), 3) := by decide +kernel
theorem dX7_makePricks_87 : decode cX7_makePricks 87 = .ok (.aload_n 0, 1) := by decide +kernel
theorem dX7_makePricks_88 : decode cX7_makePricks 88 = .ok (.getfield 25, 3) := by decide +kernel
theorem dX7_makePricks_91 : decode cX7_makePricks 91 = .ok (.iload_n 2, 1) := by decide +kernel
theorem dX7_makePricks_92 : decode cX7_makePricks 92 = .ok (.dup2, 1) := by decide +kernel
theorem dX7_makePricks_93 : decode cX7_makePricks 93 = .ok (.iaload, 1) := by decide +kernel
theorem dX7_makePricks_94 : decode cX7_makePricks 94 = .ok (.aload_n 1, 1) := by decide +kernel
theorem dX7_makePricks_95 : decode cX7_makePricks 95 = .ok (.getfield 119, 3) := by decide +kernel
theorem dX7_makePricks_98 : decode cX7_makePricks 98 = .ok (.iload_n 2, 1) := by decide +kernel
theorem dX7_makePricks_99 : decode cX7_makePricks 99 = .ok (.iaload, 1) := by decide +kernel
theorem dX7_makePricks_100 : decode cX7_makePricks 100 = .ok (.iload_n 3, 1) := by decide +kernel
theorem dX7_makePricks_101 : decode cX7_makePricks 101 = .ok (.isub, 1) := by decide +kernel
theorem dX7_makePricks_102 : decode cX7_makePricks 102 = .ok (.iadd, 1) := by decide +kernel
theorem dX7_makePricks_103 : decode cX7_makePricks 103 = .ok (.iastore, 1) := by decide +kernel
theorem dX7_makePricks_104 : decode cX7_makePricks 104 = .ok (.aload_n 0, 1) := by decide +kernel
theorem dX7_makePricks_105 : decode cX7_makePricks 105 = .ok (.dup, 1) := by decide +kernel
theorem dX7_makePricks_106 : decode cX7_makePricks 106 = .ok (.getfield 49, 3) := by decide +kernel
theorem dX7_makePricks_109 : decode cX7_makePricks 109 = .ok (.aload_n 1, 1) := by decide +kernel
theorem dX7_makePricks_110 : decode cX7_makePricks 110 = .ok (.getfield 119, 3) := by decide +kernel
theorem dX7_makePricks_113 : decode cX7_makePricks 113 = .ok (.iload_n 2, 1) := by decide +kernel
theorem dX7_makePricks_114 : decode cX7_makePricks 114 = .ok (.iaload, 1) := by decide +kernel
theorem dX7_makePricks_115 : decode cX7_makePricks 115 = .ok (.iload_n 3, 1) := by decide +kernel
theorem dX7_makePricks_116 : decode cX7_makePricks 116 = .ok (.isub, 1) := by decide +kernel
theorem dX7_makePricks_117 : decode cX7_makePricks 117 = .ok (.iadd, 1) := by decide +kernel
theorem dX7_makePricks_118 : decode cX7_makePricks 118 = .ok (.putfield 49, 3) := by decide +kernel
theorem dX7_makePricks_121 : decode cX7_makePricks 121 = .ok (.return_, 1) := by decide +kernel
theorem dX7_pageFor_0 : decode cX7_pageFor 0 = .ok (.iconst (-1), 1) := by decide +kernel
theorem dX7_pageFor_1 : decode cX7_pageFor 1 = .ok (.istore_n 3, 1) := by decide +kernel
theorem dX7_pageFor_2 : decode cX7_pageFor 2 = .ok (.iconst (-1), 1) := by decide +kernel
theorem dX7_pageFor_3 : decode cX7_pageFor 3 = .ok (.istore 4, 2) := by decide +kernel
theorem dX7_pageFor_5 : decode cX7_pageFor 5 = .ok (.iconst 0, 1) := by decide +kernel
theorem dX7_pageFor_6 : decode cX7_pageFor 6 = .ok (.istore 5, 2) := by decide +kernel
theorem dX7_pageFor_8 : decode cX7_pageFor 8 = .ok (.iload 5, 2) := by decide +kernel
theorem dX7_pageFor_10 : decode cX7_pageFor 10 = .ok (.aload_n 1, 1) := by decide +kernel
theorem dX7_pageFor_11 : decode cX7_pageFor 11 = .ok (.getfield 109, 3) := by decide +kernel
theorem dX7_pageFor_14 : decode cX7_pageFor 14 = .ok (.if_icmp .ge 66, 3) := by decide +kernel
theorem dX7_pageFor_17 : decode cX7_pageFor 17 = .ok (.aload_n 0, 1) := by decide +kernel
theorem dX7_pageFor_18 : decode cX7_pageFor 18 = .ok (.getfield 31, 3) := by decide +kernel
theorem dX7_pageFor_21 : decode cX7_pageFor 21 = .ok (.iload 5, 2) := by decide +kernel
theorem dX7_pageFor_23 : decode cX7_pageFor 23 = .ok (.bipush 6, 2) := by decide +kernel
theorem dX7_pageFor_25 : decode cX7_pageFor 25 = .ok (.imul, 1) := by decide +kernel
theorem dX7_pageFor_26 : decode cX7_pageFor 26 = .ok (.iload_n 2, 1) := by decide +kernel
theorem dX7_pageFor_27 : decode cX7_pageFor 27 = .ok (.iadd, 1) := by decide +kernel
theorem dX7_pageFor_28 : decode cX7_pageFor 28 = .ok (.iaload, 1) := by decide +kernel
theorem dX7_pageFor_29 : decode cX7_pageFor 29 = .ok (.istore 6, 2) := by decide +kernel
theorem dX7_pageFor_31 : decode cX7_pageFor 31 = .ok (.aload_n 0, 1) := by decide +kernel
theorem dX7_pageFor_32 : decode cX7_pageFor 32 = .ok (.getfield 43, 3) := by decide +kernel
theorem dX7_pageFor_35 : decode cX7_pageFor 35 = .ok (.iload 5, 2) := by decide +kernel
theorem dX7_pageFor_37 : decode cX7_pageFor 37 = .ok (.invokestatic 64, 3) := by decide +kernel
theorem dX7_pageFor_40 : decode cX7_pageFor 40 = .ok (.ifCond .ne 34, 3) := by decide +kernel
theorem dX7_pageFor_43 : decode cX7_pageFor 43 = .ok (.aload_n 0, 1) := by decide +kernel
theorem dX7_pageFor_44 : decode cX7_pageFor 44 = .ok (.getfield 34, 3) := by decide +kernel
theorem dX7_pageFor_47 : decode cX7_pageFor 47 = .ok (.iload 5, 2) := by decide +kernel
theorem dX7_pageFor_49 : decode cX7_pageFor 49 = .ok (.iaload, 1) := by decide +kernel
theorem dX7_pageFor_50 : decode cX7_pageFor 50 = .ok (.aload_n 1, 1) := by decide +kernel
theorem dX7_pageFor_51 : decode cX7_pageFor 51 = .ok (.getfield 68, 3) := by decide +kernel
theorem dX7_pageFor_54 : decode cX7_pageFor 54 = .ok (.iload 5, 2) := by decide +kernel
theorem dX7_pageFor_56 : decode cX7_pageFor 56 = .ok (.iaload, 1) := by decide +kernel
theorem dX7_pageFor_57 : decode cX7_pageFor 57 = .ok (.if_icmp .ge 17, 3) := by decide +kernel
theorem dX7_pageFor_60 : decode cX7_pageFor 60 = .ok (.iload 6, 2) := by decide +kernel
theorem dX7_pageFor_62 : decode cX7_pageFor 62 = .ok (.iload 4, 2) := by decide +kernel
theorem dX7_pageFor_64 : decode cX7_pageFor 64 = .ok (.if_icmp .le 10, 3) := by decide +kernel
theorem dX7_pageFor_67 : decode cX7_pageFor 67 = .ok (.iload 6, 2) := by decide +kernel
theorem dX7_pageFor_69 : decode cX7_pageFor 69 = .ok (.istore 4, 2) := by decide +kernel
theorem dX7_pageFor_71 : decode cX7_pageFor 71 = .ok (.iload 5, 2) := by decide +kernel
theorem dX7_pageFor_73 : decode cX7_pageFor 73 = .ok (.istore_n 3, 1) := by decide +kernel
theorem dX7_pageFor_74 : decode cX7_pageFor 74 = .ok (.iinc 5 1, 3) := by decide +kernel
theorem dX7_pageFor_77 : decode cX7_pageFor 77 = .ok (.goto (-69), 3) := by decide +kernel
theorem dX7_pageFor_80 : decode cX7_pageFor 80 = .ok (.iload_n 3, 1) := by decide +kernel
theorem dX7_pageFor_81 : decode cX7_pageFor 81 = .ok (.ireturn, 1) := by decide +kernel
theorem dX7_makeOn_0 : decode cX7_makeOn 0 = .ok (.iload_n 2, 1) := by decide +kernel
theorem dX7_makeOn_1 : decode cX7_makeOn 1 = .ok (.bipush 6, 2) := by decide +kernel
theorem dX7_makeOn_3 : decode cX7_makeOn 3 = .ok (.imul, 1) := by decide +kernel
theorem dX7_makeOn_4 : decode cX7_makeOn 4 = .ok (.iload_n 3, 1) := by decide +kernel
theorem dX7_makeOn_5 : decode cX7_makeOn 5 = .ok (.iadd, 1) := by decide +kernel
theorem dX7_makeOn_6 : decode cX7_makeOn 6 = .ok (.istore 5, 2) := by decide +kernel
theorem dX7_makeOn_8 : decode cX7_makeOn 8 = .ok (.aload_n 1, 1) := by decide +kernel
theorem dX7_makeOn_9 : decode cX7_makeOn 9 = .ok (.getfield 130, 3) := by decide +kernel
theorem dX7_makeOn_12 : decode cX7_makeOn 12 = .ok (.iload_n 3, 1) := by decide +kernel
theorem dX7_makeOn_13 : decode cX7_makeOn 13 = .ok (.iaload, 1) := by decide +kernel
theorem dX7_makeOn_14 : decode cX7_makeOn 14 = .ok (.aload_n 0, 1) := by decide +kernel
theorem dX7_makeOn_15 : decode cX7_makeOn 15 = .ok (.getfield 31, 3) := by decide +kernel
theorem dX7_makeOn_18 : decode cX7_makeOn 18 = .ok (.iload 5, 2) := by decide +kernel
theorem dX7_makeOn_20 : decode cX7_makeOn 20 = .ok (.iaload, 1) := by decide +kernel
theorem dX7_makeOn_21 : decode cX7_makeOn 21 = .ok (.isub, 1) := by decide +kernel
theorem dX7_makeOn_22 : decode cX7_makeOn 22 = .ok (.istore 6, 2) := by decide +kernel
theorem dX7_makeOn_24 : decode cX7_makeOn 24 = .ok (.iload 4, 2) := by decide +kernel
theorem dX7_makeOn_26 : decode cX7_makeOn 26 = .ok (.iload 6, 2) := by decide +kernel
theorem dX7_makeOn_28 : decode cX7_makeOn 28 = .ok (.aload_n 0, 1) := by decide +kernel
theorem dX7_makeOn_29 : decode cX7_makeOn 29 = .ok (.aload_n 1, 1) := by decide +kernel
theorem dX7_makeOn_30 : decode cX7_makeOn 30 = .ok (.iload_n 2, 1) := by decide +kernel
theorem dX7_makeOn_31 : decode cX7_makeOn 31 = .ok (.invokevirtual 133, 3) := by decide +kernel
theorem dX7_makeOn_34 : decode cX7_makeOn 34 = .ok (.invokestatic 136, 3) := by decide +kernel
theorem dX7_makeOn_37 : decode cX7_makeOn 37 = .ok (.invokestatic 136, 3) := by decide +kernel
theorem dX7_makeOn_40 : decode cX7_makeOn 40 = .ok (.istore 7, 2) := by decide +kernel
theorem dX7_makeOn_42 : decode cX7_makeOn 42 = .ok (.aload_n 0, 1) := by decide +kernel
theorem dX7_makeOn_43 : decode cX7_makeOn 43 = .ok (.getfield 31, 3) := by decide +kernel
theorem dX7_makeOn_46 : decode cX7_makeOn 46 = .ok (.iload 5, 2) := by decide +kernel
theorem dX7_makeOn_48 : decode cX7_makeOn 48 = .ok (.dup2, 1) := by decide +kernel
theorem dX7_makeOn_49 : decode cX7_makeOn 49 = .ok (.iaload, 1) := by decide +kernel
theorem dX7_makeOn_50 : decode cX7_makeOn 50 = .ok (.iload 7, 2) := by decide +kernel
theorem dX7_makeOn_52 : decode cX7_makeOn 52 = .ok (.iadd, 1) := by decide +kernel
theorem dX7_makeOn_53 : decode cX7_makeOn 53 = .ok (.iastore, 1) := by decide +kernel
theorem dX7_makeOn_54 : decode cX7_makeOn 54 = .ok (.aload_n 0, 1) := by decide +kernel
theorem dX7_makeOn_55 : decode cX7_makeOn 55 = .ok (.getfield 34, 3) := by decide +kernel
theorem dX7_makeOn_58 : decode cX7_makeOn 58 = .ok (.iload_n 2, 1) := by decide +kernel
theorem dX7_makeOn_59 : decode cX7_makeOn 59 = .ok (.dup2, 1) := by decide +kernel
theorem dX7_makeOn_60 : decode cX7_makeOn 60 = .ok (.iaload, 1) := by decide +kernel
theorem dX7_makeOn_61 : decode cX7_makeOn 61 = .ok (.iload 7, 2) := by decide +kernel
theorem dX7_makeOn_63 : decode cX7_makeOn 63 = .ok (.iadd, 1) := by decide +kernel
theorem dX7_makeOn_64 : decode cX7_makeOn 64 = .ok (.iastore, 1) := by decide +kernel
theorem dX7_makeOn_65 : decode cX7_makeOn 65 = .ok (.iload 7, 2) := by decide +kernel
theorem dX7_makeOn_67 : decode cX7_makeOn 67 = .ok (.iload 6, 2) := by decide +kernel
theorem dX7_makeOn_69 : decode cX7_makeOn 69 = .ok (.if_icmp .ne 15, 3) := by decide +kernel
theorem dX7_makeOn_72 : decode cX7_makeOn 72 = .ok (.aload_n 0, 1) := by decide +kernel
theorem dX7_makeOn_73 : decode cX7_makeOn 73 = .ok (.getfield 37, 3) := by decide +kernel
theorem dX7_makeOn_76 : decode cX7_makeOn 76 = .ok (.iload_n 2, 1) := by decide +kernel
theorem dX7_makeOn_77 : decode cX7_makeOn 77 = .ok (.dup2, 1) := by decide +kernel
theorem dX7_makeOn_78 : decode cX7_makeOn 78 = .ok (.iaload, 1) := by decide +kernel
theorem dX7_makeOn_79 : decode cX7_makeOn 79 = .ok (.iconst 1, 1) := by decide +kernel
theorem dX7_makeOn_80 : decode cX7_makeOn 80 = .ok (.iload_n 3, 1) := by decide +kernel
theorem dX7_makeOn_81 : decode cX7_makeOn 81 = .ok (.ishl, 1) := by decide +kernel
theorem dX7_makeOn_82 : decode cX7_makeOn 82 = .ok (.ior, 1) := by decide +kernel
theorem dX7_makeOn_83 : decode cX7_makeOn 83 = .ok (.iastore, 1) := by decide +kernel
theorem dX7_makeOn_84 : decode cX7_makeOn 84 = .ok (.iload 7, 2) := by decide +kernel
theorem dX7_makeOn_86 : decode cX7_makeOn 86 = .ok (.ireturn, 1) := by decide +kernel
theorem dX8_init_0 : decode cX8_init 0 = .ok (.aload_n 0, 1) := by decide +kernel
theorem dX8_init_1 : decode cX8_init 1 = .ok (.invokespecial 3, 3) := by decide +kernel
theorem dX8_init_4 : decode cX8_init 4 = .ok (.aload_n 0, 1) := by decide +kernel
theorem dX8_init_5 : decode cX8_init 5 = .ok (.sipush 900, 3) := by decide +kernel
theorem dX8_init_8 : decode cX8_init 8 = .ok (.newarray .byte, 2) := by decide +kernel
theorem dX8_init_10 : decode cX8_init 10 = .ok (.putfield 9, 3) := by decide +kernel
theorem dX8_init_13 : decode cX8_init 13 = .ok (.aload_n 0, 1) := by decide +kernel
theorem dX8_init_14 : decode cX8_init 14 = .ok (.iconst 0, 1) := by decide +kernel
theorem dX8_init_15 : decode cX8_init 15 = .ok (.putfield 15, 3) := by decide +kernel
theorem dX8_init_18 : decode cX8_init 18 = .ok (.aload_n 0, 1) := by decide +kernel
theorem dX8_init_19 : decode cX8_init 19 = .ok (.iconst 0, 1) := by decide +kernel
theorem dX8_init_20 : decode cX8_init 20 = .ok (.putfield 19, 3) := by decide +kernel
theorem dX8_init_23 : decode cX8_init 23 = .ok (.aload_n 0, 1) := by decide +kernel
theorem dX8_init_24 : decode cX8_init 24 = .ok (.iconst 0, 1) := by decide +kernel
theorem dX8_init_25 : decode cX8_init 25 = .ok (.putfield 22, 3) := by decide +kernel
theorem dX8_init_28 : decode cX8_init 28 = .ok (.aload_n 0, 1) := by decide +kernel
theorem dX8_init_29 : decode cX8_init 29 = .ok (.iconst 0, 1) := by decide +kernel
theorem dX8_init_30 : decode cX8_init 30 = .ok (.putfield 25, 3) := by decide +kernel
theorem dX8_init_33 : decode cX8_init 33 = .ok (.aload_n 0, 1) := by decide +kernel
theorem dX8_init_34 : decode cX8_init 34 = .ok (.iconst 0, 1) := by decide +kernel
theorem dX8_init_35 : decode cX8_init 35 = .ok (.putfield 28, 3) := by decide +kernel
theorem dX8_init_38 : decode cX8_init 38 = .ok (.aload_n 0, 1) := by decide +kernel
theorem dX8_init_39 : decode cX8_init 39 = .ok (.ldc2_w 31, 3) := by decide +kernel
theorem dX8_init_42 : decode cX8_init 42 = .ok (.putfield 33, 3) := by decide +kernel
theorem dX8_init_45 : decode cX8_init 45 = .ok (.aload_n 0, 1) := by decide +kernel
theorem dX8_init_46 : decode cX8_init 46 = .ok (.iconst (-1), 1) := by decide +kernel
theorem dX8_init_47 : decode cX8_init 47 = .ok (.putfield 37, 3) := by decide +kernel
theorem dX8_init_50 : decode cX8_init 50 = .ok (.aload_n 0, 1) := by decide +kernel
theorem dX8_init_51 : decode cX8_init 51 = .ok (.iconst 0, 1) := by decide +kernel
theorem dX8_init_52 : decode cX8_init 52 = .ok (.putfield 40, 3) := by decide +kernel
theorem dX8_init_55 : decode cX8_init 55 = .ok (.aload_n 0, 1) := by decide +kernel
theorem dX8_init_56 : decode cX8_init 56 = .ok (.iconst (-1), 1) := by decide +kernel
theorem dX8_init_57 : decode cX8_init 57 = .ok (.putfield 43, 3) := by decide +kernel
theorem dX8_init_60 : decode cX8_init 60 = .ok (.aload_n 0, 1) := by decide +kernel
theorem dX8_init_61 : decode cX8_init 61 = .ok (.iconst (-1), 1) := by decide +kernel
theorem dX8_init_62 : decode cX8_init 62 = .ok (.putfield 46, 3) := by decide +kernel
theorem dX8_init_65 : decode cX8_init 65 = .ok (.aload_n 0, 1) := by decide +kernel
theorem dX8_init_66 : decode cX8_init 66 = .ok (.bipush 24, 2) := by decide +kernel
theorem dX8_init_68 : decode cX8_init 68 = .ok (.newarray .long, 2) := by decide +kernel
theorem dX8_init_70 : decode cX8_init 70 = .ok (.putfield 49, 3) := by decide +kernel
theorem dX8_init_73 : decode cX8_init 73 = .ok (.iconst 0, 1) := by decide +kernel
theorem dX8_init_74 : decode cX8_init 74 = .ok (.istore_n 1, 1) := by decide +kernel
theorem dX8_init_75 : decode cX8_init 75 = .ok (.lconst 0, 1) := by decide +kernel
theorem dX8_init_76 : decode cX8_init 76 = .ok (.lstore_n 2, 1) := by decide +kernel
theorem dX8_init_77 : decode cX8_init 77 = .ok (.iconst 0, 1) := by decide +kernel
theorem dX8_init_78 : decode cX8_init 78 = .ok (.istore 4, 2) := by decide +kernel
theorem dX8_init_80 : decode cX8_init 80 = .ok (.iload 4, 2) := by decide +kernel
theorem dX8_init_82 : decode cX8_init 82 = .ok (.ldc 53, 2) := by decide +kernel
theorem dX8_init_84 : decode cX8_init 84 = .ok (.invokevirtual 55, 3) := by decide +kernel
theorem dX8_init_87 : decode cX8_init 87 = .ok (.if_icmp .ge 53, 3) := by decide +kernel
theorem dX8_init_90 : decode cX8_init 90 = .ok (.iload_n 1, 1) := by decide +kernel
theorem dX8_init_91 : decode cX8_init 91 = .ok (.bipush 24, 2) := by decide +kernel
theorem dX8_init_93 : decode cX8_init 93 = .ok (.if_icmp .ge 47, 3) := by decide +kernel
theorem dX8_init_96 : decode cX8_init 96 = .ok (.ldc 53, 2) := by decide +kernel
theorem dX8_init_98 : decode cX8_init 98 = .ok (.iload 4, 2) := by decide +kernel
theorem dX8_init_100 : decode cX8_init 100 = .ok (.invokevirtual 61, 3) := by decide +kernel
theorem dX8_init_103 : decode cX8_init 103 = .ok (.istore 5, 2) := by decide +kernel
theorem dX8_init_105 : decode cX8_init 105 = .ok (.iload 5, 2) := by decide +kernel
theorem dX8_init_107 : decode cX8_init 107 = .ok (.bipush 32, 2) := by decide +kernel
theorem dX8_init_109 : decode cX8_init 109 = .ok (.if_icmp .ne 18, 3) := by decide +kernel
theorem dX8_init_112 : decode cX8_init 112 = .ok (.aload_n 0, 1) := by decide +kernel
theorem dX8_init_113 : decode cX8_init 113 = .ok (.getfield 49, 3) := by decide +kernel
theorem dX8_init_116 : decode cX8_init 116 = .ok (.iload_n 1, 1) := by decide +kernel
theorem dX8_init_117 : decode cX8_init 117 = .ok (.lload_n 2, 1) := by decide +kernel
theorem dX8_init_118 : decode cX8_init 118 = .ok (.lastore, 1) := by decide +kernel
theorem dX8_init_119 : decode cX8_init 119 = .ok (.lconst 0, 1) := by decide +kernel
theorem dX8_init_120 : decode cX8_init 120 = .ok (.lstore_n 2, 1) := by decide +kernel
theorem dX8_init_121 : decode cX8_init 121 = .ok (.iinc 1 1, 3) := by decide +kernel
theorem dX8_init_124 : decode cX8_init 124 = .ok (.goto 10, 3) := by decide +kernel
theorem dX8_init_127 : decode cX8_init 127 = .ok (.lload_n 2, 1) := by decide +kernel
theorem dX8_init_128 : decode cX8_init 128 = .ok (.iload 5, 2) := by decide +kernel
theorem dX8_init_130 : decode cX8_init 130 = .ok (.invokestatic 65, 3) := by decide +kernel
theorem dX8_init_133 : decode cX8_init 133 = .ok (.lstore_n 2, 1) := by decide +kernel
theorem dX8_init_134 : decode cX8_init 134 = .ok (.iinc 4 1, 3) := by decide +kernel
theorem dX8_init_137 : decode cX8_init 137 = .ok (.goto (-57), 3) := by decide +kernel
theorem dX8_init_140 : decode cX8_init 140 = .ok (.return_, 1) := by decide +kernel
theorem dX8_withLetter_0 : decode cX8_withLetter 0 = .ok (.lload_n 0, 1) := by decide +kernel
theorem dX8_withLetter_1 : decode cX8_withLetter 1 = .ok (.ldc2_w 69, 3) := by decide +kernel
theorem dX8_withLetter_4 : decode cX8_withLetter 4 = .ok (.lmul, 1) := by decide +kernel
theorem dX8_withLetter_5 : decode cX8_withLetter 5 = .ok (.iload_n 2, 1) := by decide +kernel
theorem dX8_withLetter_6 : decode cX8_withLetter 6 = .ok (.bipush 97, 2) := by decide +kernel
theorem dX8_withLetter_8 : decode cX8_withLetter 8 = .ok (.isub, 1) := by decide +kernel
theorem dX8_withLetter_9 : decode cX8_withLetter 9 = .ok (.iconst 1, 1) := by decide +kernel
theorem dX8_withLetter_10 : decode cX8_withLetter 10 = .ok (.iadd, 1) := by decide +kernel
theorem dX8_withLetter_11 : decode cX8_withLetter 11 = .ok (.i2l, 1) := by decide +kernel
theorem dX8_withLetter_12 : decode cX8_withLetter 12 = .ok (.ladd, 1) := by decide +kernel
theorem dX8_withLetter_13 : decode cX8_withLetter 13 = .ok (.lreturn, 1) := by decide +kernel
theorem dX8_hasRoomFor_0 : decode cX8_hasRoomFor 0 = .ok (.aload_n 0, 1) := by decide +kernel
theorem dX8_hasRoomFor_1 : decode cX8_hasRoomFor 1 = .ok (.getfield 15, 3) := by decide +kernel
theorem dX8_hasRoomFor_4 : decode cX8_hasRoomFor 4 = .ok (.iload_n 1, 1) := by decide +kernel
theorem dX8_hasRoomFor_5 : decode cX8_hasRoomFor 5 = .ok (.iadd, 1) := by decide +kernel
theorem dX8_hasRoomFor_6 : decode cX8_hasRoomFor 6 = .ok (.sipush 900, 3) := by decide +kernel
theorem dX8_hasRoomFor_9 : decode cX8_hasRoomFor 9 = .ok (.if_icmp .gt 7, 3) := by decide +kernel
theorem dX8_hasRoomFor_12 : decode cX8_hasRoomFor 12 = .ok (.iconst 1, 1) := by decide +kernel
theorem dX8_hasRoomFor_13 : decode cX8_hasRoomFor 13 = .ok (.goto 4, 3) := by decide +kernel
theorem dX8_hasRoomFor_16 : decode cX8_hasRoomFor 16 = .ok (.iconst 0, 1) := by decide +kernel
theorem dX8_hasRoomFor_17 : decode cX8_hasRoomFor 17 = .ok (.ireturn, 1) := by decide +kernel
theorem dX8_append_0 : decode cX8_append 0 = .ok (.bipush 24, 2) := by decide +kernel
theorem dX8_append_2 : decode cX8_append 2 = .ok (.istore_n 2, 1) := by decide +kernel
theorem dX8_append_3 : decode cX8_append 3 = .ok (.iload_n 2, 1) := by decide +kernel
theorem dX8_append_4 : decode cX8_append 4 = .ok (.ifCond .lt 42, 3) := by decide +kernel
theorem dX8_append_7 : decode cX8_append 7 = .ok (.aload_n 0, 1) := by decide +kernel
theorem dX8_append_8 : decode cX8_append 8 = .ok (.getfield 15, 3) := by decide +kernel
theorem dX8_append_11 : decode cX8_append 11 = .ok (.sipush 900, 3) := by decide +kernel
theorem dX8_append_14 : decode cX8_append 14 = .ok (.if_icmp .ge 32, 3) := by decide +kernel
theorem dX8_append_17 : decode cX8_append 17 = .ok (.aload_n 0, 1) := by decide +kernel
theorem dX8_append_18 : decode cX8_append 18 = .ok (.getfield 9, 3) := by decide +kernel
theorem dX8_append_21 : decode cX8_append 21 = .ok (.aload_n 0, 1) := by decide +kernel
theorem dX8_append_22 : decode cX8_append 22 = .ok (.getfield 15, 3) := by decide +kernel
theorem dX8_append_25 : decode cX8_append 25 = .ok (.iload_n 1, 1) := by decide +kernel
theorem dX8_append_26 : decode cX8_append 26 = .ok (.iload_n 2, 1) := by decide +kernel
theorem dX8_append_27 : decode cX8_append 27 = .ok (.ishr, 1) := by decide +kernel
theorem dX8_append_28 : decode cX8_append 28 = .ok (.i2b, 1) := by decide +kernel
theorem dX8_append_29 : decode cX8_append 29 = .ok (.bastore, 1) := by decide +kernel
theorem dX8_append_30 : decode cX8_append 30 = .ok (.aload_n 0, 1) := by decide +kernel
theorem dX8_append_31 : decode cX8_append 31 = .ok (.dup, 1) := by decide +kernel
theorem dX8_append_32 : decode cX8_append 32 = .ok (.getfield 15, 3) := by decide +kernel
theorem dX8_append_35 : decode cX8_append 35 = .ok (.iconst 1, 1) := by decide +kernel
theorem dX8_append_36 : decode cX8_append 36 = .ok (.iadd, 1) := by decide +kernel
theorem dX8_append_37 : decode cX8_append 37 = .ok (.putfield 15, 3) := by decide +kernel
theorem dX8_append_40 : decode cX8_append 40 = .ok (.iinc 2 (-8), 3) := by decide +kernel
theorem dX8_append_43 : decode cX8_append 43 = .ok (.goto (-40), 3) := by decide +kernel
theorem dX8_append_46 : decode cX8_append 46 = .ok (.return_, 1) := by decide +kernel
theorem dX8_empty_0 : decode cX8_empty 0 = .ok (.aload_n 0, 1) := by decide +kernel
theorem dX8_empty_1 : decode cX8_empty 1 = .ok (.iconst 0, 1) := by decide +kernel
theorem dX8_empty_2 : decode cX8_empty 2 = .ok (.putfield 15, 3) := by decide +kernel
theorem dX8_empty_5 : decode cX8_empty 5 = .ok (.return_, 1) := by decide +kernel
theorem dX8_begin_0 : decode cX8_begin 0 = .ok (.iload_n 1, 1) := by decide +kernel
theorem dX8_begin_1 : decode cX8_begin 1 = .ok (.ifCond .lt 11, 3) := by decide +kernel
theorem dX8_begin_4 : decode cX8_begin 4 = .ok (.iload_n 1, 1) := by decide +kernel
theorem dX8_begin_5 : decode cX8_begin 5 = .ok (.aload_n 0, 1) := by decide +kernel
theorem dX8_begin_6 : decode cX8_begin 6 = .ok (.getfield 15, 3) := by decide +kernel
theorem dX8_begin_9 : decode cX8_begin 9 = .ok (.if_icmp .le 5, 3) := by decide +kernel
theorem dX8_begin_12 : decode cX8_begin 12 = .ok (.iconst 0, 1) := by decide +kernel
theorem dX8_begin_13 : decode cX8_begin 13 = .ok (.ireturn, 1) := by decide +kernel
theorem dX8_begin_14 : decode cX8_begin 14 = .ok (.aload_n 0, 1) := by decide +kernel
theorem dX8_begin_15 : decode cX8_begin 15 = .ok (.iload_n 1, 1) := by decide +kernel
theorem dX8_begin_16 : decode cX8_begin 16 = .ok (.putfield 19, 3) := by decide +kernel
theorem dX8_begin_19 : decode cX8_begin 19 = .ok (.aload_n 0, 1) := by decide +kernel
theorem dX8_begin_20 : decode cX8_begin 20 = .ok (.iconst 0, 1) := by decide +kernel
theorem dX8_begin_21 : decode cX8_begin 21 = .ok (.putfield 22, 3) := by decide +kernel
theorem dX8_begin_24 : decode cX8_begin 24 = .ok (.aload_n 0, 1) := by decide +kernel
theorem dX8_begin_25 : decode cX8_begin 25 = .ok (.iconst 0, 1) := by decide +kernel
theorem dX8_begin_26 : decode cX8_begin 26 = .ok (.putfield 43, 3) := by decide +kernel
theorem dX8_begin_29 : decode cX8_begin 29 = .ok (.aload_n 0, 1) := by decide +kernel
theorem dX8_begin_30 : decode cX8_begin 30 = .ok (.iconst (-1), 1) := by decide +kernel
theorem dX8_begin_31 : decode cX8_begin 31 = .ok (.putfield 46, 3) := by decide +kernel
theorem dX8_begin_34 : decode cX8_begin 34 = .ok (.aload_n 0, 1) := by decide +kernel
theorem dX8_begin_35 : decode cX8_begin 35 = .ok (.invokevirtual 71, 3) := by decide +kernel
theorem dX8_begin_38 : decode cX8_begin 38 = .ok (.iconst 1, 1) := by decide +kernel
theorem dX8_begin_39 : decode cX8_begin 39 = .ok (.ireturn, 1) := by decide +kernel
theorem dX8_forward_0 : decode cX8_forward 0 = .ok (.aload_n 0, 1) := by decide +kernel
theorem dX8_forward_1 : decode cX8_forward 1 = .ok (.getfield 22, 3) := by decide +kernel
theorem dX8_forward_4 : decode cX8_forward 4 = .ok (.aload_n 0, 1) := by decide +kernel
theorem dX8_forward_5 : decode cX8_forward 5 = .ok (.getfield 19, 3) := by decide +kernel
theorem dX8_forward_8 : decode cX8_forward 8 = .ok (.if_icmp .ge 44, 3) := by decide +kernel
theorem dX8_forward_11 : decode cX8_forward 11 = .ok (.aload_n 0, 1) := by decide +kernel
theorem dX8_forward_12 : decode cX8_forward 12 = .ok (.getfield 9, 3) := by decide +kernel
theorem dX8_forward_15 : decode cX8_forward 15 = .ok (.aload_n 0, 1) := by decide +kernel
theorem dX8_forward_16 : decode cX8_forward 16 = .ok (.getfield 22, 3) := by decide +kernel
theorem dX8_forward_19 : decode cX8_forward 19 = .ok (.baload, 1) := by decide +kernel
theorem dX8_forward_20 : decode cX8_forward 20 = .ok (.bipush 10, 2) := by decide +kernel
theorem dX8_forward_22 : decode cX8_forward 22 = .ok (.if_icmp .eq 17, 3) := by decide +kernel
theorem dX8_forward_25 : decode cX8_forward 25 = .ok (.aload_n 0, 1) := by decide +kernel
theorem dX8_forward_26 : decode cX8_forward 26 = .ok (.getfield 9, 3) := by decide +kernel
theorem dX8_forward_29 : decode cX8_forward 29 = .ok (.aload_n 0, 1) := by decide +kernel
theorem dX8_forward_30 : decode cX8_forward 30 = .ok (.getfield 22, 3) := by decide +kernel
theorem dX8_forward_33 : decode cX8_forward 33 = .ok (.baload, 1) := by decide +kernel
theorem dX8_forward_34 : decode cX8_forward 34 = .ok (.bipush 32, 2) := by decide +kernel
theorem dX8_forward_36 : decode cX8_forward 36 = .ok (.if_icmp .ne 16, 3) := by decide +kernel
theorem dX8_forward_39 : decode cX8_forward 39 = .ok (.aload_n 0, 1) := by decide +kernel
theorem dX8_forward_40 : decode cX8_forward 40 = .ok (.dup, 1) := by decide +kernel
theorem dX8_forward_41 : decode cX8_forward 41 = .ok (.getfield 22, 3) := by decide +kernel
theorem dX8_forward_44 : decode cX8_forward 44 = .ok (.iconst 1, 1) := by decide +kernel
theorem dX8_forward_45 : decode cX8_forward 45 = .ok (.iadd, 1) := by decide +kernel
theorem dX8_forward_46 : decode cX8_forward 46 = .ok (.putfield 22, 3) := by decide +kernel
theorem dX8_forward_49 : decode cX8_forward 49 = .ok (.goto (-49), 3) := by decide +kernel
theorem dX8_forward_52 : decode cX8_forward 52 = .ok (.aload_n 0, 1) := by decide +kernel
theorem dX8_forward_53 : decode cX8_forward 53 = .ok (.aload_n 0, 1) := by decide +kernel
theorem dX8_forward_54 : decode cX8_forward 54 = .ok (.getfield 22, 3) := by decide +kernel
theorem dX8_forward_57 : decode cX8_forward 57 = .ok (.putfield 28, 3) := by decide +kernel
theorem dX8_forward_60 : decode cX8_forward 60 = .ok (.aload_n 0, 1) := by decide +kernel
theorem dX8_forward_61 : decode cX8_forward 61 = .ok (.iconst (-1), 1) := by decide +kernel
theorem dX8_forward_62 : decode cX8_forward 62 = .ok (.putfield 37, 3) := by decide +kernel
theorem dX8_forward_65 : decode cX8_forward 65 = .ok (.aload_n 0, 1) := by decide +kernel
theorem dX8_forward_66 : decode cX8_forward 66 = .ok (.getfield 22, 3) := by decide +kernel
theorem dX8_forward_69 : decode cX8_forward 69 = .ok (.aload_n 0, 1) := by decide +kernel
theorem dX8_forward_70 : decode cX8_forward 70 = .ok (.getfield 19, 3) := by decide +kernel
theorem dX8_forward_73 : decode cX8_forward 73 = .ok (.if_icmp .lt 11, 3) := by decide +kernel
theorem dX8_forward_76 : decode cX8_forward 76 = .ok (.aload_n 0, 1) := by decide +kernel
theorem dX8_forward_77 : decode cX8_forward 77 = .ok (.iconst 0, 1) := by decide +kernel
theorem dX8_forward_78 : decode cX8_forward 78 = .ok (.putfield 25, 3) := by decide +kernel
theorem dX8_forward_81 : decode cX8_forward 81 = .ok (.goto 81, 3) := by decide +kernel
theorem dX8_forward_84 : decode cX8_forward 84 = .ok (.aload_n 0, 1) := by decide +kernel
theorem dX8_forward_85 : decode cX8_forward 85 = .ok (.getfield 9, 3) := by decide +kernel
theorem dX8_forward_88 : decode cX8_forward 88 = .ok (.aload_n 0, 1) := by decide +kernel
theorem dX8_forward_89 : decode cX8_forward 89 = .ok (.getfield 22, 3) := by decide +kernel
theorem dX8_forward_92 : decode cX8_forward 92 = .ok (.baload, 1) := by decide +kernel
theorem dX8_forward_93 : decode cX8_forward 93 = .ok (.invokestatic 74, 3) := by decide +kernel
theorem dX8_forward_96 : decode cX8_forward 96 = .ok (.ifCond .eq 10, 3) := by decide +kernel
theorem dX8_forward_99 : decode cX8_forward 99 = .ok (.aload_n 0, 1) := by decide +kernel
theorem dX8_forward_100 : decode cX8_forward 100 = .ok (.invokevirtual 78, 3) := by decide +kernel
theorem dX8_forward_103 : decode cX8_forward 103 = .ok (.goto 59, 3) := by decide +kernel
theorem dX8_forward_106 : decode cX8_forward 106 = .ok (.aload_n 0, 1) := by decide +kernel
theorem dX8_forward_107 : decode cX8_forward 107 = .ok (.getfield 9, 3) := by decide +kernel
theorem dX8_forward_110 : decode cX8_forward 110 = .ok (.aload_n 0, 1) := by decide +kernel
theorem dX8_forward_111 : decode cX8_forward 111 = .ok (.getfield 22, 3) := by decide +kernel
theorem dX8_forward_114 : decode cX8_forward 114 = .ok (.baload, 1) := by decide +kernel
theorem dX8_forward_115 : decode cX8_forward 115 = .ok (.invokestatic 81, 3) := by decide +kernel
theorem dX8_forward_118 : decode cX8_forward 118 = .ok (.ifCond .eq 10, 3) := by decide +kernel
theorem dX8_forward_121 : decode cX8_forward 121 = .ok (.aload_n 0, 1) := by decide +kernel
theorem dX8_forward_122 : decode cX8_forward 122 = .ok (.invokevirtual 84, 3) := by decide +kernel
theorem dX8_forward_125 : decode cX8_forward 125 = .ok (.goto 37, 3) := by decide +kernel
theorem dX8_forward_128 : decode cX8_forward 128 = .ok (.aload_n 0, 1) := by decide +kernel
theorem dX8_forward_129 : decode cX8_forward 129 = .ok (.aload_n 0, 1) := by decide +kernel
theorem dX8_forward_130 : decode cX8_forward 130 = .ok (.getfield 9, 3) := by decide +kernel
theorem dX8_forward_133 : decode cX8_forward 133 = .ok (.aload_n 0, 1) := by decide +kernel
theorem dX8_forward_134 : decode cX8_forward 134 = .ok (.getfield 22, 3) := by decide +kernel
theorem dX8_forward_137 : decode cX8_forward 137 = .ok (.baload, 1) := by decide +kernel
theorem dX8_forward_138 : decode cX8_forward 138 = .ok (.invokestatic 87, 3) := by decide +kernel
theorem dX8_forward_141 : decode cX8_forward 141 = .ok (.ifCond .eq 7, 3) := by decide +kernel
theorem dX8_forward_144 : decode cX8_forward 144 = .ok (.iconst 3, 1) := by decide +kernel
theorem dX8_forward_145 : decode cX8_forward 145 = .ok (.goto 4, 3) := by decide +kernel
theorem dX8_forward_148 : decode cX8_forward 148 = .ok (.iconst 4, 1) := by decide +kernel
theorem dX8_forward_149 : decode cX8_forward 149 = .ok (.putfield 25, 3) := by decide +kernel
theorem dX8_forward_152 : decode cX8_forward 152 = .ok (.aload_n 0, 1) := by decide +kernel
theorem dX8_forward_153 : decode cX8_forward 153 = .ok (.dup, 1) := by decide +kernel
theorem dX8_forward_154 : decode cX8_forward 154 = .ok (.getfield 22, 3) := by decide +kernel
theorem dX8_forward_157 : decode cX8_forward 157 = .ok (.iconst 1, 1) := by decide +kernel
theorem dX8_forward_158 : decode cX8_forward 158 = .ok (.iadd, 1) := by decide +kernel
theorem dX8_forward_159 : decode cX8_forward 159 = .ok (.putfield 22, 3) := by decide +kernel
theorem dX8_forward_162 : decode cX8_forward 162 = .ok (.return_, 1) := by decide +kernel
theorem dX8_isLetter_0 : decode cX8_isLetter 0 = .ok (.iload_n 0, 1) := by decide +kernel
theorem dX8_isLetter_1 : decode cX8_isLetter 1 = .ok (.bipush 97, 2) := by decide +kernel
theorem dX8_isLetter_3 : decode cX8_isLetter 3 = .ok (.if_icmp .lt 13, 3) := by decide +kernel
theorem dX8_isLetter_6 : decode cX8_isLetter 6 = .ok (.iload_n 0, 1) := by decide +kernel
theorem dX8_isLetter_7 : decode cX8_isLetter 7 = .ok (.bipush 122, 2) := by decide +kernel
theorem dX8_isLetter_9 : decode cX8_isLetter 9 = .ok (.if_icmp .gt 7, 3) := by decide +kernel
theorem dX8_isLetter_12 : decode cX8_isLetter 12 = .ok (.iconst 1, 1) := by decide +kernel
theorem dX8_isLetter_13 : decode cX8_isLetter 13 = .ok (.goto 4, 3) := by decide +kernel
theorem dX8_isLetter_16 : decode cX8_isLetter 16 = .ok (.iconst 0, 1) := by decide +kernel
theorem dX8_isLetter_17 : decode cX8_isLetter 17 = .ok (.ireturn, 1) := by decide +kernel
theorem dX8_isDigit_0 : decode cX8_isDigit 0 = .ok (.iload_n 0, 1) := by decide +kernel
theorem dX8_isDigit_1 : decode cX8_isDigit 1 = .ok (.bipush 48, 2) := by decide +kernel
theorem dX8_isDigit_3 : decode cX8_isDigit 3 = .ok (.if_icmp .lt 13, 3) := by decide +kernel
theorem dX8_isDigit_6 : decode cX8_isDigit 6 = .ok (.iload_n 0, 1) := by decide +kernel
theorem dX8_isDigit_7 : decode cX8_isDigit 7 = .ok (.bipush 57, 2) := by decide +kernel
theorem dX8_isDigit_9 : decode cX8_isDigit 9 = .ok (.if_icmp .gt 7, 3) := by decide +kernel
theorem dX8_isDigit_12 : decode cX8_isDigit 12 = .ok (.iconst 1, 1) := by decide +kernel
theorem dX8_isDigit_13 : decode cX8_isDigit 13 = .ok (.goto 4, 3) := by decide +kernel
theorem dX8_isDigit_16 : decode cX8_isDigit 16 = .ok (.iconst 0, 1) := by decide +kernel
theorem dX8_isDigit_17 : decode cX8_isDigit 17 = .ok (.ireturn, 1) := by decide +kernel
theorem dX8_isSign_0 : decode cX8_isSign 0 = .ok (.iload_n 0, 1) := by decide +kernel
theorem dX8_isSign_1 : decode cX8_isSign 1 = .ok (.bipush 59, 2) := by decide +kernel
theorem dX8_isSign_3 : decode cX8_isSign 3 = .ok (.if_icmp .lt 13, 3) := by decide +kernel
theorem dX8_isSign_6 : decode cX8_isSign 6 = .ok (.iload_n 0, 1) := by decide +kernel
theorem dX8_isSign_7 : decode cX8_isSign 7 = .ok (.bipush 62, 2) := by decide +kernel
theorem dX8_isSign_9 : decode cX8_isSign 9 = .ok (.if_icmp .gt 7, 3) := by decide +kernel
theorem dX8_isSign_12 : decode cX8_isSign 12 = .ok (.iconst 1, 1) := by decide +kernel
theorem dX8_isSign_13 : decode cX8_isSign 13 = .ok (.goto 4, 3) := by decide +kernel
theorem dX8_isSign_16 : decode cX8_isSign 16 = .ok (.iconst 0, 1) := by decide +kernel
theorem dX8_isSign_17 : decode cX8_isSign 17 = .ok (.ireturn, 1) := by decide +kernel
theorem dX8_takeWord_0 : decode cX8_takeWord 0 = .ok (.lconst 0, 1) := by decide +kernel
theorem dX8_takeWord_1 : decode cX8_takeWord 1 = .ok (.lstore_n 1, 1) := by decide +kernel
theorem dX8_takeWord_2 : decode cX8_takeWord 2 = .ok (.aload_n 0, 1) := by decide +kernel
theorem dX8_takeWord_3 : decode cX8_takeWord 3 = .ok (.getfield 22, 3) := by decide +kernel
theorem dX8_takeWord_6 : decode cX8_takeWord 6 = .ok (.aload_n 0, 1) := by decide +kernel
theorem dX8_takeWord_7 : decode cX8_takeWord 7 = .ok (.getfield 19, 3) := by decide +kernel
theorem dX8_takeWord_10 : decode cX8_takeWord 10 = .ok (.if_icmp .ge 45, 3) := by decide +kernel
theorem dX8_takeWord_13 : decode cX8_takeWord 13 = .ok (.aload_n 0, 1) := by decide +kernel
theorem dX8_takeWord_14 : decode cX8_takeWord 14 = .ok (.getfield 9, 3) := by decide +kernel
theorem dX8_takeWord_17 : decode cX8_takeWord 17 = .ok (.aload_n 0, 1) := by decide +kernel
theorem dX8_takeWord_18 : decode cX8_takeWord 18 = .ok (.getfield 22, 3) := by decide +kernel
theorem dX8_takeWord_21 : decode cX8_takeWord 21 = .ok (.baload, 1) := by decide +kernel
theorem dX8_takeWord_22 : decode cX8_takeWord 22 = .ok (.invokestatic 74, 3) := by decide +kernel
theorem dX8_takeWord_25 : decode cX8_takeWord 25 = .ok (.ifCond .eq 30, 3) := by decide +kernel
theorem dX8_takeWord_28 : decode cX8_takeWord 28 = .ok (.lload_n 1, 1) := by decide +kernel
theorem dX8_takeWord_29 : decode cX8_takeWord 29 = .ok (.aload_n 0, 1) := by decide +kernel
theorem dX8_takeWord_30 : decode cX8_takeWord 30 = .ok (.getfield 9, 3) := by decide +kernel
theorem dX8_takeWord_33 : decode cX8_takeWord 33 = .ok (.aload_n 0, 1) := by decide +kernel
theorem dX8_takeWord_34 : decode cX8_takeWord 34 = .ok (.getfield 22, 3) := by decide +kernel
theorem dX8_takeWord_37 : decode cX8_takeWord 37 = .ok (.baload, 1) := by decide +kernel
theorem dX8_takeWord_38 : decode cX8_takeWord 38 = .ok (.invokestatic 65, 3) := by decide +kernel
theorem dX8_takeWord_41 : decode cX8_takeWord 41 = .ok (.lstore_n 1, 1) := by decide +kernel
theorem dX8_takeWord_42 : decode cX8_takeWord 42 = .ok (.aload_n 0, 1) := by decide +kernel
theorem dX8_takeWord_43 : decode cX8_takeWord 43 = .ok (.dup, 1) := by decide +kernel
theorem dX8_takeWord_44 : decode cX8_takeWord 44 = .ok (.getfield 22, 3) := by decide +kernel
theorem dX8_takeWord_47 : decode cX8_takeWord 47 = .ok (.iconst 1, 1) := by decide +kernel
theorem dX8_takeWord_48 : decode cX8_takeWord 48 = .ok (.iadd, 1) := by decide +kernel
theorem dX8_takeWord_49 : decode cX8_takeWord 49 = .ok (.putfield 22, 3) := by decide +kernel
theorem dX8_takeWord_52 : decode cX8_takeWord 52 = .ok (.goto (-50), 3) := by decide +kernel
theorem dX8_takeWord_55 : decode cX8_takeWord 55 = .ok (.aload_n 0, 1) := by decide +kernel
theorem dX8_takeWord_56 : decode cX8_takeWord 56 = .ok (.iconst 1, 1) := by decide +kernel
theorem dX8_takeWord_57 : decode cX8_takeWord 57 = .ok (.putfield 25, 3) := by decide +kernel
theorem dX8_takeWord_60 : decode cX8_takeWord 60 = .ok (.aload_n 0, 1) := by decide +kernel
theorem dX8_takeWord_61 : decode cX8_takeWord 61 = .ok (.aload_n 0, 1) := by decide +kernel
theorem dX8_takeWord_62 : decode cX8_takeWord 62 = .ok (.getfield 22, 3) := by decide +kernel
theorem dX8_takeWord_65 : decode cX8_takeWord 65 = .ok (.aload_n 0, 1) := by decide +kernel
theorem dX8_takeWord_66 : decode cX8_takeWord 66 = .ok (.getfield 28, 3) := by decide +kernel
theorem dX8_takeWord_69 : decode cX8_takeWord 69 = .ok (.isub, 1) := by decide +kernel
theorem dX8_takeWord_70 : decode cX8_takeWord 70 = .ok (.bipush 8, 2) := by decide +kernel
theorem dX8_takeWord_72 : decode cX8_takeWord 72 = .ok (.if_icmp .le 9, 3) := by decide +kernel
theorem dX8_takeWord_75 : decode cX8_takeWord 75 = .ok (.ldc2_w 31, 3) := by decide +kernel
theorem dX8_takeWord_78 : decode cX8_takeWord 78 = .ok (.goto 4, 3) := by decide +kernel
theorem dX8_takeWord_81 : decode cX8_takeWord 81 = .ok (.lload_n 1, 1) := by decide +kernel
theorem dX8_takeWord_82 : decode cX8_takeWord 82 = .ok (.putfield 33, 3) := by decide +kernel
theorem dX8_takeWord_85 : decode cX8_takeWord 85 = .ok (.iconst 0, 1) := by decide +kernel
theorem dX8_takeWord_86 : decode cX8_takeWord 86 = .ok (.istore_n 3, 1) := by decide +kernel
theorem dX8_takeWord_87 : decode cX8_takeWord 87 = .ok (.iload_n 3, 1) := by decide +kernel
theorem dX8_takeWord_88 : decode cX8_takeWord 88 = .ok (.bipush 24, 2) := by decide +kernel
theorem dX8_takeWord_90 : decode cX8_takeWord 90 = .ok (.if_icmp .ge 28, 3) := by decide +kernel
theorem dX8_takeWord_93 : decode cX8_takeWord 93 = .ok (.aload_n 0, 1) := by decide +kernel
theorem dX8_takeWord_94 : decode cX8_takeWord 94 = .ok (.getfield 49, 3) := by decide +kernel
theorem dX8_takeWord_97 : decode cX8_takeWord 97 = .ok (.iload_n 3, 1) := by decide +kernel
theorem dX8_takeWord_98 : decode cX8_takeWord 98 = .ok (.laload, 1) := by decide +kernel
theorem dX8_takeWord_99 : decode cX8_takeWord 99 = .ok (.aload_n 0, 1) := by decide +kernel
theorem dX8_takeWord_100 : decode cX8_takeWord 100 = .ok (.getfield 33, 3) := by decide +kernel
theorem dX8_takeWord_103 : decode cX8_takeWord 103 = .ok (.lcmp, 1) := by decide +kernel
theorem dX8_takeWord_104 : decode cX8_takeWord 104 = .ok (.ifCond .ne 8, 3) := by decide +kernel
theorem dX8_takeWord_107 : decode cX8_takeWord 107 = .ok (.aload_n 0, 1) := by decide +kernel
theorem dX8_takeWord_108 : decode cX8_takeWord 108 = .ok (.iload_n 3, 1) := by decide +kernel
theorem dX8_takeWord_109 : decode cX8_takeWord 109 = .ok (.putfield 37, 3) := by decide +kernel
theorem dX8_takeWord_112 : decode cX8_takeWord 112 = .ok (.iinc 3 1, 3) := by decide +kernel
theorem dX8_takeWord_115 : decode cX8_takeWord 115 = .ok (.goto (-28), 3) := by decide +kernel
theorem dX8_takeWord_118 : decode cX8_takeWord 118 = .ok (.return_, 1) := by decide +kernel
theorem dX8_takeNumber_0 : decode cX8_takeNumber 0 = .ok (.aload_n 0, 1) := by decide +kernel
theorem dX8_takeNumber_1 : decode cX8_takeNumber 1 = .ok (.iconst 0, 1) := by decide +kernel
theorem dX8_takeNumber_2 : decode cX8_takeNumber 2 = .ok (.putfield 40, 3) := by decide +kernel
theorem dX8_takeNumber_5 : decode cX8_takeNumber 5 = .ok (.aload_n 0, 1) := by decide +kernel
theorem dX8_takeNumber_6 : decode cX8_takeNumber 6 = .ok (.getfield 22, 3) := by decide +kernel
theorem dX8_takeNumber_9 : decode cX8_takeNumber 9 = .ok (.aload_n 0, 1) := by decide +kernel
theorem dX8_takeNumber_10 : decode cX8_takeNumber 10 = .ok (.getfield 19, 3) := by decide +kernel
theorem dX8_takeNumber_13 : decode cX8_takeNumber 13 = .ok (.if_icmp .ge 55, 3) := by decide +kernel
theorem dX8_takeNumber_16 : decode cX8_takeNumber 16 = .ok (.aload_n 0, 1) := by decide +kernel
theorem dX8_takeNumber_17 : decode cX8_takeNumber 17 = .ok (.getfield 9, 3) := by decide +kernel
theorem dX8_takeNumber_20 : decode cX8_takeNumber 20 = .ok (.aload_n 0, 1) := by decide +kernel
theorem dX8_takeNumber_21 : decode cX8_takeNumber 21 = .ok (.getfield 22, 3) := by decide +kernel
theorem dX8_takeNumber_24 : decode cX8_takeNumber 24 = .ok (.baload, 1) := by decide +kernel
theorem dX8_takeNumber_25 : decode cX8_takeNumber 25 = .ok (.invokestatic 81, 3) := by decide +kernel
theorem dX8_takeNumber_28 : decode cX8_takeNumber 28 = .ok (.ifCond .eq 40, 3) := by decide +kernel
theorem dX8_takeNumber_31 : decode cX8_takeNumber 31 = .ok (.aload_n 0, 1) := by decide +kernel
theorem dX8_takeNumber_32 : decode cX8_takeNumber 32 = .ok (.aload_n 0, 1) := by decide +kernel
theorem dX8_takeNumber_33 : decode cX8_takeNumber 33 = .ok (.getfield 40, 3) := by decide +kernel
theorem dX8_takeNumber_36 : decode cX8_takeNumber 36 = .ok (.bipush 10, 2) := by decide +kernel
theorem dX8_takeNumber_38 : decode cX8_takeNumber 38 = .ok (.imul, 1) := by decide +kernel
theorem dX8_takeNumber_39 : decode cX8_takeNumber 39 = .ok (.aload_n 0, 1) := by decide +kernel
theorem dX8_takeNumber_40 : decode cX8_takeNumber 40 = .ok (.getfield 9, 3) := by decide +kernel
theorem dX8_takeNumber_43 : decode cX8_takeNumber 43 = .ok (.aload_n 0, 1) := by decide +kernel
theorem dX8_takeNumber_44 : decode cX8_takeNumber 44 = .ok (.getfield 22, 3) := by decide +kernel
theorem dX8_takeNumber_47 : decode cX8_takeNumber 47 = .ok (.baload, 1) := by decide +kernel
theorem dX8_takeNumber_48 : decode cX8_takeNumber 48 = .ok (.bipush 48, 2) := by decide +kernel
theorem dX8_takeNumber_50 : decode cX8_takeNumber 50 = .ok (.isub, 1) := by decide +kernel
theorem dX8_takeNumber_51 : decode cX8_takeNumber 51 = .ok (.iadd, 1) := by decide +kernel
theorem dX8_takeNumber_52 : decode cX8_takeNumber 52 = .ok (.putfield 40, 3) := by decide +kernel
theorem dX8_takeNumber_55 : decode cX8_takeNumber 55 = .ok (.aload_n 0, 1) := by decide +kernel
theorem dX8_takeNumber_56 : decode cX8_takeNumber 56 = .ok (.dup, 1) := by decide +kernel
theorem dX8_takeNumber_57 : decode cX8_takeNumber 57 = .ok (.getfield 22, 3) := by decide +kernel
theorem dX8_takeNumber_60 : decode cX8_takeNumber 60 = .ok (.iconst 1, 1) := by decide +kernel
theorem dX8_takeNumber_61 : decode cX8_takeNumber 61 = .ok (.iadd, 1) := by decide +kernel
theorem dX8_takeNumber_62 : decode cX8_takeNumber 62 = .ok (.putfield 22, 3) := by decide +kernel
theorem dX8_takeNumber_65 : decode cX8_takeNumber 65 = .ok (.goto (-60), 3) := by decide +kernel
theorem dX8_takeNumber_68 : decode cX8_takeNumber 68 = .ok (.aload_n 0, 1) := by decide +kernel
theorem dX8_takeNumber_69 : decode cX8_takeNumber 69 = .ok (.aload_n 0, 1) := by decide +kernel
theorem dX8_takeNumber_70 : decode cX8_takeNumber 70 = .ok (.getfield 22, 3) := by decide +kernel
theorem dX8_takeNumber_73 : decode cX8_takeNumber 73 = .ok (.aload_n 0, 1) := by decide +kernel
theorem dX8_takeNumber_74 : decode cX8_takeNumber 74 = .ok (.getfield 28, 3) := by decide +kernel
theorem dX8_takeNumber_77 : decode cX8_takeNumber 77 = .ok (.isub, 1) := by decide +kernel
theorem dX8_takeNumber_78 : decode cX8_takeNumber 78 = .ok (.iconst 4, 1) := by decide +kernel
theorem dX8_takeNumber_79 : decode cX8_takeNumber 79 = .ok (.if_icmp .le 7, 3) := by decide +kernel
theorem dX8_takeNumber_82 : decode cX8_takeNumber 82 = .ok (.iconst 4, 1) := by decide +kernel
theorem dX8_takeNumber_83 : decode cX8_takeNumber 83 = .ok (.goto 4, 3) := by decide +kernel
theorem dX8_takeNumber_86 : decode cX8_takeNumber 86 = .ok (.iconst 2, 1) := by decide +kernel
theorem dX8_takeNumber_87 : decode cX8_takeNumber 87 = .ok (.putfield 25, 3) := by decide +kernel
theorem dX8_takeNumber_90 : decode cX8_takeNumber 90 = .ok (.return_, 1) := by decide +kernel
theorem dX8_fail_0 : decode cX8_fail 0 = .ok (.aload_n 0, 1) := by decide +kernel
theorem dX8_fail_1 : decode cX8_fail 1 = .ok (.aload_n 0, 1) := by decide +kernel
theorem dX8_fail_2 : decode cX8_fail 2 = .ok (.getfield 25, 3) := by decide +kernel
theorem dX8_fail_5 : decode cX8_fail 5 = .ok (.iconst 4, 1) := by decide +kernel
theorem dX8_fail_6 : decode cX8_fail 6 = .ok (.if_icmp .ne 7, 3) := by decide +kernel
theorem dX8_fail_9 : decode cX8_fail 9 = .ok (.iconst 1, 1) := by decide +kernel
theorem dX8_fail_10 : decode cX8_fail 10 = .ok (.goto 4, 3) := by decide +kernel
theorem dX8_fail_13 : decode cX8_fail 13 = .ok (.iload_n 1, 1) := by decide +kernel
theorem dX8_fail_14 : decode cX8_fail 14 = .ok (.aload_n 0, 1) := by decide +kernel
theorem dX8_fail_15 : decode cX8_fail 15 = .ok (.getfield 28, 3) := by decide +kernel
theorem dX8_fail_18 : decode cX8_fail 18 = .ok (.invokevirtual 90, 3) := by decide +kernel
theorem dX8_fail_21 : decode cX8_fail 21 = .ok (.ireturn, 1) := by decide +kernel
theorem dX8_failAt_0 : decode cX8_failAt 0 = .ok (.aload_n 0, 1) := by decide +kernel
theorem dX8_failAt_1 : decode cX8_failAt 1 = .ok (.iload_n 1, 1) := by decide +kernel
theorem dX8_failAt_2 : decode cX8_failAt 2 = .ok (.putfield 43, 3) := by decide +kernel
theorem dX8_failAt_5 : decode cX8_failAt 5 = .ok (.aload_n 0, 1) := by decide +kernel
theorem dX8_failAt_6 : decode cX8_failAt 6 = .ok (.iload_n 2, 1) := by decide +kernel
theorem dX8_failAt_7 : decode cX8_failAt 7 = .ok (.putfield 46, 3) := by decide +kernel
theorem dX8_failAt_10 : decode cX8_failAt 10 = .ok (.iconst 0, 1) := by decide +kernel
theorem dX8_failAt_11 : decode cX8_failAt 11 = .ok (.ireturn, 1) := by decide +kernel
theorem dX8_skips_0 : decode cX8_skips 0 = .ok (.aload_n 0, 1) := by decide +kernel
theorem dX8_skips_1 : decode cX8_skips 1 = .ok (.getfield 37, 3) := by decide +kernel
theorem dX8_skips_4 : decode cX8_skips 4 = .ok (.iload_n 1, 1) := by decide +kernel
theorem dX8_skips_5 : decode cX8_skips 5 = .ok (.if_icmp .ne 7, 3) := by decide +kernel
theorem dX8_skips_8 : decode cX8_skips 8 = .ok (.iconst 1, 1) := by decide +kernel
theorem dX8_skips_9 : decode cX8_skips 9 = .ok (.goto 4, 3) := by decide +kernel
theorem dX8_skips_12 : decode cX8_skips 12 = .ok (.iconst 0, 1) := by decide +kernel
theorem dX8_skips_13 : decode cX8_skips 13 = .ok (.istore_n 2, 1) := by decide +kernel
theorem dX8_skips_14 : decode cX8_skips 14 = .ok (.iload_n 2, 1) := by decide +kernel
theorem dX8_skips_15 : decode cX8_skips 15 = .ok (.ifCond .eq 7, 3) := by decide +kernel
theorem dX8_skips_18 : decode cX8_skips 18 = .ok (.aload_n 0, 1) := by decide +kernel
theorem dX8_skips_19 : decode cX8_skips 19 = .ok (.invokevirtual 71, 3) := by decide +kernel
theorem dX8_skips_22 : decode cX8_skips 22 = .ok (.iload_n 2, 1) := by decide +kernel
theorem dX8_skips_23 : decode cX8_skips 23 = .ok (.ireturn, 1) := by decide +kernel
theorem dX8_atSemicolon_0 : decode cX8_atSemicolon 0 = .ok (.aload_n 0, 1) := by decide +kernel
theorem dX8_atSemicolon_1 : decode cX8_atSemicolon 1 = .ok (.getfield 25, 3) := by decide +kernel
theorem dX8_atSemicolon_4 : decode cX8_atSemicolon 4 = .ok (.iconst 3, 1) := by decide +kernel
theorem dX8_atSemicolon_5 : decode cX8_atSemicolon 5 = .ok (.if_icmp .ne 21, 3) := by decide +kernel
theorem dX8_atSemicolon_8 : decode cX8_atSemicolon 8 = .ok (.aload_n 0, 1) := by decide +kernel
theorem dX8_atSemicolon_9 : decode cX8_atSemicolon 9 = .ok (.getfield 9, 3) := by decide +kernel
theorem dX8_atSemicolon_12 : decode cX8_atSemicolon 12 = .ok (.aload_n 0, 1) := by decide +kernel
theorem dX8_atSemicolon_13 : decode cX8_atSemicolon 13 = .ok (.getfield 28, 3) := by decide +kernel
theorem dX8_atSemicolon_16 : decode cX8_atSemicolon 16 = .ok (.baload, 1) := by decide +kernel
theorem dX8_atSemicolon_17 : decode cX8_atSemicolon 17 = .ok (.bipush 59, 2) := by decide +kernel
theorem dX8_atSemicolon_19 : decode cX8_atSemicolon 19 = .ok (.if_icmp .ne 7, 3) := by decide +kernel
theorem dX8_atSemicolon_22 : decode cX8_atSemicolon 22 = .ok (.iconst 1, 1) := by decide +kernel
theorem dX8_atSemicolon_23 : decode cX8_atSemicolon 23 = .ok (.goto 4, 3) := by decide +kernel
theorem dX8_atSemicolon_26 : decode cX8_atSemicolon 26 = .ok (.iconst 0, 1) := by decide +kernel
theorem dX8_atSemicolon_27 : decode cX8_atSemicolon 27 = .ok (.ireturn, 1) := by decide +kernel
theorem dX8_closes_0 : decode cX8_closes 0 = .ok (.aload_n 0, 1) := by decide +kernel
theorem dX8_closes_1 : decode cX8_closes 1 = .ok (.invokevirtual 94, 3) := by decide +kernel
theorem dX8_closes_4 : decode cX8_closes 4 = .ok (.ifCond .ne 9, 3) := by decide +kernel
theorem dX8_closes_7 : decode cX8_closes 7 = .ok (.aload_n 0, 1) := by decide +kernel
theorem dX8_closes_8 : decode cX8_closes 8 = .ok (.iconst 2, 1) := by decide +kernel
theorem dX8_closes_9 : decode cX8_closes 9 = .ok (.invokevirtual 98, 3) := by decide +kernel
theorem dX8_closes_12 : decode cX8_closes 12 = .ok (.ireturn, 1) := by decide +kernel
theorem dX8_closes_13 : decode cX8_closes 13 = .ok (.aload_n 0, 1) := by decide +kernel
theorem dX8_closes_14 : decode cX8_closes 14 = .ok (.invokevirtual 71, 3) := by decide +kernel
theorem dX8_closes_17 : decode cX8_closes 17 = .ok (.iconst 1, 1) := by decide +kernel
theorem dX8_closes_18 : decode cX8_closes 18 = .ok (.ireturn, 1) := by decide +kernel
theorem dX8_numberWithin_0 : decode cX8_numberWithin 0 = .ok (.aload_n 0, 1) := by decide +kernel
theorem dX8_numberWithin_1 : decode cX8_numberWithin 1 = .ok (.getfield 25, 3) := by decide +kernel
theorem dX8_numberWithin_4 : decode cX8_numberWithin 4 = .ok (.iconst 2, 1) := by decide +kernel
theorem dX8_numberWithin_5 : decode cX8_numberWithin 5 = .ok (.if_icmp .eq 11, 3) := by decide +kernel
theorem dX8_numberWithin_8 : decode cX8_numberWithin 8 = .ok (.aload_n 0, 1) := by decide +kernel
theorem dX8_numberWithin_9 : decode cX8_numberWithin 9 = .ok (.iconst 2, 1) := by decide +kernel
theorem dX8_numberWithin_10 : decode cX8_numberWithin 10 = .ok (.invokevirtual 98, 3) := by decide +kernel
theorem dX8_numberWithin_13 : decode cX8_numberWithin 13 = .ok (.pop, 1) := by decide +kernel
theorem dX8_numberWithin_14 : decode cX8_numberWithin 14 = .ok (.iconst (-1), 1) := by decide +kernel
theorem dX8_numberWithin_15 : decode cX8_numberWithin 15 = .ok (.ireturn, 1) := by decide +kernel
theorem dX8_numberWithin_16 : decode cX8_numberWithin 16 = .ok (.aload_n 0, 1) := by decide +kernel
theorem dX8_numberWithin_17 : decode cX8_numberWithin 17 = .ok (.getfield 40, 3) := by decide +kernel
theorem dX8_numberWithin_20 : decode cX8_numberWithin 20 = .ok (.iload_n 1, 1) := by decide +kernel
theorem dX8_numberWithin_21 : decode cX8_numberWithin 21 = .ok (.if_icmp .lt 11, 3) := by decide +kernel
theorem dX8_numberWithin_24 : decode cX8_numberWithin 24 = .ok (.aload_n 0, 1) := by decide +kernel
theorem dX8_numberWithin_25 : decode cX8_numberWithin 25 = .ok (.getfield 40, 3) := by decide +kernel
theorem dX8_numberWithin_28 : decode cX8_numberWithin 28 = .ok (.iload_n 2, 1) := by decide +kernel
theorem dX8_numberWithin_29 : decode cX8_numberWithin 29 = .ok (.if_icmp .le 11, 3) := by decide +kernel
theorem dX8_numberWithin_32 : decode cX8_numberWithin 32 = .ok (.aload_n 0, 1) := by decide +kernel
theorem dX8_numberWithin_33 : decode cX8_numberWithin 33 = .ok (.iconst 4, 1) := by decide +kernel
theorem dX8_numberWithin_34 : decode cX8_numberWithin 34 = .ok (.invokevirtual 98, 3) := by decide +kernel
theorem dX8_numberWithin_37 : decode cX8_numberWithin 37 = .ok (.pop, 1) := by decide +kernel
theorem dX8_numberWithin_38 : decode cX8_numberWithin 38 = .ok (.iconst (-1), 1) := by decide +kernel
theorem dX8_numberWithin_39 : decode cX8_numberWithin 39 = .ok (.ireturn, 1) := by decide +kernel
theorem dX8_numberWithin_40 : decode cX8_numberWithin 40 = .ok (.aload_n 0, 1) := by decide +kernel
theorem dX8_numberWithin_41 : decode cX8_numberWithin 41 = .ok (.getfield 40, 3) := by decide +kernel
theorem dX8_numberWithin_44 : decode cX8_numberWithin 44 = .ok (.istore_n 3, 1) := by decide +kernel
theorem dX8_numberWithin_45 : decode cX8_numberWithin 45 = .ok (.aload_n 0, 1) := by decide +kernel
theorem dX8_numberWithin_46 : decode cX8_numberWithin 46 = .ok (.invokevirtual 71, 3) := by decide +kernel
theorem dX8_numberWithin_49 : decode cX8_numberWithin 49 = .ok (.iload_n 3, 1) := by decide +kernel
theorem dX8_numberWithin_50 : decode cX8_numberWithin 50 = .ok (.ireturn, 1) := by decide +kernel
theorem dX8_nameHere_0 : decode cX8_nameHere 0 = .ok (.aload_n 0, 1) := by decide +kernel
theorem dX8_nameHere_1 : decode cX8_nameHere 1 = .ok (.getfield 25, 3) := by decide +kernel
theorem dX8_nameHere_4 : decode cX8_nameHere 4 = .ok (.iconst 1, 1) := by decide +kernel
theorem dX8_nameHere_5 : decode cX8_nameHere 5 = .ok (.if_icmp .ne 27, 3) := by decide +kernel
theorem dX8_nameHere_8 : decode cX8_nameHere 8 = .ok (.aload_n 0, 1) := by decide +kernel
theorem dX8_nameHere_9 : decode cX8_nameHere 9 = .ok (.getfield 33, 3) := by decide +kernel
theorem dX8_nameHere_12 : decode cX8_nameHere 12 = .ok (.ldc2_w 31, 3) := by decide +kernel
theorem dX8_nameHere_15 : decode cX8_nameHere 15 = .ok (.lcmp, 1) := by decide +kernel
theorem dX8_nameHere_16 : decode cX8_nameHere 16 = .ok (.ifCond .eq 16, 3) := by decide +kernel
theorem dX8_nameHere_19 : decode cX8_nameHere 19 = .ok (.aload_n 0, 1) := by decide +kernel
theorem dX8_nameHere_20 : decode cX8_nameHere 20 = .ok (.getfield 37, 3) := by decide +kernel
theorem dX8_nameHere_23 : decode cX8_nameHere 23 = .ok (.iconst (-1), 1) := by decide +kernel
theorem dX8_nameHere_24 : decode cX8_nameHere 24 = .ok (.if_icmp .ne 8, 3) := by decide +kernel
theorem dX8_nameHere_27 : decode cX8_nameHere 27 = .ok (.aload_n 0, 1) := by decide +kernel
theorem dX8_nameHere_28 : decode cX8_nameHere 28 = .ok (.getfield 33, 3) := by decide +kernel
theorem dX8_nameHere_31 : decode cX8_nameHere 31 = .ok (.lreturn, 1) := by decide +kernel
theorem dX8_nameHere_32 : decode cX8_nameHere 32 = .ok (.aload_n 0, 1) := by decide +kernel
theorem dX8_nameHere_33 : decode cX8_nameHere 33 = .ok (.iconst 2, 1) := by decide +kernel
theorem dX8_nameHere_34 : decode cX8_nameHere 34 = .ok (.invokevirtual 98, 3) := by decide +kernel
theorem dX8_nameHere_37 : decode cX8_nameHere 37 = .ok (.pop, 1) := by decide +kernel
theorem dX8_nameHere_38 : decode cX8_nameHere 38 = .ok (.ldc2_w 31, 3) := by decide +kernel
theorem dX8_nameHere_41 : decode cX8_nameHere 41 = .ok (.lreturn, 1) := by decide +kernel
theorem dX8_oneOf_0 : decode cX8_oneOf 0 = .ok (.aload_n 0, 1) := by decide +kernel
theorem dX8_oneOf_1 : decode cX8_oneOf 1 = .ok (.invokevirtual 101, 3) := by decide +kernel
theorem dX8_oneOf_4 : decode cX8_oneOf 4 = .ok (.lstore_n 3, 1) := by decide +kernel
theorem dX8_oneOf_5 : decode cX8_oneOf 5 = .ok (.lload_n 3, 1) := by decide +kernel
theorem dX8_oneOf_6 : decode cX8_oneOf 6 = .ok (.ldc2_w 31, 3) := by decide +kernel
theorem dX8_oneOf_9 : decode cX8_oneOf 9 = .ok (.lcmp, 1) := by decide +kernel
theorem dX8_oneOf_10 : decode cX8_oneOf 10 = .ok (.ifCond .ne 5, 3) := by decide +kernel
theorem dX8_oneOf_13 : decode cX8_oneOf 13 = .ok (.iconst (-1), 1) := by decide +kernel
theorem dX8_oneOf_14 : decode cX8_oneOf 14 = .ok (.ireturn, 1) := by decide +kernel
theorem dX8_oneOf_15 : decode cX8_oneOf 15 = .ok (.aload_n 1, 1) := by decide +kernel
theorem dX8_oneOf_16 : decode cX8_oneOf 16 = .ok (.iload_n 2, 1) := by decide +kernel
theorem dX8_oneOf_17 : decode cX8_oneOf 17 = .ok (.lload_n 3, 1) := by decide +kernel
theorem dX8_oneOf_18 : decode cX8_oneOf 18 = .ok (.invokestatic 105, 3) := by decide +kernel
theorem dX8_oneOf_21 : decode cX8_oneOf 21 = .ok (.istore 5, 2) := by decide +kernel
theorem dX8_oneOf_23 : decode cX8_oneOf 23 = .ok (.iload 5, 2) := by decide +kernel
theorem dX8_oneOf_25 : decode cX8_oneOf 25 = .ok (.iconst (-1), 1) := by decide +kernel
theorem dX8_oneOf_26 : decode cX8_oneOf 26 = .ok (.if_icmp .ne 11, 3) := by decide +kernel
theorem dX8_oneOf_29 : decode cX8_oneOf 29 = .ok (.aload_n 0, 1) := by decide +kernel
theorem dX8_oneOf_30 : decode cX8_oneOf 30 = .ok (.iconst 3, 1) := by decide +kernel
theorem dX8_oneOf_31 : decode cX8_oneOf 31 = .ok (.invokevirtual 98, 3) := by decide +kernel
theorem dX8_oneOf_34 : decode cX8_oneOf 34 = .ok (.pop, 1) := by decide +kernel
theorem dX8_oneOf_35 : decode cX8_oneOf 35 = .ok (.iconst (-1), 1) := by decide +kernel
theorem dX8_oneOf_36 : decode cX8_oneOf 36 = .ok (.ireturn, 1) := by decide +kernel
theorem dX8_oneOf_37 : decode cX8_oneOf 37 = .ok (.aload_n 0, 1) := by decide +kernel
theorem dX8_oneOf_38 : decode cX8_oneOf 38 = .ok (.invokevirtual 71, 3) := by decide +kernel
theorem dX8_oneOf_41 : decode cX8_oneOf 41 = .ok (.iload 5, 2) := by decide +kernel
theorem dX8_oneOf_43 : decode cX8_oneOf 43 = .ok (.ireturn, 1) := by decide +kernel
theorem dX9_init_0 : decode cX9_init 0 = .ok (.aload_n 0, 1) := by decide +kernel
theorem dX9_init_1 : decode cX9_init 1 = .ok (.invokespecial 3, 3) := by decide +kernel
theorem dX9_init_4 : decode cX9_init 4 = .ok (.aload_n 0, 1) := by decide +kernel
theorem dX9_init_5 : decode cX9_init 5 = .ok (.iconst 4, 1) := by decide +kernel
theorem dX9_init_6 : decode cX9_init 6 = .ok (.bipush 60, 2) := by decide +kernel
theorem dX9_init_8 : decode cX9_init 8 = .ok (.multianewarray 9 2, 4) := by decide +kernel
theorem dX9_init_12 : decode cX9_init 12 = .ok (.putfield 11, 3) := by decide +kernel
theorem dX9_init_15 : decode cX9_init 15 = .ok (.aload_n 0, 1) := by decide +kernel
theorem dX9_init_16 : decode cX9_init 16 = .ok (.iconst 4, 1) := by decide +kernel
theorem dX9_init_17 : decode cX9_init 17 = .ok (.newarray .int, 2) := by decide +kernel
theorem dX9_init_19 : decode cX9_init 19 = .ok (.putfield 16, 3) := by decide +kernel
theorem dX9_init_22 : decode cX9_init 22 = .ok (.aload_n 0, 1) := by decide +kernel
theorem dX9_init_23 : decode cX9_init 23 = .ok (.iconst 4, 1) := by decide +kernel
theorem dX9_init_24 : decode cX9_init 24 = .ok (.newarray .int, 2) := by decide +kernel
theorem dX9_init_26 : decode cX9_init 26 = .ok (.putfield 20, 3) := by decide +kernel
theorem dX9_init_29 : decode cX9_init 29 = .ok (.aload_n 0, 1) := by decide +kernel
theorem dX9_init_30 : decode cX9_init 30 = .ok (.getfield 20, 3) := by decide +kernel
theorem dX9_init_33 : decode cX9_init 33 = .ok (.iconst (-1), 1) := by decide +kernel
theorem dX9_init_34 : decode cX9_init 34 = .ok (.invokestatic 23, 3) := by decide +kernel
theorem dX9_init_37 : decode cX9_init 37 = .ok (.return_, 1) := by decide +kernel
theorem dX9_isKnown_0 : decode cX9_isKnown 0 = .ok (.iload_n 1, 1) := by decide +kernel
theorem dX9_isKnown_1 : decode cX9_isKnown 1 = .ok (.ifCond .lt 12, 3) := by decide +kernel
theorem dX9_isKnown_4 : decode cX9_isKnown 4 = .ok (.iload_n 1, 1) := by decide +kernel
theorem dX9_isKnown_5 : decode cX9_isKnown 5 = .ok (.iconst 4, 1) := by decide +kernel
theorem dX9_isKnown_6 : decode cX9_isKnown 6 = .ok (.if_icmp .ge 7, 3) := by decide +kernel
theorem dX9_isKnown_9 : decode cX9_isKnown 9 = .ok (.iconst 1, 1) := by decide +kernel
theorem dX9_isKnown_10 : decode cX9_isKnown 10 = .ok (.goto 4, 3) := by decide +kernel
theorem dX9_isKnown_13 : decode cX9_isKnown 13 = .ok (.iconst 0, 1) := by decide +kernel
theorem dX9_isKnown_14 : decode cX9_isKnown 14 = .ok (.ireturn, 1) := by decide +kernel
theorem dX9_isMissing_0 : decode cX9_isMissing 0 = .ok (.aload_n 0, 1) := by decide +kernel
theorem dX9_isMissing_1 : decode cX9_isMissing 1 = .ok (.getfield 20, 3) := by decide +kernel
theorem dX9_isMissing_4 : decode cX9_isMissing 4 = .ok (.iload_n 1, 1) := by decide +kernel
theorem dX9_isMissing_5 : decode cX9_isMissing 5 = .ok (.iaload, 1) := by decide +kernel
theorem dX9_isMissing_6 : decode cX9_isMissing 6 = .ok (.iconst (-1), 1) := by decide +kernel
theorem dX9_isMissing_7 : decode cX9_isMissing 7 = .ok (.if_icmp .ne 7, 3) := by decide +kernel
theorem dX9_isMissing_10 : decode cX9_isMissing 10 = .ok (.iconst 1, 1) := by decide +kernel
theorem dX9_isMissing_11 : decode cX9_isMissing 11 = .ok (.goto 4, 3) := by decide +kernel
theorem dX9_isMissing_14 : decode cX9_isMissing 14 = .ok (.iconst 0, 1) := by decide +kernel
theorem dX9_isMissing_15 : decode cX9_isMissing 15 = .ok (.ireturn, 1) := by decide +kernel
theorem dX9_make_0 : decode cX9_make 0 = .ok (.aload_n 0, 1) := by decide +kernel
theorem dX9_make_1 : decode cX9_make 1 = .ok (.getfield 11, 3) := by decide +kernel
theorem dX9_make_4 : decode cX9_make 4 = .ok (.iload_n 1, 1) := by decide +kernel
theorem dX9_make_5 : decode cX9_make 5 = .ok (.aaload, 1) := by decide +kernel
theorem dX9_make_6 : decode cX9_make 6 = .ok (.lconst 0, 1) := by decide +kernel
theorem dX9_make_7 : decode cX9_make 7 = .ok (.invokestatic 29, 3) := by decide +kernel
theorem dX9_make_10 : decode cX9_make 10 = .ok (.aload_n 0, 1) := by decide +kernel
theorem dX9_make_11 : decode cX9_make 11 = .ok (.getfield 16, 3) := by decide +kernel
theorem dX9_make_14 : decode cX9_make 14 = .ok (.iload_n 1, 1) := by decide +kernel
theorem dX9_make_15 : decode cX9_make 15 = .ok (.iload_n 2, 1) := by decide +kernel
theorem dX9_make_16 : decode cX9_make 16 = .ok (.iastore, 1) := by decide +kernel
theorem dX9_make_17 : decode cX9_make 17 = .ok (.aload_n 0, 1) := by decide +kernel
theorem dX9_make_18 : decode cX9_make 18 = .ok (.getfield 20, 3) := by decide +kernel
theorem dX9_make_21 : decode cX9_make 21 = .ok (.iload_n 1, 1) := by decide +kernel
theorem dX9_make_22 : decode cX9_make 22 = .ok (.iload_n 3, 1) := by decide +kernel
theorem dX9_make_23 : decode cX9_make 23 = .ok (.iastore, 1) := by decide +kernel
theorem dX9_make_24 : decode cX9_make 24 = .ok (.return_, 1) := by decide +kernel
theorem dX9_put_0 : decode cX9_put 0 = .ok (.aload_n 0, 1) := by decide +kernel
theorem dX9_put_1 : decode cX9_put 1 = .ok (.getfield 11, 3) := by decide +kernel
theorem dX9_put_4 : decode cX9_put 4 = .ok (.iload_n 1, 1) := by decide +kernel
theorem dX9_put_5 : decode cX9_put 5 = .ok (.aaload, 1) := by decide +kernel
theorem dX9_put_6 : decode cX9_put 6 = .ok (.iload_n 2, 1) := by decide +kernel
theorem dX9_put_7 : decode cX9_put 7 = .ok (.aload_n 0, 1) := by decide +kernel
theorem dX9_put_8 : decode cX9_put 8 = .ok (.getfield 16, 3) := by decide +kernel
theorem dX9_put_11 : decode cX9_put 11 = .ok (.iload_n 1, 1) := by decide +kernel
theorem dX9_put_12 : decode cX9_put 12 = .ok (.iaload, 1) := by decide +kernel
theorem dX9_put_13 : decode cX9_put 13 = .ok (.lload_n 3, 1) := by decide +kernel
theorem dX9_put_14 : decode cX9_put 14 = .ok (.invokestatic 32, 3) := by decide +kernel
theorem dX9_put_17 : decode cX9_put 17 = .ok (.lastore, 1) := by decide +kernel
theorem dX9_put_18 : decode cX9_put 18 = .ok (.return_, 1) := by decide +kernel
theorem dX9_cut_0 : decode cX9_cut 0 = .ok (.iload_n 0, 1) := by decide +kernel
theorem dX9_cut_1 : decode cX9_cut 1 = .ok (.tableswitch 41 0 2 #[27, 32, 37], 27) := by decide +kernel
theorem dX9_cut_28 : decode cX9_cut 28 = .ok (.lload_n 1, 1) := by decide +kernel
theorem dX9_cut_29 : decode cX9_cut 29 = .ok (.l2i, 1) := by decide +kernel
theorem dX9_cut_30 : decode cX9_cut 30 = .ok (.i2b, 1) := by decide +kernel
theorem dX9_cut_31 : decode cX9_cut 31 = .ok (.i2l, 1) := by decide +kernel
theorem dX9_cut_32 : decode cX9_cut 32 = .ok (.lreturn, 1) := by decide +kernel
theorem dX9_cut_33 : decode cX9_cut 33 = .ok (.lload_n 1, 1) := by decide +kernel
theorem dX9_cut_34 : decode cX9_cut 34 = .ok (.l2i, 1) := by decide +kernel
theorem dX9_cut_35 : decode cX9_cut 35 = .ok (.i2s, 1) := by decide +kernel
theorem dX9_cut_36 : decode cX9_cut 36 = .ok (.i2l, 1) := by decide +kernel
theorem dX9_cut_37 : decode cX9_cut 37 = .ok (.lreturn, 1) := by decide +kernel
theorem dX9_cut_38 : decode cX9_cut 38 = .ok (.lload_n 1, 1) := by decide +kernel
theorem dX9_cut_39 : decode cX9_cut 39 = .ok (.l2i, 1) := by decide +kernel
theorem dX9_cut_40 : decode cX9_cut 40 = .ok (.i2l, 1) := by decide +kernel
theorem dX9_cut_41 : decode cX9_cut 41 = .ok (.lreturn, 1) := by decide +kernel
theorem dX9_cut_42 : decode cX9_cut 42 = .ok (.lload_n 1, 1) := by decide +kernel
theorem dX9_cut_43 : decode cX9_cut 43 = .ok (.lreturn, 1) := by decide +kernel
theorem dX9_placeStatus_0 : decode cX9_placeStatus 0 = .ok (.aload_n 0, 1) := by decide +kernel
theorem dX9_placeStatus_1 : decode cX9_placeStatus 1 = .ok (.iload_n 1, 1) := by decide +kernel
theorem dX9_placeStatus_2 : decode cX9_placeStatus 2 = .ok (.invokevirtual 36, 3) := by decide +kernel
theorem dX9_placeStatus_5 : decode cX9_placeStatus 5 = .ok (.ifCond .ne 5, 3) := by decide +kernel
theorem dX9_placeStatus_8 : decode cX9_placeStatus 8 = .ok (.iconst 1, 1) := by decide +kernel
theorem dX9_placeStatus_9 : decode cX9_placeStatus 9 = .ok (.ireturn, 1) := by decide +kernel
theorem dX9_placeStatus_10 : decode cX9_placeStatus 10 = .ok (.aload_n 0, 1) := by decide +kernel
theorem dX9_placeStatus_11 : decode cX9_placeStatus 11 = .ok (.iload_n 1, 1) := by decide +kernel
theorem dX9_placeStatus_12 : decode cX9_placeStatus 12 = .ok (.invokevirtual 40, 3) := by decide +kernel
theorem dX9_placeStatus_15 : decode cX9_placeStatus 15 = .ok (.ifCond .eq 5, 3) := by decide +kernel
theorem dX9_placeStatus_18 : decode cX9_placeStatus 18 = .ok (.iconst 3, 1) := by decide +kernel
theorem dX9_placeStatus_19 : decode cX9_placeStatus 19 = .ok (.ireturn, 1) := by decide +kernel
theorem dX9_placeStatus_20 : decode cX9_placeStatus 20 = .ok (.iload_n 2, 1) := by decide +kernel
theorem dX9_placeStatus_21 : decode cX9_placeStatus 21 = .ok (.ifCond .lt 17, 3) := by decide +kernel
theorem dX9_placeStatus_24 : decode cX9_placeStatus 24 = .ok (.iload_n 2, 1) := by decide +kernel
theorem dX9_placeStatus_25 : decode cX9_placeStatus 25 = .ok (.aload_n 0, 1) := by decide +kernel
theorem dX9_placeStatus_26 : decode cX9_placeStatus 26 = .ok (.getfield 20, 3) := by decide +kernel
theorem dX9_placeStatus_29 : decode cX9_placeStatus 29 = .ok (.iload_n 1, 1) := by decide +kernel
theorem dX9_placeStatus_30 : decode cX9_placeStatus 30 = .ok (.iaload, 1) := by decide +kernel
theorem dX9_placeStatus_31 : decode cX9_placeStatus 31 = .ok (.if_icmp .ge 7, 3) := by decide +kernel
theorem dX9_placeStatus_34 : decode cX9_placeStatus 34 = .ok (.iconst 0, 1) := by decide +kernel
theorem dX9_placeStatus_35 : decode cX9_placeStatus 35 = .ok (.goto 4, 3) := by decide +kernel
theorem dX9_placeStatus_38 : decode cX9_placeStatus 38 = .ok (.iconst 4, 1) := by decide +kernel
theorem dX9_placeStatus_39 : decode cX9_placeStatus 39 = .ok (.ireturn, 1) := by decide +kernel
theorem dX9_pairStatus_0 : decode cX9_pairStatus 0 = .ok (.aload_n 0, 1) := by decide +kernel
theorem dX9_pairStatus_1 : decode cX9_pairStatus 1 = .ok (.iload_n 1, 1) := by decide +kernel
theorem dX9_pairStatus_2 : decode cX9_pairStatus 2 = .ok (.invokevirtual 36, 3) := by decide +kernel
theorem dX9_pairStatus_5 : decode cX9_pairStatus 5 = .ok (.ifCond .eq 11, 3) := by decide +kernel
theorem dX9_pairStatus_8 : decode cX9_pairStatus 8 = .ok (.aload_n 0, 1) := by decide +kernel
theorem dX9_pairStatus_9 : decode cX9_pairStatus 9 = .ok (.iload_n 2, 1) := by decide +kernel
theorem dX9_pairStatus_10 : decode cX9_pairStatus 10 = .ok (.invokevirtual 36, 3) := by decide +kernel
theorem dX9_pairStatus_13 : decode cX9_pairStatus 13 = .ok (.ifCond .ne 5, 3) := by decide +kernel
theorem dX9_pairStatus_16 : decode cX9_pairStatus 16 = .ok (.iconst 1, 1) := by decide +kernel
theorem dX9_pairStatus_17 : decode cX9_pairStatus 17 = .ok (.ireturn, 1) := by decide +kernel
theorem dX9_pairStatus_18 : decode cX9_pairStatus 18 = .ok (.aload_n 0, 1) := by decide +kernel
theorem dX9_pairStatus_19 : decode cX9_pairStatus 19 = .ok (.iload_n 1, 1) := by decide +kernel
theorem dX9_pairStatus_20 : decode cX9_pairStatus 20 = .ok (.invokevirtual 40, 3) := by decide +kernel
theorem dX9_pairStatus_23 : decode cX9_pairStatus 23 = .ok (.ifCond .ne 11, 3) := by decide +kernel
theorem dX9_pairStatus_26 : decode cX9_pairStatus 26 = .ok (.aload_n 0, 1) := by decide +kernel
theorem dX9_pairStatus_27 : decode cX9_pairStatus 27 = .ok (.iload_n 2, 1) := by decide +kernel
theorem dX9_pairStatus_28 : decode cX9_pairStatus 28 = .ok (.invokevirtual 40, 3) := by decide +kernel
theorem dX9_pairStatus_31 : decode cX9_pairStatus 31 = .ok (.ifCond .eq 7, 3) := by decide +kernel
theorem dX9_pairStatus_34 : decode cX9_pairStatus 34 = .ok (.iconst 3, 1) := by decide +kernel
theorem dX9_pairStatus_35 : decode cX9_pairStatus 35 = .ok (.goto 4, 3) := by decide +kernel
theorem dX9_pairStatus_38 : decode cX9_pairStatus 38 = .ok (.iconst 0, 1) := by decide +kernel
theorem dX9_pairStatus_39 : decode cX9_pairStatus 39 = .ok (.ireturn, 1) := by decide +kernel
theorem dX9_pourStatus_0 : decode cX9_pourStatus 0 = .ok (.aload_n 0, 1) := by decide +kernel
theorem dX9_pourStatus_1 : decode cX9_pourStatus 1 = .ok (.iload_n 1, 1) := by decide +kernel
theorem dX9_pourStatus_2 : decode cX9_pourStatus 2 = .ok (.iload_n 3, 1) := by decide +kernel
theorem dX9_pourStatus_3 : decode cX9_pourStatus 3 = .ok (.invokevirtual 43, 3) := by decide +kernel
theorem dX9_pourStatus_6 : decode cX9_pourStatus 6 = .ok (.istore 6, 2) := by decide +kernel
theorem dX9_pourStatus_8 : decode cX9_pourStatus 8 = .ok (.iload 6, 2) := by decide +kernel
theorem dX9_pourStatus_10 : decode cX9_pourStatus 10 = .ok (.ifCond .eq 6, 3) := by decide +kernel
theorem dX9_pourStatus_13 : decode cX9_pourStatus 13 = .ok (.iload 6, 2) := by decide +kernel
theorem dX9_pourStatus_15 : decode cX9_pourStatus 15 = .ok (.ireturn, 1) := by decide +kernel
theorem dX9_pourStatus_16 : decode cX9_pourStatus 16 = .ok (.aload_n 0, 1) := by decide +kernel
theorem dX9_pourStatus_17 : decode cX9_pourStatus 17 = .ok (.getfield 16, 3) := by decide +kernel
theorem dX9_pourStatus_20 : decode cX9_pourStatus 20 = .ok (.iload_n 1, 1) := by decide +kernel
theorem dX9_pourStatus_21 : decode cX9_pourStatus 21 = .ok (.iaload, 1) := by decide +kernel
theorem dX9_pourStatus_22 : decode cX9_pourStatus 22 = .ok (.aload_n 0, 1) := by decide +kernel
theorem dX9_pourStatus_23 : decode cX9_pourStatus 23 = .ok (.getfield 16, 3) := by decide +kernel
theorem dX9_pourStatus_26 : decode cX9_pourStatus 26 = .ok (.iload_n 3, 1) := by decide +kernel
theorem dX9_pourStatus_27 : decode cX9_pourStatus 27 = .ok (.iaload, 1) := by decide +kernel
theorem dX9_pourStatus_28 : decode cX9_pourStatus 28 = .ok (.if_icmp .eq 6, 3) := by decide +kernel
theorem dX9_pourStatus_31 : decode cX9_pourStatus 31 = .ok (.bipush 11, 2) := by decide +kernel
theorem dX9_pourStatus_33 : decode cX9_pourStatus 33 = .ok (.ireturn, 1) := by decide +kernel
theorem dX9_pourStatus_34 : decode cX9_pourStatus 34 = .ok (.iload 5, 2) := by decide +kernel
theorem dX9_pourStatus_36 : decode cX9_pourStatus 36 = .ok (.ifCond .ge 6, 3) := by decide +kernel
theorem dX9_pourStatus_39 : decode cX9_pourStatus 39 = .ok (.bipush 6, 2) := by decide +kernel
theorem dX9_pourStatus_41 : decode cX9_pourStatus 41 = .ok (.ireturn, 1) := by decide +kernel
theorem dX9_pourStatus_42 : decode cX9_pourStatus 42 = .ok (.aload_n 0, 1) := by decide +kernel
theorem dX9_pourStatus_43 : decode cX9_pourStatus 43 = .ok (.iload_n 1, 1) := by decide +kernel
theorem dX9_pourStatus_44 : decode cX9_pourStatus 44 = .ok (.iload_n 2, 1) := by decide +kernel
theorem dX9_pourStatus_45 : decode cX9_pourStatus 45 = .ok (.iload 5, 2) := by decide +kernel
theorem dX9_pourStatus_47 : decode cX9_pourStatus 47 = .ok (.invokevirtual 47, 3) := by decide +kernel
theorem dX9_pourStatus_50 : decode cX9_pourStatus 50 = .ok (.ifCond .eq 19, 3) := by decide +kernel
theorem dX9_pourStatus_53 : decode cX9_pourStatus 53 = .ok (.aload_n 0, 1) := by decide +kernel
theorem dX9_pourStatus_54 : decode cX9_pourStatus 54 = .ok (.iload_n 3, 1) := by decide +kernel
theorem dX9_pourStatus_55 : decode cX9_pourStatus 55 = .ok (.iload 4, 2) := by decide +kernel
theorem dX9_pourStatus_57 : decode cX9_pourStatus 57 = .ok (.iload 5, 2) := by decide +kernel
theorem dX9_pourStatus_59 : decode cX9_pourStatus 59 = .ok (.invokevirtual 47, 3) := by decide +kernel
theorem dX9_pourStatus_62 : decode cX9_pourStatus 62 = .ok (.ifCond .eq 7, 3) := by decide +kernel
theorem dX9_pourStatus_65 : decode cX9_pourStatus 65 = .ok (.iconst 0, 1) := by decide +kernel
theorem dX9_pourStatus_66 : decode cX9_pourStatus 66 = .ok (.goto 4, 3) := by decide +kernel
theorem dX9_pourStatus_69 : decode cX9_pourStatus 69 = .ok (.iconst 4, 1) := by decide +kernel
theorem dX9_pourStatus_70 : decode cX9_pourStatus 70 = .ok (.ireturn, 1) := by decide +kernel
theorem dX9_hasRun_0 : decode cX9_hasRun 0 = .ok (.iload_n 2, 1) := by decide +kernel
theorem dX9_hasRun_1 : decode cX9_hasRun 1 = .ok (.ifCond .lt 29, 3) := by decide +kernel
theorem dX9_hasRun_4 : decode cX9_hasRun 4 = .ok (.iload_n 2, 1) := by decide +kernel
theorem dX9_hasRun_5 : decode cX9_hasRun 5 = .ok (.aload_n 0, 1) := by decide +kernel
theorem dX9_hasRun_6 : decode cX9_hasRun 6 = .ok (.getfield 20, 3) := by decide +kernel
theorem dX9_hasRun_9 : decode cX9_hasRun 9 = .ok (.iload_n 1, 1) := by decide +kernel
theorem dX9_hasRun_10 : decode cX9_hasRun 10 = .ok (.iaload, 1) := by decide +kernel
theorem dX9_hasRun_11 : decode cX9_hasRun 11 = .ok (.if_icmp .gt 19, 3) := by decide +kernel
theorem dX9_hasRun_14 : decode cX9_hasRun 14 = .ok (.iload_n 3, 1) := by decide +kernel
theorem dX9_hasRun_15 : decode cX9_hasRun 15 = .ok (.aload_n 0, 1) := by decide +kernel
theorem dX9_hasRun_16 : decode cX9_hasRun 16 = .ok (.getfield 20, 3) := by decide +kernel
theorem dX9_hasRun_19 : decode cX9_hasRun 19 = .ok (.iload_n 1, 1) := by decide +kernel
theorem dX9_hasRun_20 : decode cX9_hasRun 20 = .ok (.iaload, 1) := by decide +kernel
theorem dX9_hasRun_21 : decode cX9_hasRun 21 = .ok (.iload_n 2, 1) := by decide +kernel
theorem dX9_hasRun_22 : decode cX9_hasRun 22 = .ok (.isub, 1) := by decide +kernel
theorem dX9_hasRun_23 : decode cX9_hasRun 23 = .ok (.if_icmp .gt 7, 3) := by decide +kernel
theorem dX9_hasRun_26 : decode cX9_hasRun 26 = .ok (.iconst 1, 1) := by decide +kernel
theorem dX9_hasRun_27 : decode cX9_hasRun 27 = .ok (.goto 4, 3) := by decide +kernel
theorem dX9_hasRun_30 : decode cX9_hasRun 30 = .ok (.iconst 0, 1) := by decide +kernel
theorem dX9_hasRun_31 : decode cX9_hasRun 31 = .ok (.ireturn, 1) := by decide +kernel
theorem dX10_init_0 : decode cX10_init 0 = .ok (.aload_n 0, 1) := by decide +kernel
theorem dX10_init_1 : decode cX10_init 1 = .ok (.invokespecial 3, 3) := by decide +kernel
theorem dX10_init_4 : decode cX10_init 4 = .ok (.aload_n 0, 1) := by decide +kernel
theorem dX10_init_5 : decode cX10_init 5 = .ok (.bipush 10, 2) := by decide +kernel
theorem dX10_init_7 : decode cX10_init 7 = .ok (.newarray .int, 2) := by decide +kernel
theorem dX10_init_9 : decode cX10_init 9 = .ok (.putfield 9, 3) := by decide +kernel
theorem dX10_init_12 : decode cX10_init 12 = .ok (.aload_n 0, 1) := by decide +kernel
theorem dX10_init_13 : decode cX10_init 13 = .ok (.bipush 60, 2) := by decide +kernel
theorem dX10_init_15 : decode cX10_init 15 = .ok (.newarray .int, 2) := by decide +kernel
theorem dX10_init_17 : decode cX10_init 17 = .ok (.putfield 15, 3) := by decide +kernel
theorem dX10_init_20 : decode cX10_init 20 = .ok (.aload_n 0, 1) := by decide +kernel
theorem dX10_init_21 : decode cX10_init 21 = .ok (.iconst 0, 1) := by decide +kernel
theorem dX10_init_22 : decode cX10_init 22 = .ok (.putfield 18, 3) := by decide +kernel
theorem dX10_init_25 : decode cX10_init 25 = .ok (.aload_n 0, 1) := by decide +kernel
theorem dX10_init_26 : decode cX10_init 26 = .ok (.iconst 0, 1) := by decide +kernel
theorem dX10_init_27 : decode cX10_init 27 = .ok (.putfield 22, 3) := by decide +kernel
theorem dX10_init_30 : decode cX10_init 30 = .ok (.aload_n 0, 1) := by decide +kernel
theorem dX10_init_31 : decode cX10_init 31 = .ok (.bipush 11, 2) := by decide +kernel
theorem dX10_init_33 : decode cX10_init 33 = .ok (.newarray .long, 2) := by decide +kernel
theorem dX10_init_35 : decode cX10_init 35 = .ok (.putfield 25, 3) := by decide +kernel
theorem dX10_init_38 : decode cX10_init 38 = .ok (.aload_n 0, 1) := by decide +kernel
theorem dX10_init_39 : decode cX10_init 39 = .ok (.bipush 10, 2) := by decide +kernel
theorem dX10_init_41 : decode cX10_init 41 = .ok (.newarray .int, 2) := by decide +kernel
theorem dX10_init_43 : decode cX10_init 43 = .ok (.putfield 29, 3) := by decide +kernel
theorem dX10_init_46 : decode cX10_init 46 = .ok (.return_, 1) := by decide +kernel
theorem dX10_load_0 : decode cX10_load 0 = .ok (.aload_n 1, 1) := by decide +kernel
theorem dX10_load_1 : decode cX10_load 1 = .ok (.iload_n 2, 1) := by decide +kernel
theorem dX10_load_2 : decode cX10_load 2 = .ok (.iload 4, 2) := by decide +kernel
theorem dX10_load_4 : decode cX10_load 4 = .ok (.invokevirtual 32, 3) := by decide +kernel
theorem dX10_load_7 : decode cX10_load 7 = .ok (.istore 6, 2) := by decide +kernel
theorem dX10_load_9 : decode cX10_load 9 = .ok (.iload 6, 2) := by decide +kernel
theorem dX10_load_11 : decode cX10_load 11 = .ok (.ifCond .eq 6, 3) := by decide +kernel
theorem dX10_load_14 : decode cX10_load 14 = .ok (.iload 6, 2) := by decide +kernel
theorem dX10_load_16 : decode cX10_load 16 = .ok (.ireturn, 1) := by decide +kernel
theorem dX10_load_17 : decode cX10_load 17 = .ok (.iload_n 3, 1) := by decide +kernel
theorem dX10_load_18 : decode cX10_load 18 = .ok (.aload_n 1, 1) := by decide +kernel
theorem dX10_load_19 : decode cX10_load 19 = .ok (.getfield 38, 3) := by decide +kernel
theorem dX10_load_22 : decode cX10_load 22 = .ok (.iload_n 2, 1) := by decide +kernel
theorem dX10_load_23 : decode cX10_load 23 = .ok (.iaload, 1) := by decide +kernel
theorem dX10_load_24 : decode cX10_load 24 = .ok (.if_icmp .gt 15, 3) := by decide +kernel
theorem dX10_load_27 : decode cX10_load 27 = .ok (.iload 5, 2) := by decide +kernel
theorem dX10_load_29 : decode cX10_load 29 = .ok (.aload_n 1, 1) := by decide +kernel
theorem dX10_load_30 : decode cX10_load 30 = .ok (.getfield 38, 3) := by decide +kernel
theorem dX10_load_33 : decode cX10_load 33 = .ok (.iload 4, 2) := by decide +kernel
theorem dX10_load_35 : decode cX10_load 35 = .ok (.iaload, 1) := by decide +kernel
theorem dX10_load_36 : decode cX10_load 36 = .ok (.if_icmp .le 5, 3) := by decide +kernel
theorem dX10_load_39 : decode cX10_load 39 = .ok (.iconst 4, 1) := by decide +kernel
theorem dX10_load_40 : decode cX10_load 40 = .ok (.ireturn, 1) := by decide +kernel
theorem dX10_load_41 : decode cX10_load 41 = .ok (.iload_n 3, 1) := by decide +kernel
theorem dX10_load_42 : decode cX10_load 42 = .ok (.iconst 1, 1) := by decide +kernel
theorem dX10_load_43 : decode cX10_load 43 = .ok (.if_icmp .lt 22, 3) := by decide +kernel
theorem dX10_load_46 : decode cX10_load 46 = .ok (.iload_n 3, 1) := by decide +kernel
theorem dX10_load_47 : decode cX10_load 47 = .ok (.bipush 10, 2) := by decide +kernel
theorem dX10_load_49 : decode cX10_load 49 = .ok (.if_icmp .gt 16, 3) := by decide +kernel
theorem dX10_load_52 : decode cX10_load 52 = .ok (.iload 5, 2) := by decide +kernel
theorem dX10_load_54 : decode cX10_load 54 = .ok (.iconst 1, 1) := by decide +kernel
theorem dX10_load_55 : decode cX10_load 55 = .ok (.if_icmp .lt 10, 3) := by decide +kernel
theorem dX10_load_58 : decode cX10_load 58 = .ok (.iload 5, 2) := by decide +kernel
theorem dX10_load_60 : decode cX10_load 60 = .ok (.bipush 60, 2) := by decide +kernel
theorem dX10_load_62 : decode cX10_load 62 = .ok (.if_icmp .le 5, 3) := by decide +kernel
theorem dX10_load_65 : decode cX10_load 65 = .ok (.iconst 5, 1) := by decide +kernel
theorem dX10_load_66 : decode cX10_load 66 = .ok (.ireturn, 1) := by decide +kernel
theorem dX10_load_67 : decode cX10_load 67 = .ok (.aload_n 0, 1) := by decide +kernel
theorem dX10_load_68 : decode cX10_load 68 = .ok (.iload_n 3, 1) := by decide +kernel
theorem dX10_load_69 : decode cX10_load 69 = .ok (.putfield 18, 3) := by decide +kernel
theorem dX10_load_72 : decode cX10_load 72 = .ok (.aload_n 0, 1) := by decide +kernel
theorem dX10_load_73 : decode cX10_load 73 = .ok (.iload 5, 2) := by decide +kernel
theorem dX10_load_75 : decode cX10_load 75 = .ok (.putfield 22, 3) := by decide +kernel
theorem dX10_load_78 : decode cX10_load 78 = .ok (.aload_n 1, 1) := by decide +kernel
theorem dX10_load_79 : decode cX10_load 79 = .ok (.getfield 41, 3) := by decide +kernel
theorem dX10_load_82 : decode cX10_load 82 = .ok (.iload_n 2, 1) := by decide +kernel
theorem dX10_load_83 : decode cX10_load 83 = .ok (.aaload, 1) := by decide +kernel
theorem dX10_load_84 : decode cX10_load 84 = .ok (.aload_n 0, 1) := by decide +kernel
theorem dX10_load_85 : decode cX10_load 85 = .ok (.getfield 9, 3) := by decide +kernel
theorem dX10_load_88 : decode cX10_load 88 = .ok (.iload_n 3, 1) := by decide +kernel
theorem dX10_load_89 : decode cX10_load 89 = .ok (.invokestatic 45, 3) := by decide +kernel
theorem dX10_load_92 : decode cX10_load 92 = .ok (.ifCond .eq 26, 3) := by decide +kernel
theorem dX10_load_95 : decode cX10_load 95 = .ok (.aload_n 1, 1) := by decide +kernel
theorem dX10_load_96 : decode cX10_load 96 = .ok (.getfield 41, 3) := by decide +kernel
theorem dX10_load_99 : decode cX10_load 99 = .ok (.iload 4, 2) := by decide +kernel
theorem dX10_load_101 : decode cX10_load 101 = .ok (.aaload, 1) := by decide +kernel
theorem dX10_load_102 : decode cX10_load 102 = .ok (.aload_n 0, 1) := by decide +kernel
theorem dX10_load_103 : decode cX10_load 103 = .ok (.getfield 15, 3) := by decide +kernel
theorem dX10_load_106 : decode cX10_load 106 = .ok (.iload 5, 2) := by decide +kernel
theorem dX10_load_108 : decode cX10_load 108 = .ok (.invokestatic 45, 3) := by decide +kernel
theorem dX10_load_111 : decode cX10_load 111 = .ok (.ifCond .eq 7, 3) := by decide +kernel
theorem dX10_load_114 : decode cX10_load 114 = .ok (.iconst 1, 1) := by decide +kernel
theorem dX10_load_115 : decode cX10_load 115 = .ok (.goto 4, 3) := by decide +kernel
theorem dX10_load_118 : decode cX10_load 118 = .ok (.iconst 0, 1) := by decide +kernel
theorem dX10_load_119 : decode cX10_load 119 = .ok (.istore 7, 2) := by decide +kernel
theorem dX10_load_121 : decode cX10_load 121 = .ok (.iload 7, 2) := by decide +kernel
theorem dX10_load_123 : decode cX10_load 123 = .ok (.ifCond .eq 7, 3) := by decide +kernel
theorem dX10_load_126 : decode cX10_load 126 = .ok (.iconst 0, 1) := by decide +kernel
theorem dX10_load_127 : decode cX10_load 127 = .ok (.goto 4, 3) := by decide +kernel
theorem dX10_load_130 : decode cX10_load 130 = .ok (.iconst 5, 1) := by decide +kernel
theorem dX10_load_131 : decode cX10_load 131 = .ok (.ireturn, 1) := by decide +kernel
theorem dX10_takeLetters_0 : decode cX10_takeLetters 0 = .ok (.iconst 0, 1) := by decide +kernel
theorem dX10_takeLetters_1 : decode cX10_takeLetters 1 = .ok (.istore_n 3, 1) := by decide +kernel
theorem dX10_takeLetters_2 : decode cX10_takeLetters 2 = .ok (.iload_n 3, 1) := by decide +kernel
theorem dX10_takeLetters_3 : decode cX10_takeLetters 3 = .ok (.iload_n 2, 1) := by decide +kernel
theorem dX10_takeLetters_4 : decode cX10_takeLetters 4 = .ok (.if_icmp .ge 36, 3) := by decide +kernel
theorem dX10_takeLetters_7 : decode cX10_takeLetters 7 = .ok (.aload_n 0, 1) := by decide +kernel
theorem dX10_takeLetters_8 : decode cX10_takeLetters 8 = .ok (.iload_n 3, 1) := by decide +kernel
theorem dX10_takeLetters_9 : decode cX10_takeLetters 9 = .ok (.laload, 1) := by decide +kernel
theorem dX10_takeLetters_10 : decode cX10_takeLetters 10 = .ok (.lconst 1, 1) := by decide +kernel
theorem dX10_takeLetters_11 : decode cX10_takeLetters 11 = .ok (.lcmp, 1) := by decide +kernel
theorem dX10_takeLetters_12 : decode cX10_takeLetters 12 = .ok (.ifCond .lt 13, 3) := by decide +kernel
theorem dX10_takeLetters_15 : decode cX10_takeLetters 15 = .ok (.aload_n 0, 1) := by decide +kernel
theorem dX10_takeLetters_16 : decode cX10_takeLetters 16 = .ok (.iload_n 3, 1) := by decide +kernel
theorem dX10_takeLetters_17 : decode cX10_takeLetters 17 = .ok (.laload, 1) := by decide +kernel
theorem dX10_takeLetters_18 : decode cX10_takeLetters 18 = .ok (.ldc2_w 49, 3) := by decide +kernel
theorem dX10_takeLetters_21 : decode cX10_takeLetters 21 = .ok (.lcmp, 1) := by decide +kernel
theorem dX10_takeLetters_22 : decode cX10_takeLetters 22 = .ok (.ifCond .le 5, 3) := by decide +kernel
theorem dX10_takeLetters_25 : decode cX10_takeLetters 25 = .ok (.iconst 0, 1) := by decide +kernel
theorem dX10_takeLetters_26 : decode cX10_takeLetters 26 = .ok (.ireturn, 1) := by decide +kernel
theorem dX10_takeLetters_27 : decode cX10_takeLetters 27 = .ok (.aload_n 1, 1) := by decide +kernel
theorem dX10_takeLetters_28 : decode cX10_takeLetters 28 = .ok (.iload_n 3, 1) := by decide +kernel
theorem dX10_takeLetters_29 : decode cX10_takeLetters 29 = .ok (.aload_n 0, 1) := by decide +kernel
theorem dX10_takeLetters_30 : decode cX10_takeLetters 30 = .ok (.iload_n 3, 1) := by decide +kernel
theorem dX10_takeLetters_31 : decode cX10_takeLetters 31 = .ok (.laload, 1) := by decide +kernel
theorem dX10_takeLetters_32 : decode cX10_takeLetters 32 = .ok (.l2i, 1) := by decide +kernel
theorem dX10_takeLetters_33 : decode cX10_takeLetters 33 = .ok (.iastore, 1) := by decide +kernel
theorem dX10_takeLetters_34 : decode cX10_takeLetters 34 = .ok (.iinc 3 1, 3) := by decide +kernel
theorem dX10_takeLetters_37 : decode cX10_takeLetters 37 = .ok (.goto (-35), 3) := by decide +kernel
theorem dX10_takeLetters_40 : decode cX10_takeLetters 40 = .ok (.iconst 1, 1) := by decide +kernel
theorem dX10_takeLetters_41 : decode cX10_takeLetters 41 = .ok (.ireturn, 1) := by decide +kernel
theorem dX10_countWays_0 : decode cX10_countWays 0 = .ok (.aload_n 0, 1) := by decide +kernel
theorem dX10_countWays_1 : decode cX10_countWays 1 = .ok (.getfield 25, 3) := by decide +kernel
theorem dX10_countWays_4 : decode cX10_countWays 4 = .ok (.lconst 0, 1) := by decide +kernel
theorem dX10_countWays_5 : decode cX10_countWays 5 = .ok (.invokestatic 51, 3) := by decide +kernel
theorem dX10_countWays_8 : decode cX10_countWays 8 = .ok (.aload_n 0, 1) := by decide +kernel
theorem dX10_countWays_9 : decode cX10_countWays 9 = .ok (.getfield 25, 3) := by decide +kernel
theorem dX10_countWays_12 : decode cX10_countWays 12 = .ok (.iconst 0, 1) := by decide +kernel
theorem dX10_countWays_13 : decode cX10_countWays 13 = .ok (.lconst 1, 1) := by decide +kernel
theorem dX10_countWays_14 : decode cX10_countWays 14 = .ok (.lastore, 1) := by decide +kernel
theorem dX10_countWays_15 : decode cX10_countWays 15 = .ok (.iconst 0, 1) := by decide +kernel
theorem dX10_countWays_16 : decode cX10_countWays 16 = .ok (.istore_n 1, 1) := by decide +kernel
theorem dX10_countWays_17 : decode cX10_countWays 17 = .ok (.iload_n 1, 1) := by decide +kernel
theorem dX10_countWays_18 : decode cX10_countWays 18 = .ok (.aload_n 0, 1) := by decide +kernel
theorem dX10_countWays_19 : decode cX10_countWays 19 = .ok (.getfield 22, 3) := by decide +kernel
theorem dX10_countWays_22 : decode cX10_countWays 22 = .ok (.if_icmp .ge 58, 3) := by decide +kernel
theorem dX10_countWays_25 : decode cX10_countWays 25 = .ok (.aload_n 0, 1) := by decide +kernel
theorem dX10_countWays_26 : decode cX10_countWays 26 = .ok (.getfield 18, 3) := by decide +kernel
theorem dX10_countWays_29 : decode cX10_countWays 29 = .ok (.iconst 1, 1) := by decide +kernel
theorem dX10_countWays_30 : decode cX10_countWays 30 = .ok (.isub, 1) := by decide +kernel
theorem dX10_countWays_31 : decode cX10_countWays 31 = .ok (.istore_n 2, 1) := by decide +kernel
theorem dX10_countWays_32 : decode cX10_countWays 32 = .ok (.iload_n 2, 1) := by decide +kernel
theorem dX10_countWays_33 : decode cX10_countWays 33 = .ok (.ifCond .lt 41, 3) := by decide +kernel
theorem dX10_countWays_36 : decode cX10_countWays 36 = .ok (.aload_n 0, 1) := by decide +kernel
theorem dX10_countWays_37 : decode cX10_countWays 37 = .ok (.getfield 9, 3) := by decide +kernel
theorem dX10_countWays_40 : decode cX10_countWays 40 = .ok (.iload_n 2, 1) := by decide +kernel
theorem dX10_countWays_41 : decode cX10_countWays 41 = .ok (.iaload, 1) := by decide +kernel
theorem dX10_countWays_42 : decode cX10_countWays 42 = .ok (.aload_n 0, 1) := by decide +kernel
theorem dX10_countWays_43 : decode cX10_countWays 43 = .ok (.getfield 15, 3) := by decide +kernel
theorem dX10_countWays_46 : decode cX10_countWays 46 = .ok (.iload_n 1, 1) := by decide +kernel
theorem dX10_countWays_47 : decode cX10_countWays 47 = .ok (.iaload, 1) := by decide +kernel
theorem dX10_countWays_48 : decode cX10_countWays 48 = .ok (.if_icmp .ne 20, 3) := by decide +kernel
theorem dX10_countWays_51 : decode cX10_countWays 51 = .ok (.aload_n 0, 1) := by decide +kernel
theorem dX10_countWays_52 : decode cX10_countWays 52 = .ok (.getfield 25, 3) := by decide +kernel
theorem dX10_countWays_55 : decode cX10_countWays 55 = .ok (.iload_n 2, 1) := by decide +kernel
theorem dX10_countWays_56 : decode cX10_countWays 56 = .ok (.iconst 1, 1) := by decide +kernel
theorem dX10_countWays_57 : decode cX10_countWays 57 = .ok (.iadd, 1) := by decide +kernel
theorem dX10_countWays_58 : decode cX10_countWays 58 = .ok (.dup2, 1) := by decide +kernel
theorem dX10_countWays_59 : decode cX10_countWays 59 = .ok (.laload, 1) := by decide +kernel
theorem dX10_countWays_60 : decode cX10_countWays 60 = .ok (.aload_n 0, 1) := by decide +kernel
theorem dX10_countWays_61 : decode cX10_countWays 61 = .ok (.getfield 25, 3) := by decide +kernel
theorem dX10_countWays_64 : decode cX10_countWays 64 = .ok (.iload_n 2, 1) := by decide +kernel
theorem dX10_countWays_65 : decode cX10_countWays 65 = .ok (.laload, 1) := by decide +kernel
theorem dX10_countWays_66 : decode cX10_countWays 66 = .ok (.ladd, 1) := by decide +kernel
theorem dX10_countWays_67 : decode cX10_countWays 67 = .ok (.lastore, 1) := by decide +kernel
theorem dX10_countWays_68 : decode cX10_countWays 68 = .ok (.iinc 2 (-1), 3) := by decide +kernel
theorem dX10_countWays_71 : decode cX10_countWays 71 = .ok (.goto (-39), 3) := by decide +kernel
theorem dX10_countWays_74 : decode cX10_countWays 74 = .ok (.iinc 1 1, 3) := by decide +kernel
theorem dX10_countWays_77 : decode cX10_countWays 77 = .ok (.goto (-60), 3) := by decide +kernel
theorem dX10_countWays_80 : decode cX10_countWays 80 = .ok (.aload_n 0, 1) := by decide +kernel
theorem dX10_countWays_81 : decode cX10_countWays 81 = .ok (.getfield 25, 3) := by decide +kernel
theorem dX10_countWays_84 : decode cX10_countWays 84 = .ok (.aload_n 0, 1) := by decide +kernel
theorem dX10_countWays_85 : decode cX10_countWays 85 = .ok (.getfield 18, 3) := by decide +kernel
theorem dX10_countWays_88 : decode cX10_countWays 88 = .ok (.laload, 1) := by decide +kernel
theorem dX10_countWays_89 : decode cX10_countWays 89 = .ok (.lreturn, 1) := by decide +kernel
theorem dX10_follow_0 : decode cX10_follow 0 = .ok (.iconst 0, 1) := by decide +kernel
theorem dX10_follow_1 : decode cX10_follow 1 = .ok (.istore_n 2, 1) := by decide +kernel
theorem dX10_follow_2 : decode cX10_follow 2 = .ok (.iconst (-1), 1) := by decide +kernel
theorem dX10_follow_3 : decode cX10_follow 3 = .ok (.istore_n 3, 1) := by decide +kernel
theorem dX10_follow_4 : decode cX10_follow 4 = .ok (.iload_n 1, 1) := by decide +kernel
theorem dX10_follow_5 : decode cX10_follow 5 = .ok (.istore 4, 2) := by decide +kernel
theorem dX10_follow_7 : decode cX10_follow 7 = .ok (.iload 4, 2) := by decide +kernel
theorem dX10_follow_9 : decode cX10_follow 9 = .ok (.aload_n 0, 1) := by decide +kernel
theorem dX10_follow_10 : decode cX10_follow 10 = .ok (.getfield 22, 3) := by decide +kernel
theorem dX10_follow_13 : decode cX10_follow 13 = .ok (.if_icmp .ge 47, 3) := by decide +kernel
theorem dX10_follow_16 : decode cX10_follow 16 = .ok (.iload_n 2, 1) := by decide +kernel
theorem dX10_follow_17 : decode cX10_follow 17 = .ok (.aload_n 0, 1) := by decide +kernel
theorem dX10_follow_18 : decode cX10_follow 18 = .ok (.getfield 18, 3) := by decide +kernel
theorem dX10_follow_21 : decode cX10_follow 21 = .ok (.if_icmp .ge 39, 3) := by decide +kernel
theorem dX10_follow_24 : decode cX10_follow 24 = .ok (.aload_n 0, 1) := by decide +kernel
theorem dX10_follow_25 : decode cX10_follow 25 = .ok (.getfield 15, 3) := by decide +kernel
theorem dX10_follow_28 : decode cX10_follow 28 = .ok (.iload 4, 2) := by decide +kernel
theorem dX10_follow_30 : decode cX10_follow 30 = .ok (.iaload, 1) := by decide +kernel
theorem dX10_follow_31 : decode cX10_follow 31 = .ok (.aload_n 0, 1) := by decide +kernel
theorem dX10_follow_32 : decode cX10_follow 32 = .ok (.getfield 9, 3) := by decide +kernel
theorem dX10_follow_35 : decode cX10_follow 35 = .ok (.iload_n 2, 1) := by decide +kernel
theorem dX10_follow_36 : decode cX10_follow 36 = .ok (.iaload, 1) := by decide +kernel
theorem dX10_follow_37 : decode cX10_follow 37 = .ok (.if_icmp .ne 17, 3) := by decide +kernel
theorem dX10_follow_40 : decode cX10_follow 40 = .ok (.aload_n 0, 1) := by decide +kernel
theorem dX10_follow_41 : decode cX10_follow 41 = .ok (.getfield 29, 3) := by decide +kernel
theorem dX10_follow_44 : decode cX10_follow 44 = .ok (.iload_n 2, 1) := by decide +kernel
theorem dX10_follow_45 : decode cX10_follow 45 = .ok (.iload 4, 2) := by decide +kernel
theorem dX10_follow_47 : decode cX10_follow 47 = .ok (.iastore, 1) := by decide +kernel
theorem dX10_follow_48 : decode cX10_follow 48 = .ok (.iload 4, 2) := by decide +kernel
theorem dX10_follow_50 : decode cX10_follow 50 = .ok (.istore_n 3, 1) := by decide +kernel
theorem dX10_follow_51 : decode cX10_follow 51 = .ok (.iinc 2 1, 3) := by decide +kernel
theorem dX10_follow_54 : decode cX10_follow 54 = .ok (.iinc 4 1, 3) := by decide +kernel
theorem dX10_follow_57 : decode cX10_follow 57 = .ok (.goto (-50), 3) := by decide +kernel
theorem dX10_follow_60 : decode cX10_follow 60 = .ok (.iload_n 2, 1) := by decide +kernel
theorem dX10_follow_61 : decode cX10_follow 61 = .ok (.aload_n 0, 1) := by decide +kernel
theorem dX10_follow_62 : decode cX10_follow 62 = .ok (.getfield 18, 3) := by decide +kernel
theorem dX10_follow_65 : decode cX10_follow 65 = .ok (.if_icmp .ne 7, 3) := by decide +kernel
theorem dX10_follow_68 : decode cX10_follow 68 = .ok (.iload_n 3, 1) := by decide +kernel
theorem dX10_follow_69 : decode cX10_follow 69 = .ok (.goto 4, 3) := by decide +kernel
theorem dX10_follow_72 : decode cX10_follow 72 = .ok (.iconst (-1), 1) := by decide +kernel
theorem dX10_follow_73 : decode cX10_follow 73 = .ok (.ireturn, 1) := by decide +kernel
theorem dX10_leastLength_0 : decode cX10_leastLength 0 = .ok (.iconst (-1), 1) := by decide +kernel
theorem dX10_leastLength_1 : decode cX10_leastLength 1 = .ok (.istore_n 1, 1) := by decide +kernel
theorem dX10_leastLength_2 : decode cX10_leastLength 2 = .ok (.iconst 0, 1) := by decide +kernel
theorem dX10_leastLength_3 : decode cX10_leastLength 3 = .ok (.istore_n 2, 1) := by decide +kernel
theorem dX10_leastLength_4 : decode cX10_leastLength 4 = .ok (.iload_n 2, 1) := by decide +kernel
theorem dX10_leastLength_5 : decode cX10_leastLength 5 = .ok (.aload_n 0, 1) := by decide +kernel
theorem dX10_leastLength_6 : decode cX10_leastLength 6 = .ok (.getfield 22, 3) := by decide +kernel
theorem dX10_leastLength_9 : decode cX10_leastLength 9 = .ok (.if_icmp .ge 59, 3) := by decide +kernel
theorem dX10_leastLength_12 : decode cX10_leastLength 12 = .ok (.aload_n 0, 1) := by decide +kernel
theorem dX10_leastLength_13 : decode cX10_leastLength 13 = .ok (.getfield 15, 3) := by decide +kernel
theorem dX10_leastLength_16 : decode cX10_leastLength 16 = .ok (.iload_n 2, 1) := by decide +kernel
theorem dX10_leastLength_17 : decode cX10_leastLength 17 = .ok (.iaload, 1) := by decide +kernel
theorem dX10_leastLength_18 : decode cX10_leastLength 18 = .ok (.aload_n 0, 1) := by decide +kernel
theorem dX10_leastLength_19 : decode cX10_leastLength 19 = .ok (.getfield 9, 3) := by decide +kernel
theorem dX10_leastLength_22 : decode cX10_leastLength 22 = .ok (.iconst 0, 1) := by decide +kernel
theorem dX10_leastLength_23 : decode cX10_leastLength 23 = .ok (.iaload, 1) := by decide +kernel
theorem dX10_leastLength_24 : decode cX10_leastLength 24 = .ok (.if_icmp .ne 11, 3) := by decide +kernel
theorem dX10_leastLength_27 : decode cX10_leastLength 27 = .ok (.aload_n 0, 1) := by decide +kernel
theorem dX10_leastLength_28 : decode cX10_leastLength 28 = .ok (.iload_n 2, 1) := by decide +kernel
theorem dX10_leastLength_29 : decode cX10_leastLength 29 = .ok (.invokevirtual 57, 3) := by decide +kernel
theorem dX10_leastLength_32 : decode cX10_leastLength 32 = .ok (.goto 4, 3) := by decide +kernel
theorem dX10_leastLength_35 : decode cX10_leastLength 35 = .ok (.iconst (-1), 1) := by decide +kernel
theorem dX10_leastLength_36 : decode cX10_leastLength 36 = .ok (.istore_n 3, 1) := by decide +kernel
theorem dX10_leastLength_37 : decode cX10_leastLength 37 = .ok (.iload_n 3, 1) := by decide +kernel
theorem dX10_leastLength_38 : decode cX10_leastLength 38 = .ok (.iconst (-1), 1) := by decide +kernel
theorem dX10_leastLength_39 : decode cX10_leastLength 39 = .ok (.if_icmp .eq 23, 3) := by decide +kernel
theorem dX10_leastLength_42 : decode cX10_leastLength 42 = .ok (.iload_n 1, 1) := by decide +kernel
theorem dX10_leastLength_43 : decode cX10_leastLength 43 = .ok (.iconst (-1), 1) := by decide +kernel
theorem dX10_leastLength_44 : decode cX10_leastLength 44 = .ok (.if_icmp .eq 12, 3) := by decide +kernel
theorem dX10_leastLength_47 : decode cX10_leastLength 47 = .ok (.iload_n 3, 1) := by decide +kernel
theorem dX10_leastLength_48 : decode cX10_leastLength 48 = .ok (.iload_n 2, 1) := by decide +kernel
theorem dX10_leastLength_49 : decode cX10_leastLength 49 = .ok (.isub, 1) := by decide +kernel
theorem dX10_leastLength_50 : decode cX10_leastLength 50 = .ok (.iconst 1, 1) := by decide +kernel
theorem dX10_leastLength_51 : decode cX10_leastLength 51 = .ok (.iadd, 1) := by decide +kernel
theorem dX10_leastLength_52 : decode cX10_leastLength 52 = .ok (.iload_n 1, 1) := by decide +kernel
theorem dX10_leastLength_53 : decode cX10_leastLength 53 = .ok (.if_icmp .ge 9, 3) := by decide +kernel
theorem dX10_leastLength_56 : decode cX10_leastLength 56 = .ok (.iload_n 3, 1) := by decide +kernel
theorem dX10_leastLength_57 : decode cX10_leastLength 57 = .ok (.iload_n 2, 1) := by decide +kernel
theorem dX10_leastLength_58 : decode cX10_leastLength 58 = .ok (.isub, 1) := by decide +kernel
theorem dX10_leastLength_59 : decode cX10_leastLength 59 = .ok (.iconst 1, 1) := by decide +kernel
theorem dX10_leastLength_60 : decode cX10_leastLength 60 = .ok (.iadd, 1) := by decide +kernel
theorem dX10_leastLength_61 : decode cX10_leastLength 61 = .ok (.istore_n 1, 1) := by decide +kernel
theorem dX10_leastLength_62 : decode cX10_leastLength 62 = .ok (.iinc 2 1, 3) := by decide +kernel
theorem dX10_leastLength_65 : decode cX10_leastLength 65 = .ok (.goto (-61), 3) := by decide +kernel
theorem dX10_leastLength_68 : decode cX10_leastLength 68 = .ok (.iload_n 1, 1) := by decide +kernel
theorem dX10_leastLength_69 : decode cX10_leastLength 69 = .ok (.ireturn, 1) := by decide +kernel
theorem dX11_init_0 : decode cX11_init 0 = .ok (.aload_n 0, 1) := by decide +kernel
theorem dX11_init_1 : decode cX11_init 1 = .ok (.invokespecial 1, 3) := by decide +kernel
theorem dX11_init_4 : decode cX11_init 4 = .ok (.aload_n 0, 1) := by decide +kernel
theorem dX11_init_5 : decode cX11_init 5 = .ok (.iconst 0, 1) := by decide +kernel
theorem dX11_init_6 : decode cX11_init 6 = .ok (.putfield 9, 3) := by decide +kernel
theorem dX11_init_9 : decode cX11_init 9 = .ok (.aload_n 0, 1) := by decide +kernel
theorem dX11_init_10 : decode cX11_init 10 = .ok (.new 13, 3) := by decide +kernel
theorem dX11_init_13 : decode cX11_init 13 = .ok (.dup, 1) := by decide +kernel
theorem dX11_init_14 : decode cX11_init 14 = .ok (.invokespecial 15, 3) := by decide +kernel
theorem dX11_init_17 : decode cX11_init 17 = .ok (.putfield 16, 3) := by decide +kernel
theorem dX11_init_20 : decode cX11_init 20 = .ok (.aload_n 0, 1) := by decide +kernel
theorem dX11_init_21 : decode cX11_init 21 = .ok (.new 20, 3) := by decide +kernel
theorem dX11_init_24 : decode cX11_init 24 = .ok (.dup, 1) := by decide +kernel
theorem dX11_init_25 : decode cX11_init 25 = .ok (.invokespecial 22, 3) := by decide +kernel
theorem dX11_init_28 : decode cX11_init 28 = .ok (.putfield 23, 3) := by decide +kernel
theorem dX11_init_31 : decode cX11_init 31 = .ok (.aload_n 0, 1) := by decide +kernel
theorem dX11_init_32 : decode cX11_init 32 = .ok (.new 27, 3) := by decide +kernel
theorem dX11_init_35 : decode cX11_init 35 = .ok (.dup, 1) := by decide +kernel
theorem dX11_init_36 : decode cX11_init 36 = .ok (.invokespecial 29, 3) := by decide +kernel
theorem dX11_init_39 : decode cX11_init 39 = .ok (.putfield 30, 3) := by decide +kernel
theorem dX11_init_42 : decode cX11_init 42 = .ok (.aload_n 0, 1) := by decide +kernel
theorem dX11_init_43 : decode cX11_init 43 = .ok (.new 34, 3) := by decide +kernel
theorem dX11_init_46 : decode cX11_init 46 = .ok (.dup, 1) := by decide +kernel
theorem dX11_init_47 : decode cX11_init 47 = .ok (.invokespecial 36, 3) := by decide +kernel
theorem dX11_init_50 : decode cX11_init 50 = .ok (.putfield 37, 3) := by decide +kernel
theorem dX11_init_53 : decode cX11_init 53 = .ok (.aload_n 0, 1) := by decide +kernel
theorem dX11_init_54 : decode cX11_init 54 = .ok (.new 41, 3) := by decide +kernel
theorem dX11_init_57 : decode cX11_init 57 = .ok (.dup, 1) := by decide +kernel
theorem dX11_init_58 : decode cX11_init 58 = .ok (.invokespecial 43, 3) := by decide +kernel
theorem dX11_init_61 : decode cX11_init 61 = .ok (.putfield 44, 3) := by decide +kernel
theorem dX11_init_64 : decode cX11_init 64 = .ok (.aload_n 0, 1) := by decide +kernel
theorem dX11_init_65 : decode cX11_init 65 = .ok (.new 48, 3) := by decide +kernel
theorem dX11_init_68 : decode cX11_init 68 = .ok (.dup, 1) := by decide +kernel
theorem dX11_init_69 : decode cX11_init 69 = .ok (.invokespecial 50, 3) := by decide +kernel
theorem dX11_init_72 : decode cX11_init 72 = .ok (.putfield 51, 3) := by decide +kernel
theorem dX11_init_75 : decode cX11_init 75 = .ok (.aload_n 0, 1) := by decide +kernel
theorem dX11_init_76 : decode cX11_init 76 = .ok (.new 55, 3) := by decide +kernel
theorem dX11_init_79 : decode cX11_init 79 = .ok (.dup, 1) := by decide +kernel
theorem dX11_init_80 : decode cX11_init 80 = .ok (.invokespecial 57, 3) := by decide +kernel
theorem dX11_init_83 : decode cX11_init 83 = .ok (.putfield 58, 3) := by decide +kernel
theorem dX11_init_86 : decode cX11_init 86 = .ok (.aload_n 0, 1) := by decide +kernel
theorem dX11_init_87 : decode cX11_init 87 = .ok (.new 55, 3) := by decide +kernel
theorem dX11_init_90 : decode cX11_init 90 = .ok (.dup, 1) := by decide +kernel
theorem dX11_init_91 : decode cX11_init 91 = .ok (.invokespecial 57, 3) := by decide +kernel
theorem dX11_init_94 : decode cX11_init 94 = .ok (.putfield 62, 3) := by decide +kernel
theorem dX11_init_97 : decode cX11_init 97 = .ok (.aload_n 0, 1) := by decide +kernel
theorem dX11_init_98 : decode cX11_init 98 = .ok (.iconst 3, 1) := by decide +kernel
theorem dX11_init_99 : decode cX11_init 99 = .ok (.anewarray 55, 3) := by decide +kernel
theorem dX11_init_102 : decode cX11_init 102 = .ok (.putfield 65, 3) := by decide +kernel
theorem dX11_init_105 : decode cX11_init 105 = .ok (.aload_n 0, 1) := by decide +kernel
theorem dX11_init_106 : decode cX11_init 106 = .ok (.iconst 0, 1) := by decide +kernel
theorem dX11_init_107 : decode cX11_init 107 = .ok (.putfield 69, 3) := by decide +kernel
theorem dX11_init_110 : decode cX11_init 110 = .ok (.aload_n 0, 1) := by decide +kernel
theorem dX11_init_111 : decode cX11_init 111 = .ok (.new 72, 3) := by decide +kernel
theorem dX11_init_114 : decode cX11_init 114 = .ok (.dup, 1) := by decide +kernel
theorem dX11_init_115 : decode cX11_init 115 = .ok (.invokespecial 74, 3) := by decide +kernel
theorem dX11_init_118 : decode cX11_init 118 = .ok (.putfield 75, 3) := by decide +kernel
theorem dX11_init_121 : decode cX11_init 121 = .ok (.aload_n 0, 1) := by decide +kernel
theorem dX11_init_122 : decode cX11_init 122 = .ok (.new 79, 3) := by decide +kernel
theorem dX11_init_125 : decode cX11_init 125 = .ok (.dup, 1) := by decide +kernel
theorem dX11_init_126 : decode cX11_init 126 = .ok (.invokespecial 81, 3) := by decide +kernel
theorem dX11_init_129 : decode cX11_init 129 = .ok (.putfield 82, 3) := by decide +kernel
theorem dX11_init_132 : decode cX11_init 132 = .ok (.aload_n 0, 1) := by decide +kernel
theorem dX11_init_133 : decode cX11_init 133 = .ok (.iconst 5, 1) := by decide +kernel
theorem dX11_init_134 : decode cX11_init 134 = .ok (.newarray .int, 2) := by decide +kernel
theorem dX11_init_136 : decode cX11_init 136 = .ok (.putfield 86, 3) := by decide +kernel
theorem dX11_init_139 : decode cX11_init 139 = .ok (.aload_n 0, 1) := by decide +kernel
theorem dX11_init_140 : decode cX11_init 140 = .ok (.iconst 0, 1) := by decide +kernel
theorem dX11_init_141 : decode cX11_init 141 = .ok (.putfield 90, 3) := by decide +kernel
theorem dX11_init_144 : decode cX11_init 144 = .ok (.iconst 0, 1) := by decide +kernel
theorem dX11_init_145 : decode cX11_init 145 = .ok (.istore_n 1, 1) := by decide +kernel
theorem dX11_init_146 : decode cX11_init 146 = .ok (.iload_n 1, 1) := by decide +kernel
theorem dX11_init_147 : decode cX11_init 147 = .ok (.iconst 3, 1) := by decide +kernel
theorem dX11_init_148 : decode cX11_init 148 = .ok (.if_icmp .ge 22, 3) := by decide +kernel
theorem dX11_init_151 : decode cX11_init 151 = .ok (.aload_n 0, 1) := by decide +kernel
theorem dX11_init_152 : decode cX11_init 152 = .ok (.getfield 65, 3) := by decide +kernel
theorem dX11_init_155 : decode cX11_init 155 = .ok (.iload_n 1, 1) := by decide +kernel
theorem dX11_init_156 : decode cX11_init 156 = .ok (.new 55, 3) := by decide +kernel
theorem dX11_init_159 : decode cX11_init 159 = .ok (.dup, 1) := by decide +kernel
theorem dX11_init_160 : decode cX11_init 160 = .ok (.invokespecial 57, 3) := by decide +kernel
theorem dX11_init_163 : decode cX11_init 163 = .ok (.aastore, 1) := by decide +kernel
theorem dX11_init_164 : decode cX11_init 164 = .ok (.iinc 1 1, 3) := by decide +kernel
theorem dX11_init_167 : decode cX11_init 167 = .ok (.goto (-21), 3) := by decide +kernel
theorem dX11_init_170 : decode cX11_init 170 = .ok (.return_, 1) := by decide +kernel
theorem dX11_status_0 : decode cX11_status 0 = .ok (.aload_n 0, 1) := by decide +kernel
theorem dX11_status_1 : decode cX11_status 1 = .ok (.getfield 9, 3) := by decide +kernel
theorem dX11_status_4 : decode cX11_status 4 = .ok (.ireturn, 1) := by decide +kernel
theorem dX11_top_0 : decode cX11_top 0 = .ok (.aload_n 0, 1) := by decide +kernel
theorem dX11_top_1 : decode cX11_top 1 = .ok (.getfield 30, 3) := by decide +kernel
theorem dX11_top_4 : decode cX11_top 4 = .ok (.getfield 94, 3) := by decide +kernel
theorem dX11_top_7 : decode cX11_top 7 = .ok (.lreturn, 1) := by decide +kernel
theorem dX11_bottom_0 : decode cX11_bottom 0 = .ok (.aload_n 0, 1) := by decide +kernel
theorem dX11_bottom_1 : decode cX11_bottom 1 = .ok (.getfield 30, 3) := by decide +kernel
theorem dX11_bottom_4 : decode cX11_bottom 4 = .ok (.getfield 98, 3) := by decide +kernel
theorem dX11_bottom_7 : decode cX11_bottom 7 = .ok (.lreturn, 1) := by decide +kernel
theorem dX11_refuse_0 : decode cX11_refuse 0 = .ok (.aload_n 0, 1) := by decide +kernel
theorem dX11_refuse_1 : decode cX11_refuse 1 = .ok (.iload_n 1, 1) := by decide +kernel
theorem dX11_refuse_2 : decode cX11_refuse 2 = .ok (.putfield 9, 3) := by decide +kernel
theorem dX11_refuse_5 : decode cX11_refuse 5 = .ok (.iconst (-1), 1) := by decide +kernel
theorem dX11_refuse_6 : decode cX11_refuse 6 = .ok (.ireturn, 1) := by decide +kernel
theorem dX11_deny_0 : decode cX11_deny 0 = .ok (.aload_n 0, 1) := by decide +kernel
theorem dX11_deny_1 : decode cX11_deny 1 = .ok (.iload_n 1, 1) := by decide +kernel
theorem dX11_deny_2 : decode cX11_deny 2 = .ok (.putfield 9, 3) := by decide +kernel
theorem dX11_deny_5 : decode cX11_deny 5 = .ok (.iconst 0, 1) := by decide +kernel
theorem dX11_deny_6 : decode cX11_deny 6 = .ok (.ireturn, 1) := by decide +kernel
theorem dX11_answer_0 : decode cX11_answer 0 = .ok (.aload_n 0, 1) := by decide +kernel
theorem dX11_answer_1 : decode cX11_answer 1 = .ok (.iconst 0, 1) := by decide +kernel
theorem dX11_answer_2 : decode cX11_answer 2 = .ok (.putfield 9, 3) := by decide +kernel
theorem dX11_answer_5 : decode cX11_answer 5 = .ok (.iload_n 1, 1) := by decide +kernel
theorem dX11_answer_6 : decode cX11_answer 6 = .ok (.ireturn, 1) := by decide +kernel
theorem dX11_agree_0 : decode cX11_agree 0 = .ok (.aload_n 0, 1) := by decide +kernel
theorem dX11_agree_1 : decode cX11_agree 1 = .ok (.iconst 0, 1) := by decide +kernel
theorem dX11_agree_2 : decode cX11_agree 2 = .ok (.putfield 9, 3) := by decide +kernel
theorem dX11_agree_5 : decode cX11_agree 5 = .ok (.iconst 1, 1) := by decide +kernel
theorem dX11_agree_6 : decode cX11_agree 6 = .ok (.ireturn, 1) := by decide +kernel
theorem dX11_answerIfAny_0 : decode cX11_answerIfAny 0 = .ok (.iload_n 1, 1) := by decide +kernel
theorem dX11_answerIfAny_1 : decode cX11_answerIfAny 1 = .ok (.iconst (-1), 1) := by decide +kernel
theorem dX11_answerIfAny_2 : decode cX11_answerIfAny 2 = .ok (.if_icmp .ne 12, 3) := by decide +kernel
theorem dX11_answerIfAny_5 : decode cX11_answerIfAny 5 = .ok (.aload_n 0, 1) := by decide +kernel
theorem dX11_answerIfAny_6 : decode cX11_answerIfAny 6 = .ok (.bipush 8, 2) := by decide +kernel
theorem dX11_answerIfAny_8 : decode cX11_answerIfAny 8 = .ok (.invokevirtual 101, 3) := by decide +kernel
theorem dX11_answerIfAny_11 : decode cX11_answerIfAny 11 = .ok (.goto 8, 3) := by decide +kernel
theorem dX11_answerIfAny_14 : decode cX11_answerIfAny 14 = .ok (.aload_n 0, 1) := by decide +kernel
theorem dX11_answerIfAny_15 : decode cX11_answerIfAny 15 = .ok (.iload_n 1, 1) := by decide +kernel
theorem dX11_answerIfAny_16 : decode cX11_answerIfAny 16 = .ok (.invokevirtual 105, 3) := by decide +kernel
theorem dX11_answerIfAny_19 : decode cX11_answerIfAny 19 = .ok (.ireturn, 1) := by decide +kernel
theorem dX11_tray_0 : decode cX11_tray 0 = .ok (.aload_n 0, 1) := by decide +kernel
theorem dX11_tray_1 : decode cX11_tray 1 = .ok (.getfield 16, 3) := by decide +kernel
theorem dX11_tray_4 : decode cX11_tray 4 = .ok (.iload_n 1, 1) := by decide +kernel
theorem dX11_tray_5 : decode cX11_tray 5 = .ok (.invokevirtual 108, 3) := by decide +kernel
theorem dX11_tray_8 : decode cX11_tray 8 = .ok (.ifCond .eq 12, 3) := by decide +kernel
theorem dX11_tray_11 : decode cX11_tray 11 = .ok (.iload_n 2, 1) := by decide +kernel
theorem dX11_tray_12 : decode cX11_tray 12 = .ok (.ifCond .lt 8, 3) := by decide +kernel
theorem dX11_tray_15 : decode cX11_tray 15 = .ok (.iload_n 2, 1) := by decide +kernel
theorem dX11_tray_16 : decode cX11_tray 16 = .ok (.iconst 4, 1) := by decide +kernel
theorem dX11_tray_17 : decode cX11_tray 17 = .ok (.if_icmp .lt 9, 3) := by decide +kernel
theorem dX11_tray_20 : decode cX11_tray 20 = .ok (.aload_n 0, 1) := by decide +kernel
theorem dX11_tray_21 : decode cX11_tray 21 = .ok (.iconst 1, 1) := by decide +kernel
theorem dX11_tray_22 : decode cX11_tray 22 = .ok (.invokevirtual 112, 3) := by decide +kernel
theorem dX11_tray_25 : decode cX11_tray 25 = .ok (.ireturn, 1) := by decide +kernel
theorem dX11_tray_26 : decode cX11_tray 26 = .ok (.iload_n 3, 1) := by decide +kernel
theorem dX11_tray_27 : decode cX11_tray 27 = .ok (.bipush 60, 2) := by decide +kernel
theorem dX11_tray_29 : decode cX11_tray 29 = .ok (.if_icmp .le 9, 3) := by decide +kernel
theorem dX11_tray_32 : decode cX11_tray 32 = .ok (.aload_n 0, 1) := by decide +kernel
theorem dX11_tray_33 : decode cX11_tray 33 = .ok (.iconst 5, 1) := by decide +kernel
theorem dX11_tray_34 : decode cX11_tray 34 = .ok (.invokevirtual 112, 3) := by decide +kernel
theorem dX11_tray_37 : decode cX11_tray 37 = .ok (.ireturn, 1) := by decide +kernel
theorem dX11_tray_38 : decode cX11_tray 38 = .ok (.iload_n 3, 1) := by decide +kernel
theorem dX11_tray_39 : decode cX11_tray 39 = .ok (.ifCond .ge 10, 3) := by decide +kernel
theorem dX11_tray_42 : decode cX11_tray 42 = .ok (.aload_n 0, 1) := by decide +kernel
theorem dX11_tray_43 : decode cX11_tray 43 = .ok (.bipush 6, 2) := by decide +kernel
theorem dX11_tray_45 : decode cX11_tray 45 = .ok (.invokevirtual 112, 3) := by decide +kernel
theorem dX11_tray_48 : decode cX11_tray 48 = .ok (.ireturn, 1) := by decide +kernel
theorem dX11_tray_49 : decode cX11_tray 49 = .ok (.aload_n 0, 1) := by decide +kernel
theorem dX11_tray_50 : decode cX11_tray 50 = .ok (.getfield 16, 3) := by decide +kernel
theorem dX11_tray_53 : decode cX11_tray 53 = .ok (.iload_n 1, 1) := by decide +kernel
theorem dX11_tray_54 : decode cX11_tray 54 = .ok (.iload_n 2, 1) := by decide +kernel
theorem dX11_tray_55 : decode cX11_tray 55 = .ok (.iload_n 3, 1) := by decide +kernel
theorem dX11_tray_56 : decode cX11_tray 56 = .ok (.invokevirtual 115, 3) := by decide +kernel
theorem dX11_tray_59 : decode cX11_tray 59 = .ok (.aload_n 0, 1) := by decide +kernel
theorem dX11_tray_60 : decode cX11_tray 60 = .ok (.invokevirtual 119, 3) := by decide +kernel
theorem dX11_tray_63 : decode cX11_tray 63 = .ok (.ireturn, 1) := by decide +kernel
theorem dX11_write_0 : decode cX11_write 0 = .ok (.aload_n 0, 1) := by decide +kernel
theorem dX11_write_1 : decode cX11_write 1 = .ok (.getfield 16, 3) := by decide +kernel
theorem dX11_write_4 : decode cX11_write 4 = .ok (.iload_n 1, 1) := by decide +kernel
theorem dX11_write_5 : decode cX11_write 5 = .ok (.iload_n 2, 1) := by decide +kernel
theorem dX11_write_6 : decode cX11_write 6 = .ok (.invokevirtual 123, 3) := by decide +kernel
theorem dX11_write_9 : decode cX11_write 9 = .ok (.istore 5, 2) := by decide +kernel
theorem dX11_write_11 : decode cX11_write 11 = .ok (.iload 5, 2) := by decide +kernel
theorem dX11_write_13 : decode cX11_write 13 = .ok (.ifCond .eq 10, 3) := by decide +kernel
theorem dX11_write_16 : decode cX11_write 16 = .ok (.aload_n 0, 1) := by decide +kernel
theorem dX11_write_17 : decode cX11_write 17 = .ok (.iload 5, 2) := by decide +kernel
theorem dX11_write_19 : decode cX11_write 19 = .ok (.invokevirtual 112, 3) := by decide +kernel
theorem dX11_write_22 : decode cX11_write 22 = .ok (.ireturn, 1) := by decide +kernel
theorem dX11_write_23 : decode cX11_write 23 = .ok (.aload_n 0, 1) := by decide +kernel
theorem dX11_write_24 : decode cX11_write 24 = .ok (.getfield 16, 3) := by decide +kernel
theorem dX11_write_27 : decode cX11_write 27 = .ok (.iload_n 1, 1) := by decide +kernel
theorem dX11_write_28 : decode cX11_write 28 = .ok (.iload_n 2, 1) := by decide +kernel
theorem dX11_write_29 : decode cX11_write 29 = .ok (.lload_n 3, 1) := by decide +kernel
theorem dX11_write_30 : decode cX11_write 30 = .ok (.invokevirtual 127, 3) := by decide +kernel
theorem dX11_write_33 : decode cX11_write 33 = .ok (.aload_n 0, 1) := by decide +kernel
theorem dX11_write_34 : decode cX11_write 34 = .ok (.invokevirtual 119, 3) := by decide +kernel
theorem dX11_write_37 : decode cX11_write 37 = .ok (.ireturn, 1) := by decide +kernel
theorem dX11_read_0 : decode cX11_read 0 = .ok (.aload_n 0, 1) := by decide +kernel
theorem dX11_read_1 : decode cX11_read 1 = .ok (.getfield 16, 3) := by decide +kernel
theorem dX11_read_4 : decode cX11_read 4 = .ok (.iload_n 1, 1) := by decide +kernel
theorem dX11_read_5 : decode cX11_read 5 = .ok (.iload_n 2, 1) := by decide +kernel
theorem dX11_read_6 : decode cX11_read 6 = .ok (.invokevirtual 123, 3) := by decide +kernel
theorem dX11_read_9 : decode cX11_read 9 = .ok (.istore_n 3, 1) := by decide +kernel
theorem dX11_read_10 : decode cX11_read 10 = .ok (.iload_n 3, 1) := by decide +kernel
theorem dX11_read_11 : decode cX11_read 11 = .ok (.ifCond .eq 10, 3) := by decide +kernel
theorem dX11_read_14 : decode cX11_read 14 = .ok (.aload_n 0, 1) := by decide +kernel
theorem dX11_read_15 : decode cX11_read 15 = .ok (.iload_n 3, 1) := by decide +kernel
theorem dX11_read_16 : decode cX11_read 16 = .ok (.invokevirtual 101, 3) := by decide +kernel
theorem dX11_read_19 : decode cX11_read 19 = .ok (.i2l, 1) := by decide +kernel
theorem dX11_read_20 : decode cX11_read 20 = .ok (.lreturn, 1) := by decide +kernel
theorem dX11_read_21 : decode cX11_read 21 = .ok (.aload_n 0, 1) := by decide +kernel
theorem dX11_read_22 : decode cX11_read 22 = .ok (.iconst 0, 1) := by decide +kernel
theorem dX11_read_23 : decode cX11_read 23 = .ok (.putfield 9, 3) := by decide +kernel
theorem dX11_read_26 : decode cX11_read 26 = .ok (.aload_n 0, 1) := by decide +kernel
theorem dX11_read_27 : decode cX11_read 27 = .ok (.getfield 16, 3) := by decide +kernel
theorem dX11_read_30 : decode cX11_read 30 = .ok (.getfield 131, 3) := by decide +kernel
theorem dX11_read_33 : decode cX11_read 33 = .ok (.iload_n 1, 1) := by decide +kernel
theorem dX11_read_34 : decode cX11_read 34 = .ok (.aaload, 1) := by decide +kernel
theorem dX11_read_35 : decode cX11_read 35 = .ok (.iload_n 2, 1) := by decide +kernel
theorem dX11_read_36 : decode cX11_read 36 = .ok (.laload, 1) := by decide +kernel
theorem dX11_read_37 : decode cX11_read 37 = .ok (.lreturn, 1) := by decide +kernel
theorem dX11_pour_0 : decode cX11_pour 0 = .ok (.aload_n 0, 1) := by decide +kernel
theorem dX11_pour_1 : decode cX11_pour 1 = .ok (.getfield 16, 3) := by decide +kernel
theorem dX11_pour_4 : decode cX11_pour 4 = .ok (.iload_n 1, 1) := by decide +kernel
theorem dX11_pour_5 : decode cX11_pour 5 = .ok (.iload_n 2, 1) := by decide +kernel
theorem dX11_pour_6 : decode cX11_pour 6 = .ok (.iload_n 3, 1) := by decide +kernel
theorem dX11_pour_7 : decode cX11_pour 7 = .ok (.iload 4, 2) := by decide +kernel
theorem dX11_pour_9 : decode cX11_pour 9 = .ok (.iload 5, 2) := by decide +kernel
theorem dX11_pour_11 : decode cX11_pour 11 = .ok (.invokevirtual 135, 3) := by decide +kernel
theorem dX11_pour_14 : decode cX11_pour 14 = .ok (.istore 6, 2) := by decide +kernel
theorem dX11_pour_16 : decode cX11_pour 16 = .ok (.iload 6, 2) := by decide +kernel
theorem dX11_pour_18 : decode cX11_pour 18 = .ok (.ifCond .eq 10, 3) := by decide +kernel
theorem dX11_pour_21 : decode cX11_pour 21 = .ok (.aload_n 0, 1) := by decide +kernel
theorem dX11_pour_22 : decode cX11_pour 22 = .ok (.iload 6, 2) := by decide +kernel
theorem dX11_pour_24 : decode cX11_pour 24 = .ok (.invokevirtual 112, 3) := by decide +kernel
theorem dX11_pour_27 : decode cX11_pour 27 = .ok (.ireturn, 1) := by decide +kernel
theorem dX11_pour_28 : decode cX11_pour 28 = .ok (.aload_n 0, 1) := by decide +kernel
theorem dX11_pour_29 : decode cX11_pour 29 = .ok (.getfield 16, 3) := by decide +kernel
theorem dX11_pour_32 : decode cX11_pour 32 = .ok (.getfield 131, 3) := by decide +kernel
theorem dX11_pour_35 : decode cX11_pour 35 = .ok (.iload_n 1, 1) := by decide +kernel
theorem dX11_pour_36 : decode cX11_pour 36 = .ok (.aaload, 1) := by decide +kernel
theorem dX11_pour_37 : decode cX11_pour 37 = .ok (.iload_n 2, 1) := by decide +kernel
theorem dX11_pour_38 : decode cX11_pour 38 = .ok (.aload_n 0, 1) := by decide +kernel
theorem dX11_pour_39 : decode cX11_pour 39 = .ok (.getfield 16, 3) := by decide +kernel
theorem dX11_pour_42 : decode cX11_pour 42 = .ok (.getfield 131, 3) := by decide +kernel
theorem dX11_pour_45 : decode cX11_pour 45 = .ok (.iload_n 3, 1) := by decide +kernel
theorem dX11_pour_46 : decode cX11_pour 46 = .ok (.aaload, 1) := by decide +kernel
theorem dX11_pour_47 : decode cX11_pour 47 = .ok (.iload 4, 2) := by decide +kernel
theorem dX11_pour_49 : decode cX11_pour 49 = .ok (.iload 5, 2) := by decide +kernel
theorem dX11_pour_51 : decode cX11_pour 51 = .ok (.invokestatic 139, 3) := by decide +kernel
theorem dX11_pour_54 : decode cX11_pour 54 = .ok (.aload_n 0, 1) := by decide +kernel
theorem dX11_pour_55 : decode cX11_pour 55 = .ok (.invokevirtual 119, 3) := by decide +kernel
theorem dX11_pour_58 : decode cX11_pour 58 = .ok (.ireturn, 1) := by decide +kernel
theorem dX11_feed_0 : decode cX11_feed 0 = .ok (.aload_n 0, 1) := by decide +kernel
theorem dX11_feed_1 : decode cX11_feed 1 = .ok (.getfield 37, 3) := by decide +kernel
theorem dX11_feed_4 : decode cX11_feed 4 = .ok (.bipush 20, 2) := by decide +kernel
theorem dX11_feed_6 : decode cX11_feed 6 = .ok (.invokevirtual 145, 3) := by decide +kernel
theorem dX11_feed_9 : decode cX11_feed 9 = .ok (.ifCond .ne 5, 3) := by decide +kernel
theorem dX11_feed_12 : decode cX11_feed 12 = .ok (.iconst (-1), 1) := by decide +kernel
theorem dX11_feed_13 : decode cX11_feed 13 = .ok (.ireturn, 1) := by decide +kernel
theorem dX11_feed_14 : decode cX11_feed 14 = .ok (.aload_n 0, 1) := by decide +kernel
theorem dX11_feed_15 : decode cX11_feed 15 = .ok (.getfield 37, 3) := by decide +kernel
theorem dX11_feed_18 : decode cX11_feed 18 = .ok (.iload_n 1, 1) := by decide +kernel
theorem dX11_feed_19 : decode cX11_feed 19 = .ok (.invokevirtual 148, 3) := by decide +kernel
theorem dX11_feed_22 : decode cX11_feed 22 = .ok (.aload_n 0, 1) := by decide +kernel
theorem dX11_feed_23 : decode cX11_feed 23 = .ok (.getfield 37, 3) := by decide +kernel
theorem dX11_feed_26 : decode cX11_feed 26 = .ok (.iload_n 2, 1) := by decide +kernel
theorem dX11_feed_27 : decode cX11_feed 27 = .ok (.invokevirtual 148, 3) := by decide +kernel
theorem dX11_feed_30 : decode cX11_feed 30 = .ok (.aload_n 0, 1) := by decide +kernel
theorem dX11_feed_31 : decode cX11_feed 31 = .ok (.getfield 37, 3) := by decide +kernel
theorem dX11_feed_34 : decode cX11_feed 34 = .ok (.iload_n 3, 1) := by decide +kernel
theorem dX11_feed_35 : decode cX11_feed 35 = .ok (.invokevirtual 148, 3) := by decide +kernel
theorem dX11_feed_38 : decode cX11_feed 38 = .ok (.aload_n 0, 1) := by decide +kernel
theorem dX11_feed_39 : decode cX11_feed 39 = .ok (.getfield 37, 3) := by decide +kernel
theorem dX11_feed_42 : decode cX11_feed 42 = .ok (.iload 4, 2) := by decide +kernel
theorem dX11_feed_44 : decode cX11_feed 44 = .ok (.invokevirtual 148, 3) := by decide +kernel
theorem dX11_feed_47 : decode cX11_feed 47 = .ok (.aload_n 0, 1) := by decide +kernel
theorem dX11_feed_48 : decode cX11_feed 48 = .ok (.getfield 37, 3) := by decide +kernel
theorem dX11_feed_51 : decode cX11_feed 51 = .ok (.iload 5, 2) := by decide +kernel
theorem dX11_feed_53 : decode cX11_feed 53 = .ok (.invokevirtual 148, 3) := by decide +kernel
theorem dX11_feed_56 : decode cX11_feed 56 = .ok (.aload_n 0, 1) := by decide +kernel
theorem dX11_feed_57 : decode cX11_feed 57 = .ok (.getfield 37, 3) := by decide +kernel
theorem dX11_feed_60 : decode cX11_feed 60 = .ok (.getfield 152, 3) := by decide +kernel
theorem dX11_feed_63 : decode cX11_feed 63 = .ok (.ireturn, 1) := by decide +kernel
theorem dX11_book_0 : decode cX11_book 0 = .ok (.aload_n 0, 1) := by decide +kernel
theorem dX11_book_1 : decode cX11_book 1 = .ok (.getfield 37, 3) := by decide +kernel
theorem dX11_book_4 : decode cX11_book 4 = .ok (.iload_n 1, 1) := by decide +kernel
theorem dX11_book_5 : decode cX11_book 5 = .ok (.invokevirtual 155, 3) := by decide +kernel
theorem dX11_book_8 : decode cX11_book 8 = .ok (.ifCond .ne 9, 3) := by decide +kernel
theorem dX11_book_11 : decode cX11_book 11 = .ok (.aload_n 0, 1) := by decide +kernel
theorem dX11_book_12 : decode cX11_book 12 = .ok (.iconst 5, 1) := by decide +kernel
theorem dX11_book_13 : decode cX11_book 13 = .ok (.invokevirtual 101, 3) := by decide +kernel
theorem dX11_book_16 : decode cX11_book 16 = .ok (.ireturn, 1) := by decide +kernel
theorem dX11_book_17 : decode cX11_book 17 = .ok (.aload_n 0, 1) := by decide +kernel
theorem dX11_book_18 : decode cX11_book 18 = .ok (.getfield 44, 3) := by decide +kernel
theorem dX11_book_21 : decode cX11_book 21 = .ok (.aload_n 0, 1) := by decide +kernel
theorem dX11_book_22 : decode cX11_book 22 = .ok (.getfield 37, 3) := by decide +kernel
theorem dX11_book_25 : decode cX11_book 25 = .ok (.aload_n 0, 1) := by decide +kernel
theorem dX11_book_26 : decode cX11_book 26 = .ok (.getfield 62, 3) := by decide +kernel
theorem dX11_book_29 : decode cX11_book 29 = .ok (.invokevirtual 158, 3) := by decide +kernel
theorem dX11_book_32 : decode cX11_book 32 = .ok (.istore_n 2, 1) := by decide +kernel
theorem dX11_book_33 : decode cX11_book 33 = .ok (.aload_n 0, 1) := by decide +kernel
theorem dX11_book_34 : decode cX11_book 34 = .ok (.getfield 37, 3) := by decide +kernel
theorem dX11_book_37 : decode cX11_book 37 = .ok (.invokevirtual 162, 3) := by decide +kernel
theorem dX11_book_40 : decode cX11_book 40 = .ok (.iload_n 2, 1) := by decide +kernel
theorem dX11_book_41 : decode cX11_book 41 = .ok (.ifCond .ne 10, 3) := by decide +kernel
theorem dX11_book_44 : decode cX11_book 44 = .ok (.aload_n 0, 1) := by decide +kernel
theorem dX11_book_45 : decode cX11_book 45 = .ok (.bipush 10, 2) := by decide +kernel
theorem dX11_book_47 : decode cX11_book 47 = .ok (.invokevirtual 101, 3) := by decide +kernel
theorem dX11_book_50 : decode cX11_book 50 = .ok (.ireturn, 1) := by decide +kernel
theorem dX11_book_51 : decode cX11_book 51 = .ok (.aload_n 0, 1) := by decide +kernel
theorem dX11_book_52 : decode cX11_book 52 = .ok (.getfield 58, 3) := by decide +kernel
theorem dX11_book_55 : decode cX11_book 55 = .ok (.aload_n 0, 1) := by decide +kernel
theorem dX11_book_56 : decode cX11_book 56 = .ok (.getfield 62, 3) := by decide +kernel
theorem dX11_book_59 : decode cX11_book 59 = .ok (.invokevirtual 165, 3) := by decide +kernel
theorem dX11_book_62 : decode cX11_book 62 = .ok (.aload_n 0, 1) := by decide +kernel
theorem dX11_book_63 : decode cX11_book 63 = .ok (.aload_n 0, 1) := by decide +kernel
theorem dX11_book_64 : decode cX11_book 64 = .ok (.getfield 58, 3) := by decide +kernel
theorem dX11_book_67 : decode cX11_book 67 = .ok (.getfield 169, 3) := by decide +kernel
theorem dX11_book_70 : decode cX11_book 70 = .ok (.invokevirtual 105, 3) := by decide +kernel
theorem dX11_book_73 : decode cX11_book 73 = .ok (.ireturn, 1) := by decide +kernel
theorem dX11_rounds_0 : decode cX11_rounds 0 = .ok (.iload_n 1, 1) := by decide +kernel
theorem dX11_rounds_1 : decode cX11_rounds 1 = .ok (.sipush 300, 3) := by decide +kernel
theorem dX11_rounds_4 : decode cX11_rounds 4 = .ok (.if_icmp .gt 14, 3) := by decide +kernel
theorem dX11_rounds_7 : decode cX11_rounds 7 = .ok (.aload_n 0, 1) := by decide +kernel
theorem dX11_rounds_8 : decode cX11_rounds 8 = .ok (.getfield 37, 3) := by decide +kernel
theorem dX11_rounds_11 : decode cX11_rounds 11 = .ok (.iload_n 1, 1) := by decide +kernel
theorem dX11_rounds_12 : decode cX11_rounds 12 = .ok (.invokevirtual 155, 3) := by decide +kernel
theorem dX11_rounds_15 : decode cX11_rounds 15 = .ok (.ifCond .ne 9, 3) := by decide +kernel
theorem dX11_rounds_18 : decode cX11_rounds 18 = .ok (.aload_n 0, 1) := by decide +kernel
theorem dX11_rounds_19 : decode cX11_rounds 19 = .ok (.iconst 5, 1) := by decide +kernel
theorem dX11_rounds_20 : decode cX11_rounds 20 = .ok (.invokevirtual 101, 3) := by decide +kernel
theorem dX11_rounds_23 : decode cX11_rounds 23 = .ok (.ireturn, 1) := by decide +kernel
theorem dX11_rounds_24 : decode cX11_rounds 24 = .ok (.aload_n 0, 1) := by decide +kernel
theorem dX11_rounds_25 : decode cX11_rounds 25 = .ok (.getfield 51, 3) := by decide +kernel
theorem dX11_rounds_28 : decode cX11_rounds 28 = .ok (.aload_n 0, 1) := by decide +kernel
theorem dX11_rounds_29 : decode cX11_rounds 29 = .ok (.getfield 37, 3) := by decide +kernel
theorem dX11_rounds_32 : decode cX11_rounds 32 = .ok (.aload_n 0, 1) := by decide +kernel
theorem dX11_rounds_33 : decode cX11_rounds 33 = .ok (.getfield 58, 3) := by decide +kernel
theorem dX11_rounds_36 : decode cX11_rounds 36 = .ok (.aload_n 0, 1) := by decide +kernel
theorem dX11_rounds_37 : decode cX11_rounds 37 = .ok (.getfield 62, 3) := by decide +kernel
theorem dX11_rounds_40 : decode cX11_rounds 40 = .ok (.getfield 172, 3) := by decide +kernel
theorem dX11_rounds_43 : decode cX11_rounds 43 = .ok (.invokevirtual 176, 3) := by decide +kernel
theorem dX11_rounds_46 : decode cX11_rounds 46 = .ok (.istore_n 2, 1) := by decide +kernel
theorem dX11_rounds_47 : decode cX11_rounds 47 = .ok (.aload_n 0, 1) := by decide +kernel
theorem dX11_rounds_48 : decode cX11_rounds 48 = .ok (.getfield 37, 3) := by decide +kernel
theorem dX11_rounds_51 : decode cX11_rounds 51 = .ok (.invokevirtual 162, 3) := by decide +kernel
theorem dX11_rounds_54 : decode cX11_rounds 54 = .ok (.iload_n 2, 1) := by decide +kernel
theorem dX11_rounds_55 : decode cX11_rounds 55 = .ok (.ifCond .ne 10, 3) := by decide +kernel
theorem dX11_rounds_58 : decode cX11_rounds 58 = .ok (.aload_n 0, 1) := by decide +kernel
theorem dX11_rounds_59 : decode cX11_rounds 59 = .ok (.bipush 10, 2) := by decide +kernel
theorem dX11_rounds_61 : decode cX11_rounds 61 = .ok (.invokevirtual 101, 3) := by decide +kernel
theorem dX11_rounds_64 : decode cX11_rounds 64 = .ok (.ireturn, 1) := by decide +kernel
theorem dX11_rounds_65 : decode cX11_rounds 65 = .ok (.aload_n 0, 1) := by decide +kernel
theorem dX11_rounds_66 : decode cX11_rounds 66 = .ok (.getfield 58, 3) := by decide +kernel
theorem dX11_rounds_69 : decode cX11_rounds 69 = .ok (.getfield 172, 3) := by decide +kernel
theorem dX11_rounds_72 : decode cX11_rounds 72 = .ok (.aload_n 0, 1) := by decide +kernel
theorem dX11_rounds_73 : decode cX11_rounds 73 = .ok (.getfield 62, 3) := by decide +kernel
theorem dX11_rounds_76 : decode cX11_rounds 76 = .ok (.getfield 172, 3) := by decide +kernel
theorem dX11_rounds_79 : decode cX11_rounds 79 = .ok (.invokevirtual 179, 3) := by decide +kernel
theorem dX11_rounds_82 : decode cX11_rounds 82 = .ok (.aload_n 0, 1) := by decide +kernel
theorem dX11_rounds_83 : decode cX11_rounds 83 = .ok (.aload_n 0, 1) := by decide +kernel
theorem dX11_rounds_84 : decode cX11_rounds 84 = .ok (.getfield 58, 3) := by decide +kernel
theorem dX11_rounds_87 : decode cX11_rounds 87 = .ok (.getfield 172, 3) := by decide +kernel
theorem dX11_rounds_90 : decode cX11_rounds 90 = .ok (.getfield 184, 3) := by decide +kernel
theorem dX11_rounds_93 : decode cX11_rounds 93 = .ok (.invokevirtual 105, 3) := by decide +kernel
theorem dX11_rounds_96 : decode cX11_rounds 96 = .ok (.ireturn, 1) := by decide +kernel
theorem dX11_fault_0 : decode cX11_fault 0 = .ok (.iload_n 1, 1) := by decide +kernel
theorem dX11_fault_1 : decode cX11_fault 1 = .ok (.ifCond .ne 11, 3) := by decide +kernel
theorem dX11_fault_4 : decode cX11_fault 4 = .ok (.aload_n 0, 1) := by decide +kernel
theorem dX11_fault_5 : decode cX11_fault 5 = .ok (.getfield 37, 3) := by decide +kernel
theorem dX11_fault_8 : decode cX11_fault 8 = .ok (.getfield 187, 3) := by decide +kernel
theorem dX11_fault_11 : decode cX11_fault 11 = .ok (.ireturn, 1) := by decide +kernel
theorem dX11_fault_12 : decode cX11_fault 12 = .ok (.iload_n 1, 1) := by decide +kernel
theorem dX11_fault_13 : decode cX11_fault 13 = .ok (.iconst 1, 1) := by decide +kernel
theorem dX11_fault_14 : decode cX11_fault 14 = .ok (.if_icmp .ne 13, 3) := by decide +kernel
theorem dX11_fault_17 : decode cX11_fault 17 = .ok (.aload_n 0, 1) := by decide +kernel
theorem dX11_fault_18 : decode cX11_fault 18 = .ok (.getfield 37, 3) := by decide +kernel
theorem dX11_fault_21 : decode cX11_fault 21 = .ok (.getfield 190, 3) := by decide +kernel
theorem dX11_fault_24 : decode cX11_fault 24 = .ok (.goto 4, 3) := by decide +kernel
theorem dX11_fault_27 : decode cX11_fault 27 = .ok (.iconst (-1), 1) := by decide +kernel
theorem dX11_fault_28 : decode cX11_fault 28 = .ok (.ireturn, 1) := by decide +kernel
theorem dX11_many_0 : decode cX11_many 0 = .ok (.aload_n 0, 1) := by decide +kernel
theorem dX11_many_1 : decode cX11_many 1 = .ok (.getfield 58, 3) := by decide +kernel
theorem dX11_many_4 : decode cX11_many 4 = .ok (.getfield 193, 3) := by decide +kernel
theorem dX11_many_7 : decode cX11_many 7 = .ok (.astore_n 2, 1) := by decide +kernel
theorem dX11_many_8 : decode cX11_many 8 = .ok (.iload_n 1, 1) := by decide +kernel
theorem dX11_many_9 : decode cX11_many 9 = .ok (.tableswitch 141 0 8 #[51, 63, 75, 87, 96, 105, 114, 123, 132], 51) := by decide +kernel
theorem dX11_many_60 : decode cX11_many 60 = .ok (.aload_n 0, 1) := by decide +kernel
theorem dX11_many_61 : decode cX11_many 61 = .ok (.aload_n 0, 1) := by decide +kernel
theorem dX11_many_62 : decode cX11_many 62 = .ok (.getfield 58, 3) := by decide +kernel
theorem dX11_many_65 : decode cX11_many 65 = .ok (.getfield 169, 3) := by decide +kernel
theorem dX11_many_68 : decode cX11_many 68 = .ok (.invokevirtual 105, 3) := by decide +kernel
theorem dX11_many_71 : decode cX11_many 71 = .ok (.ireturn, 1) := by decide +kernel
theorem dX11_many_72 : decode cX11_many 72 = .ok (.aload_n 0, 1) := by decide +kernel
theorem dX11_many_73 : decode cX11_many 73 = .ok (.aload_n 0, 1) := by decide +kernel
theorem dX11_many_74 : decode cX11_many 74 = .ok (.getfield 58, 3) := by decide +kernel
theorem dX11_many_77 : decode cX11_many 77 = .ok (.getfield 197, 3) := by decide +kernel
theorem dX11_many_80 : decode cX11_many 80 = .ok (.invokevirtual 105, 3) := by decide +kernel
theorem dX11_many_83 : decode cX11_many 83 = .ok (.ireturn, 1) := by decide +kernel
theorem dX11_many_84 : decode cX11_many 84 = .ok (.aload_n 0, 1) := by decide +kernel
theorem dX11_many_85 : decode cX11_many 85 = .ok (.aload_n 0, 1) := by decide +kernel
theorem dX11_many_86 : decode cX11_many 86 = .ok (.getfield 58, 3) := by decide +kernel
theorem dX11_many_89 : decode cX11_many 89 = .ok (.getfield 200, 3) := by decide +kernel
theorem dX11_many_92 : decode cX11_many 92 = .ok (.invokevirtual 105, 3) := by decide +kernel
theorem dX11_many_95 : decode cX11_many 95 = .ok (.ireturn, 1) := by decide +kernel
theorem dX11_many_96 : decode cX11_many 96 = .ok (.aload_n 0, 1) := by decide +kernel
theorem dX11_many_97 : decode cX11_many 97 = .ok (.aload_n 2, 1) := by decide +kernel
theorem dX11_many_98 : decode cX11_many 98 = .ok (.getfield 203, 3) := by decide +kernel
theorem dX11_many_101 : decode cX11_many 101 = .ok (.invokevirtual 105, 3) := by decide +kernel
theorem dX11_many_104 : decode cX11_many 104 = .ok (.ireturn, 1) := by decide +kernel
theorem dX11_many_105 : decode cX11_many 105 = .ok (.aload_n 0, 1) := by decide +kernel
theorem dX11_many_106 : decode cX11_many 106 = .ok (.aload_n 2, 1) := by decide +kernel
theorem dX11_many_107 : decode cX11_many 107 = .ok (.getfield 208, 3) := by decide +kernel
theorem dX11_many_110 : decode cX11_many 110 = .ok (.invokevirtual 105, 3) := by decide +kernel
theorem dX11_many_113 : decode cX11_many 113 = .ok (.ireturn, 1) := by decide +kernel
theorem dX11_many_114 : decode cX11_many 114 = .ok (.aload_n 0, 1) := by decide +kernel
theorem dX11_many_115 : decode cX11_many 115 = .ok (.aload_n 2, 1) := by decide +kernel
theorem dX11_many_116 : decode cX11_many 116 = .ok (.invokevirtual 211, 3) := by decide +kernel
theorem dX11_many_119 : decode cX11_many 119 = .ok (.invokevirtual 105, 3) := by decide +kernel
theorem dX11_many_122 : decode cX11_many 122 = .ok (.ireturn, 1) := by decide +kernel
theorem dX11_many_123 : decode cX11_many 123 = .ok (.aload_n 0, 1) := by decide +kernel
theorem dX11_many_124 : decode cX11_many 124 = .ok (.aload_n 2, 1) := by decide +kernel
theorem dX11_many_125 : decode cX11_many 125 = .ok (.getfield 215, 3) := by decide +kernel
theorem dX11_many_128 : decode cX11_many 128 = .ok (.invokevirtual 105, 3) := by decide +kernel
theorem dX11_many_131 : decode cX11_many 131 = .ok (.ireturn, 1) := by decide +kernel
theorem dX11_many_132 : decode cX11_many 132 = .ok (.aload_n 0, 1) := by decide +kernel
theorem dX11_many_133 : decode cX11_many 133 = .ok (.aload_n 2, 1) := by decide +kernel
theorem dX11_many_134 : decode cX11_many 134 = .ok (.getfield 218, 3) := by decide +kernel
theorem dX11_many_137 : decode cX11_many 137 = .ok (.invokevirtual 105, 3) := by decide +kernel
theorem dX11_many_140 : decode cX11_many 140 = .ok (.ireturn, 1) := by decide +kernel
theorem dX11_many_141 : decode cX11_many 141 = .ok (.aload_n 0, 1) := by decide +kernel
theorem dX11_many_142 : decode cX11_many 142 = .ok (.aload_n 2, 1) := by decide +kernel
theorem dX11_many_143 : decode cX11_many 143 = .ok (.getfield 221, 3) := by decide +kernel
theorem dX11_many_146 : decode cX11_many 146 = .ok (.invokevirtual 105, 3) := by decide +kernel
theorem dX11_many_149 : decode cX11_many 149 = .ok (.ireturn, 1) := by decide +kernel
theorem dX11_many_150 : decode cX11_many 150 = .ok (.aload_n 0, 1) := by decide +kernel
theorem dX11_many_151 : decode cX11_many 151 = .ok (.iconst 5, 1) := by decide +kernel
theorem dX11_many_152 : decode cX11_many 152 = .ok (.invokevirtual 101, 3) := by decide +kernel
theorem dX11_many_155 : decode cX11_many 155 = .ok (.ireturn, 1) := by decide +kernel
theorem dX11_cell_0 : decode cX11_cell 0 = .ok (.aload_n 0, 1) := by decide +kernel
theorem dX11_cell_1 : decode cX11_cell 1 = .ok (.getfield 58, 3) := by decide +kernel
theorem dX11_cell_4 : decode cX11_cell 4 = .ok (.iload_n 1, 1) := by decide +kernel
theorem dX11_cell_5 : decode cX11_cell 5 = .ok (.invokevirtual 224, 3) := by decide +kernel
theorem dX11_cell_8 : decode cX11_cell 8 = .ok (.ifCond .ne 9, 3) := by decide +kernel
theorem dX11_cell_11 : decode cX11_cell 11 = .ok (.aload_n 0, 1) := by decide +kernel
theorem dX11_cell_12 : decode cX11_cell 12 = .ok (.iconst 2, 1) := by decide +kernel
theorem dX11_cell_13 : decode cX11_cell 13 = .ok (.invokevirtual 101, 3) := by decide +kernel
theorem dX11_cell_16 : decode cX11_cell 16 = .ok (.ireturn, 1) := by decide +kernel
theorem dX11_cell_17 : decode cX11_cell 17 = .ok (.iload_n 2, 1) := by decide +kernel
theorem dX11_cell_18 : decode cX11_cell 18 = .ok (.tableswitch 150 0 5 #[38, 52, 76, 100, 117, 133], 38) := by decide +kernel
theorem dX11_cell_56 : decode cX11_cell 56 = .ok (.aload_n 0, 1) := by decide +kernel
theorem dX11_cell_57 : decode cX11_cell 57 = .ok (.aload_n 0, 1) := by decide +kernel
theorem dX11_cell_58 : decode cX11_cell 58 = .ok (.getfield 58, 3) := by decide +kernel
theorem dX11_cell_61 : decode cX11_cell 61 = .ok (.getfield 227, 3) := by decide +kernel
theorem dX11_cell_64 : decode cX11_cell 64 = .ok (.iload_n 1, 1) := by decide +kernel
theorem dX11_cell_65 : decode cX11_cell 65 = .ok (.iaload, 1) := by decide +kernel
theorem dX11_cell_66 : decode cX11_cell 66 = .ok (.invokevirtual 105, 3) := by decide +kernel
theorem dX11_cell_69 : decode cX11_cell 69 = .ok (.ireturn, 1) := by decide +kernel
theorem dX11_cell_70 : decode cX11_cell 70 = .ok (.aload_n 0, 1) := by decide +kernel
theorem dX11_cell_71 : decode cX11_cell 71 = .ok (.aload_n 0, 1) := by decide +kernel
theorem dX11_cell_72 : decode cX11_cell 72 = .ok (.getfield 58, 3) := by decide +kernel
theorem dX11_cell_75 : decode cX11_cell 75 = .ok (.getfield 230, 3) := by decide +kernel
theorem dX11_cell_78 : decode cX11_cell 78 = .ok (.iload_n 1, 1) := by decide +kernel
theorem dX11_cell_79 : decode cX11_cell 79 = .ok (.invokestatic 233, 3) := by decide +kernel
theorem dX11_cell_82 : decode cX11_cell 82 = .ok (.ifCond .eq 7, 3) := by decide +kernel
theorem dX11_cell_85 : decode cX11_cell 85 = .ok (.iconst 1, 1) := by decide +kernel
theorem dX11_cell_86 : decode cX11_cell 86 = .ok (.goto 4, 3) := by decide +kernel
theorem dX11_cell_89 : decode cX11_cell 89 = .ok (.iconst 0, 1) := by decide +kernel
theorem dX11_cell_90 : decode cX11_cell 90 = .ok (.invokevirtual 105, 3) := by decide +kernel
theorem dX11_cell_93 : decode cX11_cell 93 = .ok (.ireturn, 1) := by decide +kernel
theorem dX11_cell_94 : decode cX11_cell 94 = .ok (.aload_n 0, 1) := by decide +kernel
theorem dX11_cell_95 : decode cX11_cell 95 = .ok (.aload_n 0, 1) := by decide +kernel
theorem dX11_cell_96 : decode cX11_cell 96 = .ok (.getfield 58, 3) := by decide +kernel
theorem dX11_cell_99 : decode cX11_cell 99 = .ok (.getfield 237, 3) := by decide +kernel
theorem dX11_cell_102 : decode cX11_cell 102 = .ok (.iload_n 1, 1) := by decide +kernel
theorem dX11_cell_103 : decode cX11_cell 103 = .ok (.invokestatic 233, 3) := by decide +kernel
theorem dX11_cell_106 : decode cX11_cell 106 = .ok (.ifCond .eq 7, 3) := by decide +kernel
theorem dX11_cell_109 : decode cX11_cell 109 = .ok (.iconst 1, 1) := by decide +kernel
theorem dX11_cell_110 : decode cX11_cell 110 = .ok (.goto 4, 3) := by decide +kernel
theorem dX11_cell_113 : decode cX11_cell 113 = .ok (.iconst 0, 1) := by decide +kernel
theorem dX11_cell_114 : decode cX11_cell 114 = .ok (.invokevirtual 105, 3) := by decide +kernel
theorem dX11_cell_117 : decode cX11_cell 117 = .ok (.ireturn, 1) := by decide +kernel
theorem dX11_cell_118 : decode cX11_cell 118 = .ok (.aload_n 0, 1) := by decide +kernel
theorem dX11_cell_119 : decode cX11_cell 119 = .ok (.aload_n 0, 1) := by decide +kernel
theorem dX11_cell_120 : decode cX11_cell 120 = .ok (.getfield 58, 3) := by decide +kernel
theorem dX11_cell_123 : decode cX11_cell 123 = .ok (.getfield 193, 3) := by decide +kernel
theorem dX11_cell_126 : decode cX11_cell 126 = .ok (.getfield 240, 3) := by decide +kernel
theorem dX11_cell_129 : decode cX11_cell 129 = .ok (.iload_n 1, 1) := by decide +kernel
theorem dX11_cell_130 : decode cX11_cell 130 = .ok (.iaload, 1) := by decide +kernel
theorem dX11_cell_131 : decode cX11_cell 131 = .ok (.invokevirtual 105, 3) := by decide +kernel
theorem dX11_cell_134 : decode cX11_cell 134 = .ok (.ireturn, 1) := by decide +kernel
theorem dX11_cell_135 : decode cX11_cell 135 = .ok (.aload_n 0, 1) := by decide +kernel
theorem dX11_cell_136 : decode cX11_cell 136 = .ok (.aload_n 0, 1) := by decide +kernel
theorem dX11_cell_137 : decode cX11_cell 137 = .ok (.getfield 58, 3) := by decide +kernel
theorem dX11_cell_140 : decode cX11_cell 140 = .ok (.getfield 193, 3) := by decide +kernel
theorem dX11_cell_143 : decode cX11_cell 143 = .ok (.iload_n 1, 1) := by decide +kernel
theorem dX11_cell_144 : decode cX11_cell 144 = .ok (.invokevirtual 243, 3) := by decide +kernel
theorem dX11_cell_147 : decode cX11_cell 147 = .ok (.invokevirtual 246, 3) := by decide +kernel
theorem dX11_cell_150 : decode cX11_cell 150 = .ok (.ireturn, 1) := by decide +kernel
theorem dX11_cell_151 : decode cX11_cell 151 = .ok (.aload_n 0, 1) := by decide +kernel
theorem dX11_cell_152 : decode cX11_cell 152 = .ok (.aload_n 0, 1) := by decide +kernel
theorem dX11_cell_153 : decode cX11_cell 153 = .ok (.getfield 58, 3) := by decide +kernel
theorem dX11_cell_156 : decode cX11_cell 156 = .ok (.getfield 193, 3) := by decide +kernel
theorem dX11_cell_159 : decode cX11_cell 159 = .ok (.getfield 249, 3) := by decide +kernel
theorem dX11_cell_162 : decode cX11_cell 162 = .ok (.iload_n 1, 1) := by decide +kernel
theorem dX11_cell_163 : decode cX11_cell 163 = .ok (.iaload, 1) := by decide +kernel
theorem dX11_cell_164 : decode cX11_cell 164 = .ok (.invokevirtual 105, 3) := by decide +kernel
theorem dX11_cell_167 : decode cX11_cell 167 = .ok (.ireturn, 1) := by decide +kernel
theorem dX11_cell_168 : decode cX11_cell 168 = .ok (.aload_n 0, 1) := by decide +kernel
theorem dX11_cell_169 : decode cX11_cell 169 = .ok (.iconst 5, 1) := by decide +kernel
theorem dX11_cell_170 : decode cX11_cell 170 = .ok (.invokevirtual 101, 3) := by decide +kernel
theorem dX11_cell_173 : decode cX11_cell 173 = .ok (.ireturn, 1) := by decide +kernel
theorem dX11_secret_0 : decode cX11_secret 0 = .ok (.aload_n 0, 1) := by decide +kernel
theorem dX11_secret_1 : decode cX11_secret 1 = .ok (.getfield 58, 3) := by decide +kernel
theorem dX11_secret_4 : decode cX11_secret 4 = .ok (.iload_n 1, 1) := by decide +kernel
theorem dX11_secret_5 : decode cX11_secret 5 = .ok (.invokevirtual 252, 3) := by decide +kernel
theorem dX11_secret_8 : decode cX11_secret 8 = .ok (.ifCond .eq 19, 3) := by decide +kernel
theorem dX11_secret_11 : decode cX11_secret 11 = .ok (.aload_n 0, 1) := by decide +kernel
theorem dX11_secret_12 : decode cX11_secret 12 = .ok (.aload_n 0, 1) := by decide +kernel
theorem dX11_secret_13 : decode cX11_secret 13 = .ok (.getfield 58, 3) := by decide +kernel
theorem dX11_secret_16 : decode cX11_secret 16 = .ok (.getfield 255, 3) := by decide +kernel
theorem dX11_secret_19 : decode cX11_secret 19 = .ok (.iload_n 1, 1) := by decide +kernel
theorem dX11_secret_20 : decode cX11_secret 20 = .ok (.iaload, 1) := by decide +kernel
theorem dX11_secret_21 : decode cX11_secret 21 = .ok (.invokevirtual 105, 3) := by decide +kernel
theorem dX11_secret_24 : decode cX11_secret 24 = .ok (.goto 8, 3) := by decide +kernel
theorem dX11_secret_27 : decode cX11_secret 27 = .ok (.aload_n 0, 1) := by decide +kernel
theorem dX11_secret_28 : decode cX11_secret 28 = .ok (.iconst 2, 1) := by decide +kernel
theorem dX11_secret_29 : decode cX11_secret 29 = .ok (.invokevirtual 101, 3) := by decide +kernel
theorem dX11_secret_32 : decode cX11_secret 32 = .ok (.ireturn, 1) := by decide +kernel
theorem dX11_page_0 : decode cX11_page 0 = .ok (.aload_n 0, 1) := by decide +kernel
theorem dX11_page_1 : decode cX11_page 1 = .ok (.getfield 58, 3) := by decide +kernel
theorem dX11_page_4 : decode cX11_page 4 = .ok (.iload_n 1, 1) := by decide +kernel
theorem dX11_page_5 : decode cX11_page 5 = .ok (.invokevirtual 258, 3) := by decide +kernel
theorem dX11_page_8 : decode cX11_page 8 = .ok (.ifCond .ne 9, 3) := by decide +kernel
theorem dX11_page_11 : decode cX11_page 11 = .ok (.aload_n 0, 1) := by decide +kernel
theorem dX11_page_12 : decode cX11_page 12 = .ok (.iconst 2, 1) := by decide +kernel
theorem dX11_page_13 : decode cX11_page 13 = .ok (.invokevirtual 101, 3) := by decide +kernel
theorem dX11_page_16 : decode cX11_page 16 = .ok (.ireturn, 1) := by decide +kernel
theorem dX11_page_17 : decode cX11_page 17 = .ok (.iload_n 2, 1) := by decide +kernel
theorem dX11_page_18 : decode cX11_page 18 = .ok (.tableswitch 98 0 3 #[30, 44, 61, 81], 30) := by decide +kernel
theorem dX11_page_48 : decode cX11_page 48 = .ok (.aload_n 0, 1) := by decide +kernel
theorem dX11_page_49 : decode cX11_page 49 = .ok (.aload_n 0, 1) := by decide +kernel
theorem dX11_page_50 : decode cX11_page 50 = .ok (.getfield 58, 3) := by decide +kernel
theorem dX11_page_53 : decode cX11_page 53 = .ok (.getfield 261, 3) := by decide +kernel
theorem dX11_page_56 : decode cX11_page 56 = .ok (.iload_n 1, 1) := by decide +kernel
theorem dX11_page_57 : decode cX11_page 57 = .ok (.iaload, 1) := by decide +kernel
theorem dX11_page_58 : decode cX11_page 58 = .ok (.invokevirtual 105, 3) := by decide +kernel
theorem dX11_page_61 : decode cX11_page 61 = .ok (.ireturn, 1) := by decide +kernel
theorem dX11_page_62 : decode cX11_page 62 = .ok (.aload_n 0, 1) := by decide +kernel
theorem dX11_page_63 : decode cX11_page 63 = .ok (.aload_n 0, 1) := by decide +kernel
theorem dX11_page_64 : decode cX11_page 64 = .ok (.getfield 58, 3) := by decide +kernel
theorem dX11_page_67 : decode cX11_page 67 = .ok (.getfield 193, 3) := by decide +kernel
theorem dX11_page_70 : decode cX11_page 70 = .ok (.getfield 264, 3) := by decide +kernel
theorem dX11_page_73 : decode cX11_page 73 = .ok (.iload_n 1, 1) := by decide +kernel
theorem dX11_page_74 : decode cX11_page 74 = .ok (.iaload, 1) := by decide +kernel
theorem dX11_page_75 : decode cX11_page 75 = .ok (.invokevirtual 105, 3) := by decide +kernel
theorem dX11_page_78 : decode cX11_page 78 = .ok (.ireturn, 1) := by decide +kernel
theorem dX11_page_79 : decode cX11_page 79 = .ok (.aload_n 0, 1) := by decide +kernel
theorem dX11_page_80 : decode cX11_page 80 = .ok (.aload_n 0, 1) := by decide +kernel
theorem dX11_page_81 : decode cX11_page 81 = .ok (.getfield 58, 3) := by decide +kernel
theorem dX11_page_84 : decode cX11_page 84 = .ok (.getfield 193, 3) := by decide +kernel
theorem dX11_page_87 : decode cX11_page 87 = .ok (.aload_n 0, 1) := by decide +kernel
theorem dX11_page_88 : decode cX11_page 88 = .ok (.getfield 58, 3) := by decide +kernel
theorem dX11_page_91 : decode cX11_page 91 = .ok (.iload_n 1, 1) := by decide +kernel
theorem dX11_page_92 : decode cX11_page 92 = .ok (.invokevirtual 267, 3) := by decide +kernel
theorem dX11_page_95 : decode cX11_page 95 = .ok (.invokevirtual 105, 3) := by decide +kernel
theorem dX11_page_98 : decode cX11_page 98 = .ok (.ireturn, 1) := by decide +kernel
theorem dX11_page_99 : decode cX11_page 99 = .ok (.aload_n 0, 1) := by decide +kernel
theorem dX11_page_100 : decode cX11_page 100 = .ok (.aload_n 0, 1) := by decide +kernel
theorem dX11_page_101 : decode cX11_page 101 = .ok (.getfield 58, 3) := by decide +kernel
theorem dX11_page_104 : decode cX11_page 104 = .ok (.getfield 193, 3) := by decide +kernel
theorem dX11_page_107 : decode cX11_page 107 = .ok (.getfield 271, 3) := by decide +kernel
theorem dX11_page_110 : decode cX11_page 110 = .ok (.iload_n 1, 1) := by decide +kernel
theorem dX11_page_111 : decode cX11_page 111 = .ok (.iaload, 1) := by decide +kernel
theorem dX11_page_112 : decode cX11_page 112 = .ok (.invokevirtual 105, 3) := by decide +kernel
theorem dX11_page_115 : decode cX11_page 115 = .ok (.ireturn, 1) := by decide +kernel
theorem dX11_page_116 : decode cX11_page 116 = .ok (.aload_n 0, 1) := by decide +kernel
theorem dX11_page_117 : decode cX11_page 117 = .ok (.iconst 5, 1) := by decide +kernel
theorem dX11_page_118 : decode cX11_page 118 = .ok (.invokevirtual 101, 3) := by decide +kernel
theorem dX11_page_121 : decode cX11_page 121 = .ok (.ireturn, 1) := by decide +kernel
theorem dX11_pricks_0 : decode cX11_pricks 0 = .ok (.aload_n 0, 1) := by decide +kernel
theorem dX11_pricks_1 : decode cX11_pricks 1 = .ok (.getfield 58, 3) := by decide +kernel
theorem dX11_pricks_4 : decode cX11_pricks 4 = .ok (.iload_n 1, 1) := by decide +kernel
theorem dX11_pricks_5 : decode cX11_pricks 5 = .ok (.invokevirtual 258, 3) := by decide +kernel
theorem dX11_pricks_8 : decode cX11_pricks 8 = .ok (.ifCond .eq 14, 3) := by decide +kernel
theorem dX11_pricks_11 : decode cX11_pricks 11 = .ok (.aload_n 0, 1) := by decide +kernel
theorem dX11_pricks_12 : decode cX11_pricks 12 = .ok (.getfield 58, 3) := by decide +kernel
theorem dX11_pricks_15 : decode cX11_pricks 15 = .ok (.iload_n 2, 1) := by decide +kernel
theorem dX11_pricks_16 : decode cX11_pricks 16 = .ok (.invokevirtual 252, 3) := by decide +kernel
theorem dX11_pricks_19 : decode cX11_pricks 19 = .ok (.ifCond .ne 9, 3) := by decide +kernel
theorem dX11_pricks_22 : decode cX11_pricks 22 = .ok (.aload_n 0, 1) := by decide +kernel
theorem dX11_pricks_23 : decode cX11_pricks 23 = .ok (.iconst 2, 1) := by decide +kernel
theorem dX11_pricks_24 : decode cX11_pricks 24 = .ok (.invokevirtual 101, 3) := by decide +kernel
theorem dX11_pricks_27 : decode cX11_pricks 27 = .ok (.ireturn, 1) := by decide +kernel
theorem dX11_pricks_28 : decode cX11_pricks 28 = .ok (.aload_n 0, 1) := by decide +kernel
theorem dX11_pricks_29 : decode cX11_pricks 29 = .ok (.aload_n 0, 1) := by decide +kernel
theorem dX11_pricks_30 : decode cX11_pricks 30 = .ok (.getfield 58, 3) := by decide +kernel
theorem dX11_pricks_33 : decode cX11_pricks 33 = .ok (.getfield 193, 3) := by decide +kernel
theorem dX11_pricks_36 : decode cX11_pricks 36 = .ok (.getfield 274, 3) := by decide +kernel
theorem dX11_pricks_39 : decode cX11_pricks 39 = .ok (.iload_n 1, 1) := by decide +kernel
theorem dX11_pricks_40 : decode cX11_pricks 40 = .ok (.bipush 6, 2) := by decide +kernel
theorem dX11_pricks_42 : decode cX11_pricks 42 = .ok (.imul, 1) := by decide +kernel
theorem dX11_pricks_43 : decode cX11_pricks 43 = .ok (.iload_n 2, 1) := by decide +kernel
theorem dX11_pricks_44 : decode cX11_pricks 44 = .ok (.iadd, 1) := by decide +kernel
theorem dX11_pricks_45 : decode cX11_pricks 45 = .ok (.iaload, 1) := by decide +kernel
theorem dX11_pricks_46 : decode cX11_pricks 46 = .ok (.invokevirtual 105, 3) := by decide +kernel
theorem dX11_pricks_49 : decode cX11_pricks 49 = .ok (.ireturn, 1) := by decide +kernel
theorem dX11_orderAt_0 : decode cX11_orderAt 0 = .ok (.iload_n 1, 1) := by decide +kernel
theorem dX11_orderAt_1 : decode cX11_orderAt 1 = .ok (.ifCond .lt 17, 3) := by decide +kernel
theorem dX11_orderAt_4 : decode cX11_orderAt 4 = .ok (.iload_n 1, 1) := by decide +kernel
theorem dX11_orderAt_5 : decode cX11_orderAt 5 = .ok (.aload_n 0, 1) := by decide +kernel
theorem dX11_orderAt_6 : decode cX11_orderAt 6 = .ok (.getfield 58, 3) := by decide +kernel
theorem dX11_orderAt_9 : decode cX11_orderAt 9 = .ok (.getfield 193, 3) := by decide +kernel
theorem dX11_orderAt_12 : decode cX11_orderAt 12 = .ok (.getfield 203, 3) := by decide +kernel
theorem dX11_orderAt_15 : decode cX11_orderAt 15 = .ok (.if_icmp .lt 10, 3) := by decide +kernel
theorem dX11_orderAt_18 : decode cX11_orderAt 18 = .ok (.aload_n 0, 1) := by decide +kernel
theorem dX11_orderAt_19 : decode cX11_orderAt 19 = .ok (.bipush 8, 2) := by decide +kernel
theorem dX11_orderAt_21 : decode cX11_orderAt 21 = .ok (.invokevirtual 101, 3) := by decide +kernel
theorem dX11_orderAt_24 : decode cX11_orderAt 24 = .ok (.ireturn, 1) := by decide +kernel
theorem dX11_orderAt_25 : decode cX11_orderAt 25 = .ok (.aload_n 0, 1) := by decide +kernel
theorem dX11_orderAt_26 : decode cX11_orderAt 26 = .ok (.aload_n 0, 1) := by decide +kernel
theorem dX11_orderAt_27 : decode cX11_orderAt 27 = .ok (.getfield 58, 3) := by decide +kernel
theorem dX11_orderAt_30 : decode cX11_orderAt 30 = .ok (.getfield 193, 3) := by decide +kernel
theorem dX11_orderAt_33 : decode cX11_orderAt 33 = .ok (.getfield 277, 3) := by decide +kernel
theorem dX11_orderAt_36 : decode cX11_orderAt 36 = .ok (.iload_n 1, 1) := by decide +kernel
theorem dX11_orderAt_37 : decode cX11_orderAt 37 = .ok (.iaload, 1) := by decide +kernel
theorem dX11_orderAt_38 : decode cX11_orderAt 38 = .ok (.invokevirtual 105, 3) := by decide +kernel
theorem dX11_orderAt_41 : decode cX11_orderAt 41 = .ok (.ireturn, 1) := by decide +kernel
theorem dX11_next_0 : decode cX11_next 0 = .ok (.aload_n 0, 1) := by decide +kernel
theorem dX11_next_1 : decode cX11_next 1 = .ok (.getfield 58, 3) := by decide +kernel
theorem dX11_next_4 : decode cX11_next 4 = .ok (.getfield 193, 3) := by decide +kernel
theorem dX11_next_7 : decode cX11_next 7 = .ok (.invokevirtual 280, 3) := by decide +kernel
theorem dX11_next_10 : decode cX11_next 10 = .ok (.istore_n 1, 1) := by decide +kernel
theorem dX11_next_11 : decode cX11_next 11 = .ok (.iload_n 1, 1) := by decide +kernel
theorem dX11_next_12 : decode cX11_next 12 = .ok (.iconst (-1), 1) := by decide +kernel
theorem dX11_next_13 : decode cX11_next 13 = .ok (.if_icmp .ne 12, 3) := by decide +kernel
theorem dX11_next_16 : decode cX11_next 16 = .ok (.aload_n 0, 1) := by decide +kernel
theorem dX11_next_17 : decode cX11_next 17 = .ok (.bipush 8, 2) := by decide +kernel
theorem dX11_next_19 : decode cX11_next 19 = .ok (.invokevirtual 101, 3) := by decide +kernel
theorem dX11_next_22 : decode cX11_next 22 = .ok (.goto 19, 3) := by decide +kernel
theorem dX11_next_25 : decode cX11_next 25 = .ok (.aload_n 0, 1) := by decide +kernel
theorem dX11_next_26 : decode cX11_next 26 = .ok (.aload_n 0, 1) := by decide +kernel
theorem dX11_next_27 : decode cX11_next 27 = .ok (.getfield 58, 3) := by decide +kernel
theorem dX11_next_30 : decode cX11_next 30 = .ok (.getfield 193, 3) := by decide +kernel
theorem dX11_next_33 : decode cX11_next 33 = .ok (.getfield 277, 3) := by decide +kernel
theorem dX11_next_36 : decode cX11_next 36 = .ok (.iload_n 1, 1) := by decide +kernel
theorem dX11_next_37 : decode cX11_next 37 = .ok (.iaload, 1) := by decide +kernel
theorem dX11_next_38 : decode cX11_next 38 = .ok (.invokevirtual 105, 3) := by decide +kernel
theorem dX11_next_41 : decode cX11_next 41 = .ok (.ireturn, 1) := by decide +kernel
theorem dX11_knowers_0 : decode cX11_knowers 0 = .ok (.aload_n 0, 1) := by decide +kernel
theorem dX11_knowers_1 : decode cX11_knowers 1 = .ok (.getfield 58, 3) := by decide +kernel
theorem dX11_knowers_4 : decode cX11_knowers 4 = .ok (.iload_n 1, 1) := by decide +kernel
theorem dX11_knowers_5 : decode cX11_knowers 5 = .ok (.invokevirtual 252, 3) := by decide +kernel
theorem dX11_knowers_8 : decode cX11_knowers 8 = .ok (.ifCond .eq 21, 3) := by decide +kernel
theorem dX11_knowers_11 : decode cX11_knowers 11 = .ok (.aload_n 0, 1) := by decide +kernel
theorem dX11_knowers_12 : decode cX11_knowers 12 = .ok (.aload_n 0, 1) := by decide +kernel
theorem dX11_knowers_13 : decode cX11_knowers 13 = .ok (.getfield 58, 3) := by decide +kernel
theorem dX11_knowers_16 : decode cX11_knowers 16 = .ok (.getfield 193, 3) := by decide +kernel
theorem dX11_knowers_19 : decode cX11_knowers 19 = .ok (.iload_n 1, 1) := by decide +kernel
theorem dX11_knowers_20 : decode cX11_knowers 20 = .ok (.invokevirtual 283, 3) := by decide +kernel
theorem dX11_knowers_23 : decode cX11_knowers 23 = .ok (.invokevirtual 105, 3) := by decide +kernel
theorem dX11_knowers_26 : decode cX11_knowers 26 = .ok (.goto 8, 3) := by decide +kernel
theorem dX11_knowers_29 : decode cX11_knowers 29 = .ok (.aload_n 0, 1) := by decide +kernel
theorem dX11_knowers_30 : decode cX11_knowers 30 = .ok (.iconst 2, 1) := by decide +kernel
theorem dX11_knowers_31 : decode cX11_knowers 31 = .ok (.invokevirtual 101, 3) := by decide +kernel
theorem dX11_knowers_34 : decode cX11_knowers 34 = .ok (.ireturn, 1) := by decide +kernel
theorem dX11_copyPage_0 : decode cX11_copyPage 0 = .ok (.aload_n 0, 1) := by decide +kernel
theorem dX11_copyPage_1 : decode cX11_copyPage 1 = .ok (.getfield 16, 3) := by decide +kernel
theorem dX11_copyPage_4 : decode cX11_copyPage 4 = .ok (.iload_n 2, 1) := by decide +kernel
theorem dX11_copyPage_5 : decode cX11_copyPage 5 = .ok (.invokevirtual 108, 3) := by decide +kernel
theorem dX11_copyPage_8 : decode cX11_copyPage 8 = .ok (.ifCond .ne 9, 3) := by decide +kernel
theorem dX11_copyPage_11 : decode cX11_copyPage 11 = .ok (.aload_n 0, 1) := by decide +kernel
theorem dX11_copyPage_12 : decode cX11_copyPage 12 = .ok (.iconst 1, 1) := by decide +kernel
theorem dX11_copyPage_13 : decode cX11_copyPage 13 = .ok (.invokevirtual 101, 3) := by decide +kernel
theorem dX11_copyPage_16 : decode cX11_copyPage 16 = .ok (.ireturn, 1) := by decide +kernel
theorem dX11_copyPage_17 : decode cX11_copyPage 17 = .ok (.aload_n 0, 1) := by decide +kernel
theorem dX11_copyPage_18 : decode cX11_copyPage 18 = .ok (.getfield 58, 3) := by decide +kernel
theorem dX11_copyPage_21 : decode cX11_copyPage 21 = .ok (.iload_n 1, 1) := by decide +kernel
theorem dX11_copyPage_22 : decode cX11_copyPage 22 = .ok (.invokevirtual 258, 3) := by decide +kernel
theorem dX11_copyPage_25 : decode cX11_copyPage 25 = .ok (.ifCond .ne 9, 3) := by decide +kernel
theorem dX11_copyPage_28 : decode cX11_copyPage 28 = .ok (.aload_n 0, 1) := by decide +kernel
theorem dX11_copyPage_29 : decode cX11_copyPage 29 = .ok (.iconst 2, 1) := by decide +kernel
theorem dX11_copyPage_30 : decode cX11_copyPage 30 = .ok (.invokevirtual 101, 3) := by decide +kernel
theorem dX11_copyPage_33 : decode cX11_copyPage 33 = .ok (.ireturn, 1) := by decide +kernel
theorem dX11_copyPage_34 : decode cX11_copyPage 34 = .ok (.aload_n 0, 1) := by decide +kernel
theorem dX11_copyPage_35 : decode cX11_copyPage 35 = .ok (.getfield 16, 3) := by decide +kernel
theorem dX11_copyPage_38 : decode cX11_copyPage 38 = .ok (.iload_n 2, 1) := by decide +kernel
theorem dX11_copyPage_39 : decode cX11_copyPage 39 = .ok (.invokevirtual 286, 3) := by decide +kernel
theorem dX11_copyPage_42 : decode cX11_copyPage 42 = .ok (.ifCond .eq 9, 3) := by decide +kernel
theorem dX11_copyPage_45 : decode cX11_copyPage 45 = .ok (.aload_n 0, 1) := by decide +kernel
theorem dX11_copyPage_46 : decode cX11_copyPage 46 = .ok (.iconst 3, 1) := by decide +kernel
theorem dX11_copyPage_47 : decode cX11_copyPage 47 = .ok (.invokevirtual 101, 3) := by decide +kernel
theorem dX11_copyPage_50 : decode cX11_copyPage 50 = .ok (.ireturn, 1) := by decide +kernel
theorem dX11_copyPage_51 : decode cX11_copyPage 51 = .ok (.aload_n 0, 1) := by decide +kernel
theorem dX11_copyPage_52 : decode cX11_copyPage 52 = .ok (.getfield 16, 3) := by decide +kernel
theorem dX11_copyPage_55 : decode cX11_copyPage 55 = .ok (.getfield 289, 3) := by decide +kernel
theorem dX11_copyPage_58 : decode cX11_copyPage 58 = .ok (.iload_n 2, 1) := by decide +kernel
theorem dX11_copyPage_59 : decode cX11_copyPage 59 = .ok (.iaload, 1) := by decide +kernel
theorem dX11_copyPage_60 : decode cX11_copyPage 60 = .ok (.aload_n 0, 1) := by decide +kernel
theorem dX11_copyPage_61 : decode cX11_copyPage 61 = .ok (.getfield 58, 3) := by decide +kernel
theorem dX11_copyPage_64 : decode cX11_copyPage 64 = .ok (.getfield 197, 3) := by decide +kernel
theorem dX11_copyPage_67 : decode cX11_copyPage 67 = .ok (.if_icmp .ge 9, 3) := by decide +kernel
theorem dX11_copyPage_70 : decode cX11_copyPage 70 = .ok (.aload_n 0, 1) := by decide +kernel
theorem dX11_copyPage_71 : decode cX11_copyPage 71 = .ok (.iconst 4, 1) := by decide +kernel
theorem dX11_copyPage_72 : decode cX11_copyPage 72 = .ok (.invokevirtual 101, 3) := by decide +kernel
theorem dX11_copyPage_75 : decode cX11_copyPage 75 = .ok (.ireturn, 1) := by decide +kernel
theorem dX11_copyPage_76 : decode cX11_copyPage 76 = .ok (.iconst 0, 1) := by decide +kernel
theorem dX11_copyPage_77 : decode cX11_copyPage 77 = .ok (.istore_n 3, 1) := by decide +kernel
theorem dX11_copyPage_78 : decode cX11_copyPage 78 = .ok (.iload_n 3, 1) := by decide +kernel
theorem dX11_copyPage_79 : decode cX11_copyPage 79 = .ok (.aload_n 0, 1) := by decide +kernel
theorem dX11_copyPage_80 : decode cX11_copyPage 80 = .ok (.getfield 58, 3) := by decide +kernel
theorem dX11_copyPage_83 : decode cX11_copyPage 83 = .ok (.getfield 197, 3) := by decide +kernel
theorem dX11_copyPage_86 : decode cX11_copyPage 86 = .ok (.if_icmp .ge 36, 3) := by decide +kernel
theorem dX11_copyPage_89 : decode cX11_copyPage 89 = .ok (.aload_n 0, 1) := by decide +kernel
theorem dX11_copyPage_90 : decode cX11_copyPage 90 = .ok (.getfield 16, 3) := by decide +kernel
theorem dX11_copyPage_93 : decode cX11_copyPage 93 = .ok (.iload_n 2, 1) := by decide +kernel
theorem dX11_copyPage_94 : decode cX11_copyPage 94 = .ok (.iload_n 3, 1) := by decide +kernel
theorem dX11_copyPage_95 : decode cX11_copyPage 95 = .ok (.aload_n 0, 1) := by decide +kernel
theorem dX11_copyPage_96 : decode cX11_copyPage 96 = .ok (.getfield 58, 3) := by decide +kernel
theorem dX11_copyPage_99 : decode cX11_copyPage 99 = .ok (.getfield 193, 3) := by decide +kernel
theorem dX11_copyPage_102 : decode cX11_copyPage 102 = .ok (.getfield 274, 3) := by decide +kernel
theorem dX11_copyPage_105 : decode cX11_copyPage 105 = .ok (.iload_n 1, 1) := by decide +kernel
theorem dX11_copyPage_106 : decode cX11_copyPage 106 = .ok (.bipush 6, 2) := by decide +kernel
theorem dX11_copyPage_108 : decode cX11_copyPage 108 = .ok (.imul, 1) := by decide +kernel
theorem dX11_copyPage_109 : decode cX11_copyPage 109 = .ok (.iload_n 3, 1) := by decide +kernel
theorem dX11_copyPage_110 : decode cX11_copyPage 110 = .ok (.iadd, 1) := by decide +kernel
theorem dX11_copyPage_111 : decode cX11_copyPage 111 = .ok (.iaload, 1) := by decide +kernel
theorem dX11_copyPage_112 : decode cX11_copyPage 112 = .ok (.i2l, 1) := by decide +kernel
theorem dX11_copyPage_113 : decode cX11_copyPage 113 = .ok (.invokevirtual 127, 3) := by decide +kernel
theorem dX11_copyPage_116 : decode cX11_copyPage 116 = .ok (.iinc 3 1, 3) := by decide +kernel
theorem dX11_copyPage_119 : decode cX11_copyPage 119 = .ok (.goto (-41), 3) := by decide +kernel
theorem dX11_copyPage_122 : decode cX11_copyPage 122 = .ok (.aload_n 0, 1) := by decide +kernel
theorem dX11_copyPage_123 : decode cX11_copyPage 123 = .ok (.aload_n 0, 1) := by decide +kernel
theorem dX11_copyPage_124 : decode cX11_copyPage 124 = .ok (.getfield 58, 3) := by decide +kernel
theorem dX11_copyPage_127 : decode cX11_copyPage 127 = .ok (.getfield 197, 3) := by decide +kernel
theorem dX11_copyPage_130 : decode cX11_copyPage 130 = .ok (.invokevirtual 105, 3) := by decide +kernel
theorem dX11_copyPage_133 : decode cX11_copyPage 133 = .ok (.ireturn, 1) := by decide +kernel
theorem dX11_turn_0 : decode cX11_turn 0 = .ok (.iload_n 1, 1) := by decide +kernel
theorem dX11_turn_1 : decode cX11_turn 1 = .ok (.iconst 1, 1) := by decide +kernel
theorem dX11_turn_2 : decode cX11_turn 2 = .ok (.if_icmp .lt 9, 3) := by decide +kernel
theorem dX11_turn_5 : decode cX11_turn 5 = .ok (.iload_n 1, 1) := by decide +kernel
theorem dX11_turn_6 : decode cX11_turn 6 = .ok (.bipush 99, 2) := by decide +kernel
theorem dX11_turn_8 : decode cX11_turn 8 = .ok (.if_icmp .le 9, 3) := by decide +kernel
theorem dX11_turn_11 : decode cX11_turn 11 = .ok (.aload_n 0, 1) := by decide +kernel
theorem dX11_turn_12 : decode cX11_turn 12 = .ok (.iconst 5, 1) := by decide +kernel
theorem dX11_turn_13 : decode cX11_turn 13 = .ok (.invokevirtual 101, 3) := by decide +kernel
theorem dX11_turn_16 : decode cX11_turn 16 = .ok (.ireturn, 1) := by decide +kernel
theorem dX11_turn_17 : decode cX11_turn 17 = .ok (.aload_n 0, 1) := by decide +kernel
theorem dX11_turn_18 : decode cX11_turn 18 = .ok (.getfield 58, 3) := by decide +kernel
theorem dX11_turn_21 : decode cX11_turn 21 = .ok (.getfield 193, 3) := by decide +kernel
theorem dX11_turn_24 : decode cX11_turn 24 = .ok (.getfield 208, 3) := by decide +kernel
theorem dX11_turn_27 : decode cX11_turn 27 = .ok (.iload_n 1, 1) := by decide +kernel
theorem dX11_turn_28 : decode cX11_turn 28 = .ok (.iadd, 1) := by decide +kernel
theorem dX11_turn_29 : decode cX11_turn 29 = .ok (.sipush 9999, 3) := by decide +kernel
theorem dX11_turn_32 : decode cX11_turn 32 = .ok (.if_icmp .le 10, 3) := by decide +kernel
theorem dX11_turn_35 : decode cX11_turn 35 = .ok (.aload_n 0, 1) := by decide +kernel
theorem dX11_turn_36 : decode cX11_turn 36 = .ok (.bipush 7, 2) := by decide +kernel
theorem dX11_turn_38 : decode cX11_turn 38 = .ok (.invokevirtual 101, 3) := by decide +kernel
theorem dX11_turn_41 : decode cX11_turn 41 = .ok (.ireturn, 1) := by decide +kernel
theorem dX11_turn_42 : decode cX11_turn 42 = .ok (.aload_n 0, 1) := by decide +kernel
theorem dX11_turn_43 : decode cX11_turn 43 = .ok (.getfield 58, 3) := by decide +kernel
theorem dX11_turn_46 : decode cX11_turn 46 = .ok (.getfield 193, 3) := by decide +kernel
theorem dX11_turn_49 : decode cX11_turn 49 = .ok (.aload_n 0, 1) := by decide +kernel
theorem dX11_turn_50 : decode cX11_turn 50 = .ok (.getfield 58, 3) := by decide +kernel
theorem dX11_turn_53 : decode cX11_turn 53 = .ok (.iload_n 1, 1) := by decide +kernel
theorem dX11_turn_54 : decode cX11_turn 54 = .ok (.invokevirtual 292, 3) := by decide +kernel
theorem dX11_turn_57 : decode cX11_turn 57 = .ok (.aload_n 0, 1) := by decide +kernel
theorem dX11_turn_58 : decode cX11_turn 58 = .ok (.aload_n 0, 1) := by decide +kernel
theorem dX11_turn_59 : decode cX11_turn 59 = .ok (.getfield 58, 3) := by decide +kernel
theorem dX11_turn_62 : decode cX11_turn 62 = .ok (.getfield 193, 3) := by decide +kernel
theorem dX11_turn_65 : decode cX11_turn 65 = .ok (.getfield 208, 3) := by decide +kernel
theorem dX11_turn_68 : decode cX11_turn 68 = .ok (.invokevirtual 105, 3) := by decide +kernel
theorem dX11_turn_71 : decode cX11_turn 71 = .ok (.ireturn, 1) := by decide +kernel
theorem dX11_rub_0 : decode cX11_rub 0 = .ok (.aload_n 0, 1) := by decide +kernel
theorem dX11_rub_1 : decode cX11_rub 1 = .ok (.getfield 58, 3) := by decide +kernel
theorem dX11_rub_4 : decode cX11_rub 4 = .ok (.iload_n 1, 1) := by decide +kernel
theorem dX11_rub_5 : decode cX11_rub 5 = .ok (.invokevirtual 258, 3) := by decide +kernel
theorem dX11_rub_8 : decode cX11_rub 8 = .ok (.ifCond .ne 9, 3) := by decide +kernel
theorem dX11_rub_11 : decode cX11_rub 11 = .ok (.aload_n 0, 1) := by decide +kernel
theorem dX11_rub_12 : decode cX11_rub 12 = .ok (.iconst 2, 1) := by decide +kernel
theorem dX11_rub_13 : decode cX11_rub 13 = .ok (.invokevirtual 101, 3) := by decide +kernel
theorem dX11_rub_16 : decode cX11_rub 16 = .ok (.ireturn, 1) := by decide +kernel
theorem dX11_rub_17 : decode cX11_rub 17 = .ok (.aload_n 0, 1) := by decide +kernel
theorem dX11_rub_18 : decode cX11_rub 18 = .ok (.getfield 58, 3) := by decide +kernel
theorem dX11_rub_21 : decode cX11_rub 21 = .ok (.getfield 193, 3) := by decide +kernel
theorem dX11_rub_24 : decode cX11_rub 24 = .ok (.iload_n 1, 1) := by decide +kernel
theorem dX11_rub_25 : decode cX11_rub 25 = .ok (.invokevirtual 296, 3) := by decide +kernel
theorem dX11_rub_28 : decode cX11_rub 28 = .ok (.istore_n 2, 1) := by decide +kernel
theorem dX11_rub_29 : decode cX11_rub 29 = .ok (.iload_n 2, 1) := by decide +kernel
theorem dX11_rub_30 : decode cX11_rub 30 = .ok (.ifCond .ne 12, 3) := by decide +kernel
theorem dX11_rub_33 : decode cX11_rub 33 = .ok (.aload_n 0, 1) := by decide +kernel
theorem dX11_rub_34 : decode cX11_rub 34 = .ok (.bipush 8, 2) := by decide +kernel
theorem dX11_rub_36 : decode cX11_rub 36 = .ok (.invokevirtual 101, 3) := by decide +kernel
theorem dX11_rub_39 : decode cX11_rub 39 = .ok (.goto 8, 3) := by decide +kernel
theorem dX11_rub_42 : decode cX11_rub 42 = .ok (.aload_n 0, 1) := by decide +kernel
theorem dX11_rub_43 : decode cX11_rub 43 = .ok (.iload_n 2, 1) := by decide +kernel
theorem dX11_rub_44 : decode cX11_rub 44 = .ok (.invokevirtual 105, 3) := by decide +kernel
theorem dX11_rub_47 : decode cX11_rub 47 = .ok (.ireturn, 1) := by decide +kernel
theorem dX11_damp_0 : decode cX11_damp 0 = .ok (.aload_n 0, 1) := by decide +kernel
theorem dX11_damp_1 : decode cX11_damp 1 = .ok (.getfield 58, 3) := by decide +kernel
theorem dX11_damp_4 : decode cX11_damp 4 = .ok (.iload_n 1, 1) := by decide +kernel
theorem dX11_damp_5 : decode cX11_damp 5 = .ok (.invokevirtual 258, 3) := by decide +kernel
theorem dX11_damp_8 : decode cX11_damp 8 = .ok (.ifCond .ne 9, 3) := by decide +kernel
theorem dX11_damp_11 : decode cX11_damp 11 = .ok (.aload_n 0, 1) := by decide +kernel
theorem dX11_damp_12 : decode cX11_damp 12 = .ok (.iconst 2, 1) := by decide +kernel
theorem dX11_damp_13 : decode cX11_damp 13 = .ok (.invokevirtual 112, 3) := by decide +kernel
theorem dX11_damp_16 : decode cX11_damp 16 = .ok (.ireturn, 1) := by decide +kernel
theorem dX11_damp_17 : decode cX11_damp 17 = .ok (.aload_n 0, 1) := by decide +kernel
theorem dX11_damp_18 : decode cX11_damp 18 = .ok (.getfield 58, 3) := by decide +kernel
theorem dX11_damp_21 : decode cX11_damp 21 = .ok (.getfield 193, 3) := by decide +kernel
theorem dX11_damp_24 : decode cX11_damp 24 = .ok (.getfield 221, 3) := by decide +kernel
theorem dX11_damp_27 : decode cX11_damp 27 = .ok (.iload_n 1, 1) := by decide +kernel
theorem dX11_damp_28 : decode cX11_damp 28 = .ok (.invokestatic 233, 3) := by decide +kernel
theorem dX11_damp_31 : decode cX11_damp 31 = .ok (.iload_n 2, 1) := by decide +kernel
theorem dX11_damp_32 : decode cX11_damp 32 = .ok (.if_icmp .ne 10, 3) := by decide +kernel
theorem dX11_damp_35 : decode cX11_damp 35 = .ok (.aload_n 0, 1) := by decide +kernel
theorem dX11_damp_36 : decode cX11_damp 36 = .ok (.bipush 9, 2) := by decide +kernel
theorem dX11_damp_38 : decode cX11_damp 38 = .ok (.invokevirtual 112, 3) := by decide +kernel
theorem dX11_damp_41 : decode cX11_damp 41 = .ok (.ireturn, 1) := by decide +kernel
theorem dX11_damp_42 : decode cX11_damp 42 = .ok (.aload_n 0, 1) := by decide +kernel
theorem dX11_damp_43 : decode cX11_damp 43 = .ok (.getfield 58, 3) := by decide +kernel
theorem dX11_damp_46 : decode cX11_damp 46 = .ok (.getfield 193, 3) := by decide +kernel
theorem dX11_damp_49 : decode cX11_damp 49 = .ok (.dup, 1) := by decide +kernel
theorem dX11_damp_50 : decode cX11_damp 50 = .ok (.getfield 221, 3) := by decide +kernel
theorem dX11_damp_53 : decode cX11_damp 53 = .ok (.iconst 1, 1) := by decide +kernel
theorem dX11_damp_54 : decode cX11_damp 54 = .ok (.iload_n 1, 1) := by decide +kernel
theorem dX11_damp_55 : decode cX11_damp 55 = .ok (.ishl, 1) := by decide +kernel
theorem dX11_damp_56 : decode cX11_damp 56 = .ok (.ixor, 1) := by decide +kernel
theorem dX11_damp_57 : decode cX11_damp 57 = .ok (.putfield 221, 3) := by decide +kernel
theorem dX11_damp_60 : decode cX11_damp 60 = .ok (.aload_n 0, 1) := by decide +kernel
theorem dX11_damp_61 : decode cX11_damp 61 = .ok (.invokevirtual 119, 3) := by decide +kernel
theorem dX11_damp_64 : decode cX11_damp 64 = .ok (.ireturn, 1) := by decide +kernel
theorem dX11_ill_0 : decode cX11_ill 0 = .ok (.aload_n 0, 1) := by decide +kernel
theorem dX11_ill_1 : decode cX11_ill 1 = .ok (.getfield 58, 3) := by decide +kernel
theorem dX11_ill_4 : decode cX11_ill 4 = .ok (.iload_n 1, 1) := by decide +kernel
theorem dX11_ill_5 : decode cX11_ill 5 = .ok (.invokevirtual 224, 3) := by decide +kernel
theorem dX11_ill_8 : decode cX11_ill 8 = .ok (.ifCond .ne 9, 3) := by decide +kernel
theorem dX11_ill_11 : decode cX11_ill 11 = .ok (.aload_n 0, 1) := by decide +kernel
theorem dX11_ill_12 : decode cX11_ill 12 = .ok (.iconst 2, 1) := by decide +kernel
theorem dX11_ill_13 : decode cX11_ill 13 = .ok (.invokevirtual 112, 3) := by decide +kernel
theorem dX11_ill_16 : decode cX11_ill 16 = .ok (.ireturn, 1) := by decide +kernel
theorem dX11_ill_17 : decode cX11_ill 17 = .ok (.aload_n 0, 1) := by decide +kernel
theorem dX11_ill_18 : decode cX11_ill 18 = .ok (.getfield 58, 3) := by decide +kernel
theorem dX11_ill_21 : decode cX11_ill 21 = .ok (.getfield 193, 3) := by decide +kernel
theorem dX11_ill_24 : decode cX11_ill 24 = .ok (.getfield 218, 3) := by decide +kernel
theorem dX11_ill_27 : decode cX11_ill 27 = .ok (.iload_n 1, 1) := by decide +kernel
theorem dX11_ill_28 : decode cX11_ill 28 = .ok (.invokestatic 233, 3) := by decide +kernel
theorem dX11_ill_31 : decode cX11_ill 31 = .ok (.iload_n 2, 1) := by decide +kernel
theorem dX11_ill_32 : decode cX11_ill 32 = .ok (.if_icmp .ne 10, 3) := by decide +kernel
theorem dX11_ill_35 : decode cX11_ill 35 = .ok (.aload_n 0, 1) := by decide +kernel
theorem dX11_ill_36 : decode cX11_ill 36 = .ok (.bipush 9, 2) := by decide +kernel
theorem dX11_ill_38 : decode cX11_ill 38 = .ok (.invokevirtual 112, 3) := by decide +kernel
theorem dX11_ill_41 : decode cX11_ill 41 = .ok (.ireturn, 1) := by decide +kernel
theorem dX11_ill_42 : decode cX11_ill 42 = .ok (.aload_n 0, 1) := by decide +kernel
theorem dX11_ill_43 : decode cX11_ill 43 = .ok (.getfield 58, 3) := by decide +kernel
theorem dX11_ill_46 : decode cX11_ill 46 = .ok (.getfield 193, 3) := by decide +kernel
theorem dX11_ill_49 : decode cX11_ill 49 = .ok (.dup, 1) := by decide +kernel
theorem dX11_ill_50 : decode cX11_ill 50 = .ok (.getfield 218, 3) := by decide +kernel
theorem dX11_ill_53 : decode cX11_ill 53 = .ok (.iconst 1, 1) := by decide +kernel
theorem dX11_ill_54 : decode cX11_ill 54 = .ok (.iload_n 1, 1) := by decide +kernel
theorem dX11_ill_55 : decode cX11_ill 55 = .ok (.ishl, 1) := by decide +kernel
theorem dX11_ill_56 : decode cX11_ill 56 = .ok (.ixor, 1) := by decide +kernel
theorem dX11_ill_57 : decode cX11_ill 57 = .ok (.putfield 218, 3) := by decide +kernel
theorem dX11_ill_60 : decode cX11_ill 60 = .ok (.aload_n 0, 1) := by decide +kernel
theorem dX11_ill_61 : decode cX11_ill 61 = .ok (.invokevirtual 119, 3) := by decide +kernel
theorem dX11_ill_64 : decode cX11_ill 64 = .ok (.ireturn, 1) := by decide +kernel
theorem dX11_move_0 : decode cX11_move 0 = .ok (.aload_n 0, 1) := by decide +kernel
theorem dX11_move_1 : decode cX11_move 1 = .ok (.getfield 58, 3) := by decide +kernel
theorem dX11_move_4 : decode cX11_move 4 = .ok (.iload_n 1, 1) := by decide +kernel
theorem dX11_move_5 : decode cX11_move 5 = .ok (.invokevirtual 224, 3) := by decide +kernel
theorem dX11_move_8 : decode cX11_move 8 = .ok (.ifCond .eq 14, 3) := by decide +kernel
theorem dX11_move_11 : decode cX11_move 11 = .ok (.aload_n 0, 1) := by decide +kernel
theorem dX11_move_12 : decode cX11_move 12 = .ok (.getfield 58, 3) := by decide +kernel
theorem dX11_move_15 : decode cX11_move 15 = .ok (.iload_n 2, 1) := by decide +kernel
theorem dX11_move_16 : decode cX11_move 16 = .ok (.invokevirtual 224, 3) := by decide +kernel
theorem dX11_move_19 : decode cX11_move 19 = .ok (.ifCond .ne 9, 3) := by decide +kernel
theorem dX11_move_22 : decode cX11_move 22 = .ok (.aload_n 0, 1) := by decide +kernel
theorem dX11_move_23 : decode cX11_move 23 = .ok (.iconst 2, 1) := by decide +kernel
theorem dX11_move_24 : decode cX11_move 24 = .ok (.invokevirtual 112, 3) := by decide +kernel
theorem dX11_move_27 : decode cX11_move 27 = .ok (.ireturn, 1) := by decide +kernel
theorem dX11_move_28 : decode cX11_move 28 = .ok (.aload_n 0, 1) := by decide +kernel
theorem dX11_move_29 : decode cX11_move 29 = .ok (.getfield 58, 3) := by decide +kernel
theorem dX11_move_32 : decode cX11_move 32 = .ok (.getfield 193, 3) := by decide +kernel
theorem dX11_move_35 : decode cX11_move 35 = .ok (.iload_n 1, 1) := by decide +kernel
theorem dX11_move_36 : decode cX11_move 36 = .ok (.iload_n 2, 1) := by decide +kernel
theorem dX11_move_37 : decode cX11_move 37 = .ok (.invokevirtual 299, 3) := by decide +kernel
theorem dX11_move_40 : decode cX11_move 40 = .ok (.ifCond .eq 10, 3) := by decide +kernel
theorem dX11_move_43 : decode cX11_move 43 = .ok (.aload_n 0, 1) := by decide +kernel
theorem dX11_move_44 : decode cX11_move 44 = .ok (.invokevirtual 119, 3) := by decide +kernel
theorem dX11_move_47 : decode cX11_move 47 = .ok (.goto 9, 3) := by decide +kernel
theorem dX11_move_50 : decode cX11_move 50 = .ok (.aload_n 0, 1) := by decide +kernel
theorem dX11_move_51 : decode cX11_move 51 = .ok (.bipush 9, 2) := by decide +kernel
theorem dX11_move_53 : decode cX11_move 53 = .ok (.invokevirtual 112, 3) := by decide +kernel
theorem dX11_move_56 : decode cX11_move 56 = .ok (.ireturn, 1) := by decide +kernel
theorem dX11_tell_0 : decode cX11_tell 0 = .ok (.aload_n 0, 1) := by decide +kernel
theorem dX11_tell_1 : decode cX11_tell 1 = .ok (.getfield 58, 3) := by decide +kernel
theorem dX11_tell_4 : decode cX11_tell 4 = .ok (.iload_n 1, 1) := by decide +kernel
theorem dX11_tell_5 : decode cX11_tell 5 = .ok (.invokevirtual 224, 3) := by decide +kernel
theorem dX11_tell_8 : decode cX11_tell 8 = .ok (.ifCond .eq 14, 3) := by decide +kernel
theorem dX11_tell_11 : decode cX11_tell 11 = .ok (.aload_n 0, 1) := by decide +kernel
theorem dX11_tell_12 : decode cX11_tell 12 = .ok (.getfield 58, 3) := by decide +kernel
theorem dX11_tell_15 : decode cX11_tell 15 = .ok (.iload_n 2, 1) := by decide +kernel
theorem dX11_tell_16 : decode cX11_tell 16 = .ok (.invokevirtual 252, 3) := by decide +kernel
theorem dX11_tell_19 : decode cX11_tell 19 = .ok (.ifCond .ne 9, 3) := by decide +kernel
theorem dX11_tell_22 : decode cX11_tell 22 = .ok (.aload_n 0, 1) := by decide +kernel
theorem dX11_tell_23 : decode cX11_tell 23 = .ok (.iconst 2, 1) := by decide +kernel
theorem dX11_tell_24 : decode cX11_tell 24 = .ok (.invokevirtual 112, 3) := by decide +kernel
theorem dX11_tell_27 : decode cX11_tell 27 = .ok (.ireturn, 1) := by decide +kernel
theorem dX11_tell_28 : decode cX11_tell 28 = .ok (.aload_n 0, 1) := by decide +kernel
theorem dX11_tell_29 : decode cX11_tell 29 = .ok (.getfield 58, 3) := by decide +kernel
theorem dX11_tell_32 : decode cX11_tell 32 = .ok (.getfield 193, 3) := by decide +kernel
theorem dX11_tell_35 : decode cX11_tell 35 = .ok (.getfield 240, 3) := by decide +kernel
theorem dX11_tell_38 : decode cX11_tell 38 = .ok (.iload_n 1, 1) := by decide +kernel
theorem dX11_tell_39 : decode cX11_tell 39 = .ok (.iaload, 1) := by decide +kernel
theorem dX11_tell_40 : decode cX11_tell 40 = .ok (.iload_n 2, 1) := by decide +kernel
theorem dX11_tell_41 : decode cX11_tell 41 = .ok (.invokestatic 233, 3) := by decide +kernel
theorem dX11_tell_44 : decode cX11_tell 44 = .ok (.ifCond .eq 10, 3) := by decide +kernel
theorem dX11_tell_47 : decode cX11_tell 47 = .ok (.aload_n 0, 1) := by decide +kernel
theorem dX11_tell_48 : decode cX11_tell 48 = .ok (.bipush 9, 2) := by decide +kernel
theorem dX11_tell_50 : decode cX11_tell 50 = .ok (.invokevirtual 112, 3) := by decide +kernel
theorem dX11_tell_53 : decode cX11_tell 53 = .ok (.ireturn, 1) := by decide +kernel
theorem dX11_tell_54 : decode cX11_tell 54 = .ok (.aload_n 0, 1) := by decide +kernel
theorem dX11_tell_55 : decode cX11_tell 55 = .ok (.getfield 58, 3) := by decide +kernel
theorem dX11_tell_58 : decode cX11_tell 58 = .ok (.getfield 193, 3) := by decide +kernel
theorem dX11_tell_61 : decode cX11_tell 61 = .ok (.getfield 240, 3) := by decide +kernel
theorem dX11_tell_64 : decode cX11_tell 64 = .ok (.iload_n 1, 1) := by decide +kernel
theorem dX11_tell_65 : decode cX11_tell 65 = .ok (.dup2, 1) := by decide +kernel
theorem dX11_tell_66 : decode cX11_tell 66 = .ok (.iaload, 1) := by decide +kernel
theorem dX11_tell_67 : decode cX11_tell 67 = .ok (.iconst 1, 1) := by decide +kernel
theorem dX11_tell_68 : decode cX11_tell 68 = .ok (.iload_n 2, 1) := by decide +kernel
theorem dX11_tell_69 : decode cX11_tell 69 = .ok (.ishl, 1) := by decide +kernel
theorem dX11_tell_70 : decode cX11_tell 70 = .ok (.ior, 1) := by decide +kernel
theorem dX11_tell_71 : decode cX11_tell 71 = .ok (.iastore, 1) := by decide +kernel
theorem dX11_tell_72 : decode cX11_tell 72 = .ok (.aload_n 0, 1) := by decide +kernel
theorem dX11_tell_73 : decode cX11_tell 73 = .ok (.invokevirtual 119, 3) := by decide +kernel
theorem dX11_tell_76 : decode cX11_tell 76 = .ok (.ireturn, 1) := by decide +kernel
theorem dX11_watch_0 : decode cX11_watch 0 = .ok (.aload_n 0, 1) := by decide +kernel
theorem dX11_watch_1 : decode cX11_watch 1 = .ok (.getfield 58, 3) := by decide +kernel
theorem dX11_watch_4 : decode cX11_watch 4 = .ok (.iload_n 1, 1) := by decide +kernel
theorem dX11_watch_5 : decode cX11_watch 5 = .ok (.invokevirtual 258, 3) := by decide +kernel
theorem dX11_watch_8 : decode cX11_watch 8 = .ok (.ifCond .ne 9, 3) := by decide +kernel
theorem dX11_watch_11 : decode cX11_watch 11 = .ok (.aload_n 0, 1) := by decide +kernel
theorem dX11_watch_12 : decode cX11_watch 12 = .ok (.iconst 2, 1) := by decide +kernel
theorem dX11_watch_13 : decode cX11_watch 13 = .ok (.invokevirtual 112, 3) := by decide +kernel
theorem dX11_watch_16 : decode cX11_watch 16 = .ok (.ireturn, 1) := by decide +kernel
theorem dX11_watch_17 : decode cX11_watch 17 = .ok (.iload_n 2, 1) := by decide +kernel
theorem dX11_watch_18 : decode cX11_watch 18 = .ok (.ifCond .lt 9, 3) := by decide +kernel
theorem dX11_watch_21 : decode cX11_watch 21 = .ok (.iload_n 2, 1) := by decide +kernel
theorem dX11_watch_22 : decode cX11_watch 22 = .ok (.bipush 16, 2) := by decide +kernel
theorem dX11_watch_24 : decode cX11_watch 24 = .ok (.if_icmp .le 9, 3) := by decide +kernel
theorem dX11_watch_27 : decode cX11_watch 27 = .ok (.aload_n 0, 1) := by decide +kernel
theorem dX11_watch_28 : decode cX11_watch 28 = .ok (.iconst 5, 1) := by decide +kernel
theorem dX11_watch_29 : decode cX11_watch 29 = .ok (.invokevirtual 112, 3) := by decide +kernel
theorem dX11_watch_32 : decode cX11_watch 32 = .ok (.ireturn, 1) := by decide +kernel
theorem dX11_watch_33 : decode cX11_watch 33 = .ok (.aload_n 0, 1) := by decide +kernel
theorem dX11_watch_34 : decode cX11_watch 34 = .ok (.getfield 58, 3) := by decide +kernel
theorem dX11_watch_37 : decode cX11_watch 37 = .ok (.getfield 193, 3) := by decide +kernel
theorem dX11_watch_40 : decode cX11_watch 40 = .ok (.getfield 264, 3) := by decide +kernel
theorem dX11_watch_43 : decode cX11_watch 43 = .ok (.iload_n 1, 1) := by decide +kernel
theorem dX11_watch_44 : decode cX11_watch 44 = .ok (.iload_n 2, 1) := by decide +kernel
theorem dX11_watch_45 : decode cX11_watch 45 = .ok (.iastore, 1) := by decide +kernel
theorem dX11_watch_46 : decode cX11_watch 46 = .ok (.aload_n 0, 1) := by decide +kernel
theorem dX11_watch_47 : decode cX11_watch 47 = .ok (.invokevirtual 119, 3) := by decide +kernel
theorem dX11_watch_50 : decode cX11_watch 50 = .ok (.ireturn, 1) := by decide +kernel
theorem dX11_when_0 : decode cX11_when 0 = .ok (.aload_n 0, 1) := by decide +kernel
theorem dX11_when_1 : decode cX11_when 1 = .ok (.getfield 58, 3) := by decide +kernel
theorem dX11_when_4 : decode cX11_when 4 = .ok (.iload_n 1, 1) := by decide +kernel
theorem dX11_when_5 : decode cX11_when 5 = .ok (.invokevirtual 224, 3) := by decide +kernel
theorem dX11_when_8 : decode cX11_when 8 = .ok (.ifCond .eq 14, 3) := by decide +kernel
theorem dX11_when_11 : decode cX11_when 11 = .ok (.aload_n 0, 1) := by decide +kernel
theorem dX11_when_12 : decode cX11_when 12 = .ok (.getfield 58, 3) := by decide +kernel
theorem dX11_when_15 : decode cX11_when 15 = .ok (.iload_n 2, 1) := by decide +kernel
theorem dX11_when_16 : decode cX11_when 16 = .ok (.invokevirtual 252, 3) := by decide +kernel
theorem dX11_when_19 : decode cX11_when 19 = .ok (.ifCond .ne 9, 3) := by decide +kernel
theorem dX11_when_22 : decode cX11_when 22 = .ok (.aload_n 0, 1) := by decide +kernel
theorem dX11_when_23 : decode cX11_when 23 = .ok (.iconst 2, 1) := by decide +kernel
theorem dX11_when_24 : decode cX11_when 24 = .ok (.invokevirtual 101, 3) := by decide +kernel
theorem dX11_when_27 : decode cX11_when 27 = .ok (.ireturn, 1) := by decide +kernel
theorem dX11_when_28 : decode cX11_when 28 = .ok (.aload_n 0, 1) := by decide +kernel
theorem dX11_when_29 : decode cX11_when 29 = .ok (.aload_n 0, 1) := by decide +kernel
theorem dX11_when_30 : decode cX11_when 30 = .ok (.getfield 75, 3) := by decide +kernel
theorem dX11_when_33 : decode cX11_when 33 = .ok (.aload_n 0, 1) := by decide +kernel
theorem dX11_when_34 : decode cX11_when 34 = .ok (.getfield 58, 3) := by decide +kernel
theorem dX11_when_37 : decode cX11_when 37 = .ok (.iconst 1, 1) := by decide +kernel
theorem dX11_when_38 : decode cX11_when 38 = .ok (.iload_n 1, 1) := by decide +kernel
theorem dX11_when_39 : decode cX11_when 39 = .ok (.ishl, 1) := by decide +kernel
theorem dX11_when_40 : decode cX11_when 40 = .ok (.iconst 1, 1) := by decide +kernel
theorem dX11_when_41 : decode cX11_when 41 = .ok (.iload_n 2, 1) := by decide +kernel
theorem dX11_when_42 : decode cX11_when 42 = .ok (.ishl, 1) := by decide +kernel
theorem dX11_when_43 : decode cX11_when 43 = .ok (.invokevirtual 302, 3) := by decide +kernel
theorem dX11_when_46 : decode cX11_when 46 = .ok (.invokevirtual 246, 3) := by decide +kernel
theorem dX11_when_49 : decode cX11_when 49 = .ok (.ireturn, 1) := by decide +kernel
theorem dX11_heard_0 : decode cX11_heard 0 = .ok (.aload_n 0, 1) := by decide +kernel
theorem dX11_heard_1 : decode cX11_heard 1 = .ok (.getfield 58, 3) := by decide +kernel
theorem dX11_heard_4 : decode cX11_heard 4 = .ok (.iload_n 1, 1) := by decide +kernel
theorem dX11_heard_5 : decode cX11_heard 5 = .ok (.invokevirtual 252, 3) := by decide +kernel
theorem dX11_heard_8 : decode cX11_heard 8 = .ok (.ifCond .ne 9, 3) := by decide +kernel
theorem dX11_heard_11 : decode cX11_heard 11 = .ok (.aload_n 0, 1) := by decide +kernel
theorem dX11_heard_12 : decode cX11_heard 12 = .ok (.iconst 2, 1) := by decide +kernel
theorem dX11_heard_13 : decode cX11_heard 13 = .ok (.invokevirtual 101, 3) := by decide +kernel
theorem dX11_heard_16 : decode cX11_heard 16 = .ok (.ireturn, 1) := by decide +kernel
theorem dX11_heard_17 : decode cX11_heard 17 = .ok (.aload_n 0, 1) := by decide +kernel
theorem dX11_heard_18 : decode cX11_heard 18 = .ok (.aload_n 0, 1) := by decide +kernel
theorem dX11_heard_19 : decode cX11_heard 19 = .ok (.getfield 75, 3) := by decide +kernel
theorem dX11_heard_22 : decode cX11_heard 22 = .ok (.aload_n 0, 1) := by decide +kernel
theorem dX11_heard_23 : decode cX11_heard 23 = .ok (.getfield 58, 3) := by decide +kernel
theorem dX11_heard_26 : decode cX11_heard 26 = .ok (.aload_n 0, 1) := by decide +kernel
theorem dX11_heard_27 : decode cX11_heard 27 = .ok (.getfield 58, 3) := by decide +kernel
theorem dX11_heard_30 : decode cX11_heard 30 = .ok (.invokevirtual 306, 3) := by decide +kernel
theorem dX11_heard_33 : decode cX11_heard 33 = .ok (.iconst 1, 1) := by decide +kernel
theorem dX11_heard_34 : decode cX11_heard 34 = .ok (.iload_n 1, 1) := by decide +kernel
theorem dX11_heard_35 : decode cX11_heard 35 = .ok (.ishl, 1) := by decide +kernel
theorem dX11_heard_36 : decode cX11_heard 36 = .ok (.invokevirtual 302, 3) := by decide +kernel
theorem dX11_heard_39 : decode cX11_heard 39 = .ok (.invokevirtual 246, 3) := by decide +kernel
theorem dX11_heard_42 : decode cX11_heard 42 = .ok (.ireturn, 1) := by decide +kernel
theorem dX11_all_0 : decode cX11_all 0 = .ok (.aload_n 0, 1) := by decide +kernel
theorem dX11_all_1 : decode cX11_all 1 = .ok (.aload_n 0, 1) := by decide +kernel
theorem dX11_all_2 : decode cX11_all 2 = .ok (.getfield 75, 3) := by decide +kernel
theorem dX11_all_5 : decode cX11_all 5 = .ok (.aload_n 0, 1) := by decide +kernel
theorem dX11_all_6 : decode cX11_all 6 = .ok (.getfield 58, 3) := by decide +kernel
theorem dX11_all_9 : decode cX11_all 9 = .ok (.aload_n 0, 1) := by decide +kernel
theorem dX11_all_10 : decode cX11_all 10 = .ok (.getfield 58, 3) := by decide +kernel
theorem dX11_all_13 : decode cX11_all 13 = .ok (.invokevirtual 306, 3) := by decide +kernel
theorem dX11_all_16 : decode cX11_all 16 = .ok (.aload_n 0, 1) := by decide +kernel
theorem dX11_all_17 : decode cX11_all 17 = .ok (.getfield 58, 3) := by decide +kernel
theorem dX11_all_20 : decode cX11_all 20 = .ok (.invokevirtual 309, 3) := by decide +kernel
theorem dX11_all_23 : decode cX11_all 23 = .ok (.invokevirtual 302, 3) := by decide +kernel
theorem dX11_all_26 : decode cX11_all 26 = .ok (.invokevirtual 246, 3) := by decide +kernel
theorem dX11_all_29 : decode cX11_all 29 = .ok (.ireturn, 1) := by decide +kernel
theorem dX11_later_0 : decode cX11_later 0 = .ok (.aload_n 0, 1) := by decide +kernel
theorem dX11_later_1 : decode cX11_later 1 = .ok (.getfield 58, 3) := by decide +kernel
theorem dX11_later_4 : decode cX11_later 4 = .ok (.iload_n 1, 1) := by decide +kernel
theorem dX11_later_5 : decode cX11_later 5 = .ok (.invokevirtual 224, 3) := by decide +kernel
theorem dX11_later_8 : decode cX11_later 8 = .ok (.ifCond .ne 9, 3) := by decide +kernel
theorem dX11_later_11 : decode cX11_later 11 = .ok (.aload_n 0, 1) := by decide +kernel
theorem dX11_later_12 : decode cX11_later 12 = .ok (.iconst 2, 1) := by decide +kernel
theorem dX11_later_13 : decode cX11_later 13 = .ok (.invokevirtual 101, 3) := by decide +kernel
theorem dX11_later_16 : decode cX11_later 16 = .ok (.ireturn, 1) := by decide +kernel
theorem dX11_later_17 : decode cX11_later 17 = .ok (.iload_n 2, 1) := by decide +kernel
theorem dX11_later_18 : decode cX11_later 18 = .ok (.ifCond .lt 10, 3) := by decide +kernel
theorem dX11_later_21 : decode cX11_later 21 = .ok (.iload_n 2, 1) := by decide +kernel
theorem dX11_later_22 : decode cX11_later 22 = .ok (.sipush 999, 3) := by decide +kernel
theorem dX11_later_25 : decode cX11_later 25 = .ok (.if_icmp .le 9, 3) := by decide +kernel
theorem dX11_later_28 : decode cX11_later 28 = .ok (.aload_n 0, 1) := by decide +kernel
theorem dX11_later_29 : decode cX11_later 29 = .ok (.iconst 5, 1) := by decide +kernel
theorem dX11_later_30 : decode cX11_later 30 = .ok (.invokevirtual 101, 3) := by decide +kernel
theorem dX11_later_33 : decode cX11_later 33 = .ok (.ireturn, 1) := by decide +kernel
theorem dX11_later_34 : decode cX11_later 34 = .ok (.aload_n 0, 1) := by decide +kernel
theorem dX11_later_35 : decode cX11_later 35 = .ok (.aload_n 0, 1) := by decide +kernel
theorem dX11_later_36 : decode cX11_later 36 = .ok (.getfield 75, 3) := by decide +kernel
theorem dX11_later_39 : decode cX11_later 39 = .ok (.aload_n 0, 1) := by decide +kernel
theorem dX11_later_40 : decode cX11_later 40 = .ok (.getfield 58, 3) := by decide +kernel
theorem dX11_later_43 : decode cX11_later 43 = .ok (.iload_n 2, 1) := by decide +kernel
theorem dX11_later_44 : decode cX11_later 44 = .ok (.invokevirtual 312, 3) := by decide +kernel
theorem dX11_later_47 : decode cX11_later 47 = .ok (.getfield 240, 3) := by decide +kernel
theorem dX11_later_50 : decode cX11_later 50 = .ok (.iload_n 1, 1) := by decide +kernel
theorem dX11_later_51 : decode cX11_later 51 = .ok (.iaload, 1) := by decide +kernel
theorem dX11_later_52 : decode cX11_later 52 = .ok (.invokevirtual 105, 3) := by decide +kernel
theorem dX11_later_55 : decode cX11_later 55 = .ok (.ireturn, 1) := by decide +kernel
theorem dX11_roomIn_0 : decode cX11_roomIn 0 = .ok (.aload_n 0, 1) := by decide +kernel
theorem dX11_roomIn_1 : decode cX11_roomIn 1 = .ok (.getfield 58, 3) := by decide +kernel
theorem dX11_roomIn_4 : decode cX11_roomIn 4 = .ok (.iload_n 1, 1) := by decide +kernel
theorem dX11_roomIn_5 : decode cX11_roomIn 5 = .ok (.invokevirtual 258, 3) := by decide +kernel
theorem dX11_roomIn_8 : decode cX11_roomIn 8 = .ok (.ifCond .ne 9, 3) := by decide +kernel
theorem dX11_roomIn_11 : decode cX11_roomIn 11 = .ok (.aload_n 0, 1) := by decide +kernel
theorem dX11_roomIn_12 : decode cX11_roomIn 12 = .ok (.iconst 2, 1) := by decide +kernel
theorem dX11_roomIn_13 : decode cX11_roomIn 13 = .ok (.invokevirtual 101, 3) := by decide +kernel
theorem dX11_roomIn_16 : decode cX11_roomIn 16 = .ok (.ireturn, 1) := by decide +kernel
theorem dX11_roomIn_17 : decode cX11_roomIn 17 = .ok (.iload_n 2, 1) := by decide +kernel
theorem dX11_roomIn_18 : decode cX11_roomIn 18 = .ok (.ifCond .lt 10, 3) := by decide +kernel
theorem dX11_roomIn_21 : decode cX11_roomIn 21 = .ok (.iload_n 2, 1) := by decide +kernel
theorem dX11_roomIn_22 : decode cX11_roomIn 22 = .ok (.sipush 999, 3) := by decide +kernel
theorem dX11_roomIn_25 : decode cX11_roomIn 25 = .ok (.if_icmp .le 9, 3) := by decide +kernel
theorem dX11_roomIn_28 : decode cX11_roomIn 28 = .ok (.aload_n 0, 1) := by decide +kernel
theorem dX11_roomIn_29 : decode cX11_roomIn 29 = .ok (.iconst 5, 1) := by decide +kernel
theorem dX11_roomIn_30 : decode cX11_roomIn 30 = .ok (.invokevirtual 101, 3) := by decide +kernel
theorem dX11_roomIn_33 : decode cX11_roomIn 33 = .ok (.ireturn, 1) := by decide +kernel
theorem dX11_roomIn_34 : decode cX11_roomIn 34 = .ok (.aload_n 0, 1) := by decide +kernel
theorem dX11_roomIn_35 : decode cX11_roomIn 35 = .ok (.aload_n 0, 1) := by decide +kernel
theorem dX11_roomIn_36 : decode cX11_roomIn 36 = .ok (.getfield 75, 3) := by decide +kernel
theorem dX11_roomIn_39 : decode cX11_roomIn 39 = .ok (.aload_n 0, 1) := by decide +kernel
theorem dX11_roomIn_40 : decode cX11_roomIn 40 = .ok (.getfield 58, 3) := by decide +kernel
theorem dX11_roomIn_43 : decode cX11_roomIn 43 = .ok (.iload_n 2, 1) := by decide +kernel
theorem dX11_roomIn_44 : decode cX11_roomIn 44 = .ok (.invokevirtual 312, 3) := by decide +kernel
theorem dX11_roomIn_47 : decode cX11_roomIn 47 = .ok (.aload_n 0, 1) := by decide +kernel
theorem dX11_roomIn_48 : decode cX11_roomIn 48 = .ok (.getfield 58, 3) := by decide +kernel
theorem dX11_roomIn_51 : decode cX11_roomIn 51 = .ok (.iload_n 1, 1) := by decide +kernel
theorem dX11_roomIn_52 : decode cX11_roomIn 52 = .ok (.invokevirtual 267, 3) := by decide +kernel
theorem dX11_roomIn_55 : decode cX11_roomIn 55 = .ok (.invokevirtual 105, 3) := by decide +kernel
theorem dX11_roomIn_58 : decode cX11_roomIn 58 = .ok (.ireturn, 1) := by decide +kernel
theorem dX11_never_0 : decode cX11_never 0 = .ok (.iconst 0, 1) := by decide +kernel
theorem dX11_never_1 : decode cX11_never 1 = .ok (.istore_n 1, 1) := by decide +kernel
theorem dX11_never_2 : decode cX11_never 2 = .ok (.iconst 0, 1) := by decide +kernel
theorem dX11_never_3 : decode cX11_never 3 = .ok (.istore_n 2, 1) := by decide +kernel
theorem dX11_never_4 : decode cX11_never 4 = .ok (.iload_n 2, 1) := by decide +kernel
theorem dX11_never_5 : decode cX11_never 5 = .ok (.aload_n 0, 1) := by decide +kernel
theorem dX11_never_6 : decode cX11_never 6 = .ok (.getfield 58, 3) := by decide +kernel
theorem dX11_never_9 : decode cX11_never 9 = .ok (.getfield 197, 3) := by decide +kernel
theorem dX11_never_12 : decode cX11_never 12 = .ok (.if_icmp .ge 40, 3) := by decide +kernel
theorem dX11_never_15 : decode cX11_never 15 = .ok (.aload_n 0, 1) := by decide +kernel
theorem dX11_never_16 : decode cX11_never 16 = .ok (.getfield 75, 3) := by decide +kernel
theorem dX11_never_19 : decode cX11_never 19 = .ok (.aload_n 0, 1) := by decide +kernel
theorem dX11_never_20 : decode cX11_never 20 = .ok (.getfield 58, 3) := by decide +kernel
theorem dX11_never_23 : decode cX11_never 23 = .ok (.aload_n 0, 1) := by decide +kernel
theorem dX11_never_24 : decode cX11_never 24 = .ok (.getfield 58, 3) := by decide +kernel
theorem dX11_never_27 : decode cX11_never 27 = .ok (.invokevirtual 306, 3) := by decide +kernel
theorem dX11_never_30 : decode cX11_never 30 = .ok (.iconst 1, 1) := by decide +kernel
theorem dX11_never_31 : decode cX11_never 31 = .ok (.iload_n 2, 1) := by decide +kernel
theorem dX11_never_32 : decode cX11_never 32 = .ok (.ishl, 1) := by decide +kernel
theorem dX11_never_33 : decode cX11_never 33 = .ok (.invokevirtual 302, 3) := by decide +kernel
theorem dX11_never_36 : decode cX11_never 36 = .ok (.iconst (-1), 1) := by decide +kernel
theorem dX11_never_37 : decode cX11_never 37 = .ok (.if_icmp .ne 9, 3) := by decide +kernel
theorem dX11_never_40 : decode cX11_never 40 = .ok (.iload_n 1, 1) := by decide +kernel
theorem dX11_never_41 : decode cX11_never 41 = .ok (.iconst 1, 1) := by decide +kernel
theorem dX11_never_42 : decode cX11_never 42 = .ok (.iload_n 2, 1) := by decide +kernel
theorem dX11_never_43 : decode cX11_never 43 = .ok (.ishl, 1) := by decide +kernel
theorem dX11_never_44 : decode cX11_never 44 = .ok (.ior, 1) := by decide +kernel
theorem dX11_never_45 : decode cX11_never 45 = .ok (.istore_n 1, 1) := by decide +kernel
theorem dX11_never_46 : decode cX11_never 46 = .ok (.iinc 2 1, 3) := by decide +kernel
theorem dX11_never_49 : decode cX11_never 49 = .ok (.goto (-45), 3) := by decide +kernel
theorem dX11_never_52 : decode cX11_never 52 = .ok (.aload_n 0, 1) := by decide +kernel
theorem dX11_never_53 : decode cX11_never 53 = .ok (.iload_n 1, 1) := by decide +kernel
theorem dX11_never_54 : decode cX11_never 54 = .ok (.invokevirtual 105, 3) := by decide +kernel
theorem dX11_never_57 : decode cX11_never 57 = .ok (.ireturn, 1) := by decide +kernel
theorem dX11_firstHeard_0 : decode cX11_firstHeard 0 = .ok (.iconst (-1), 1) := by decide +kernel
theorem dX11_firstHeard_1 : decode cX11_firstHeard 1 = .ok (.istore_n 1, 1) := by decide +kernel
theorem dX11_firstHeard_2 : decode cX11_firstHeard 2 = .ok (.sipush 1000, 3) := by decide +kernel
theorem dX11_firstHeard_5 : decode cX11_firstHeard 5 = .ok (.istore_n 2, 1) := by decide +kernel
theorem dX11_firstHeard_6 : decode cX11_firstHeard 6 = .ok (.iconst 0, 1) := by decide +kernel
theorem dX11_firstHeard_7 : decode cX11_firstHeard 7 = .ok (.istore_n 3, 1) := by decide +kernel
theorem dX11_firstHeard_8 : decode cX11_firstHeard 8 = .ok (.iload_n 3, 1) := by decide +kernel
theorem dX11_firstHeard_9 : decode cX11_firstHeard 9 = .ok (.aload_n 0, 1) := by decide +kernel
theorem dX11_firstHeard_10 : decode cX11_firstHeard 10 = .ok (.getfield 58, 3) := by decide +kernel
theorem dX11_firstHeard_13 : decode cX11_firstHeard 13 = .ok (.getfield 197, 3) := by decide +kernel
theorem dX11_firstHeard_16 : decode cX11_firstHeard 16 = .ok (.if_icmp .ge 49, 3) := by decide +kernel
theorem dX11_firstHeard_19 : decode cX11_firstHeard 19 = .ok (.aload_n 0, 1) := by decide +kernel
theorem dX11_firstHeard_20 : decode cX11_firstHeard 20 = .ok (.getfield 75, 3) := by decide +kernel
theorem dX11_firstHeard_23 : decode cX11_firstHeard 23 = .ok (.aload_n 0, 1) := by decide +kernel
theorem dX11_firstHeard_24 : decode cX11_firstHeard 24 = .ok (.getfield 58, 3) := by decide +kernel
theorem dX11_firstHeard_27 : decode cX11_firstHeard 27 = .ok (.aload_n 0, 1) := by decide +kernel
theorem dX11_firstHeard_28 : decode cX11_firstHeard 28 = .ok (.getfield 58, 3) := by decide +kernel
theorem dX11_firstHeard_31 : decode cX11_firstHeard 31 = .ok (.invokevirtual 306, 3) := by decide +kernel
theorem dX11_firstHeard_34 : decode cX11_firstHeard 34 = .ok (.iconst 1, 1) := by decide +kernel
theorem dX11_firstHeard_35 : decode cX11_firstHeard 35 = .ok (.iload_n 3, 1) := by decide +kernel
theorem dX11_firstHeard_36 : decode cX11_firstHeard 36 = .ok (.ishl, 1) := by decide +kernel
theorem dX11_firstHeard_37 : decode cX11_firstHeard 37 = .ok (.invokevirtual 302, 3) := by decide +kernel
theorem dX11_firstHeard_40 : decode cX11_firstHeard 40 = .ok (.istore 4, 2) := by decide +kernel
theorem dX11_firstHeard_42 : decode cX11_firstHeard 42 = .ok (.iload 4, 2) := by decide +kernel
theorem dX11_firstHeard_44 : decode cX11_firstHeard 44 = .ok (.iconst (-1), 1) := by decide +kernel
theorem dX11_firstHeard_45 : decode cX11_firstHeard 45 = .ok (.if_icmp .eq 14, 3) := by decide +kernel
theorem dX11_firstHeard_48 : decode cX11_firstHeard 48 = .ok (.iload 4, 2) := by decide +kernel
theorem dX11_firstHeard_50 : decode cX11_firstHeard 50 = .ok (.iload_n 2, 1) := by decide +kernel
theorem dX11_firstHeard_51 : decode cX11_firstHeard 51 = .ok (.if_icmp .ge 8, 3) := by decide +kernel
theorem dX11_firstHeard_54 : decode cX11_firstHeard 54 = .ok (.iload 4, 2) := by decide +kernel
theorem dX11_firstHeard_56 : decode cX11_firstHeard 56 = .ok (.istore_n 2, 1) := by decide +kernel
theorem dX11_firstHeard_57 : decode cX11_firstHeard 57 = .ok (.iload_n 3, 1) := by decide +kernel
theorem dX11_firstHeard_58 : decode cX11_firstHeard 58 = .ok (.istore_n 1, 1) := by decide +kernel
theorem dX11_firstHeard_59 : decode cX11_firstHeard 59 = .ok (.iinc 3 1, 3) := by decide +kernel
theorem dX11_firstHeard_62 : decode cX11_firstHeard 62 = .ok (.goto (-54), 3) := by decide +kernel
theorem dX11_firstHeard_65 : decode cX11_firstHeard 65 = .ok (.aload_n 0, 1) := by decide +kernel
theorem dX11_firstHeard_66 : decode cX11_firstHeard 66 = .ok (.iload_n 1, 1) := by decide +kernel
theorem dX11_firstHeard_67 : decode cX11_firstHeard 67 = .ok (.invokevirtual 246, 3) := by decide +kernel
theorem dX11_firstHeard_70 : decode cX11_firstHeard 70 = .ok (.ireturn, 1) := by decide +kernel
theorem dX11_bestOrder_0 : decode cX11_bestOrder 0 = .ok (.aload_n 0, 1) := by decide +kernel
theorem dX11_bestOrder_1 : decode cX11_bestOrder 1 = .ok (.getfield 58, 3) := by decide +kernel
theorem dX11_bestOrder_4 : decode cX11_bestOrder 4 = .ok (.getfield 193, 3) := by decide +kernel
theorem dX11_bestOrder_7 : decode cX11_bestOrder 7 = .ok (.getfield 203, 3) := by decide +kernel
theorem dX11_bestOrder_10 : decode cX11_bestOrder 10 = .ok (.bipush 6, 2) := by decide +kernel
theorem dX11_bestOrder_12 : decode cX11_bestOrder 12 = .ok (.if_icmp .le 10, 3) := by decide +kernel
theorem dX11_bestOrder_15 : decode cX11_bestOrder 15 = .ok (.aload_n 0, 1) := by decide +kernel
theorem dX11_bestOrder_16 : decode cX11_bestOrder 16 = .ok (.bipush 9, 2) := by decide +kernel
theorem dX11_bestOrder_18 : decode cX11_bestOrder 18 = .ok (.invokevirtual 101, 3) := by decide +kernel
theorem dX11_bestOrder_21 : decode cX11_bestOrder 21 = .ok (.ireturn, 1) := by decide +kernel
theorem dX11_bestOrder_22 : decode cX11_bestOrder 22 = .ok (.aload_n 0, 1) := by decide +kernel
theorem dX11_bestOrder_23 : decode cX11_bestOrder 23 = .ok (.aload_n 0, 1) := by decide +kernel
theorem dX11_bestOrder_24 : decode cX11_bestOrder 24 = .ok (.getfield 75, 3) := by decide +kernel
theorem dX11_bestOrder_27 : decode cX11_bestOrder 27 = .ok (.aload_n 0, 1) := by decide +kernel
theorem dX11_bestOrder_28 : decode cX11_bestOrder 28 = .ok (.getfield 58, 3) := by decide +kernel
theorem dX11_bestOrder_31 : decode cX11_bestOrder 31 = .ok (.invokevirtual 316, 3) := by decide +kernel
theorem dX11_bestOrder_34 : decode cX11_bestOrder 34 = .ok (.invokevirtual 246, 3) := by decide +kernel
theorem dX11_bestOrder_37 : decode cX11_bestOrder 37 = .ok (.ireturn, 1) := by decide +kernel
theorem dX11_bestAt_0 : decode cX11_bestAt 0 = .ok (.iload_n 1, 1) := by decide +kernel
theorem dX11_bestAt_1 : decode cX11_bestAt 1 = .ok (.ifCond .lt 14, 3) := by decide +kernel
theorem dX11_bestAt_4 : decode cX11_bestAt 4 = .ok (.iload_n 1, 1) := by decide +kernel
theorem dX11_bestAt_5 : decode cX11_bestAt 5 = .ok (.aload_n 0, 1) := by decide +kernel
theorem dX11_bestAt_6 : decode cX11_bestAt 6 = .ok (.getfield 75, 3) := by decide +kernel
theorem dX11_bestAt_9 : decode cX11_bestAt 9 = .ok (.getfield 320, 3) := by decide +kernel
theorem dX11_bestAt_12 : decode cX11_bestAt 12 = .ok (.if_icmp .lt 10, 3) := by decide +kernel
theorem dX11_bestAt_15 : decode cX11_bestAt 15 = .ok (.aload_n 0, 1) := by decide +kernel
theorem dX11_bestAt_16 : decode cX11_bestAt 16 = .ok (.bipush 8, 2) := by decide +kernel
theorem dX11_bestAt_18 : decode cX11_bestAt 18 = .ok (.invokevirtual 101, 3) := by decide +kernel
theorem dX11_bestAt_21 : decode cX11_bestAt 21 = .ok (.ireturn, 1) := by decide +kernel
theorem dX11_bestAt_22 : decode cX11_bestAt 22 = .ok (.aload_n 0, 1) := by decide +kernel
theorem dX11_bestAt_23 : decode cX11_bestAt 23 = .ok (.aload_n 0, 1) := by decide +kernel
theorem dX11_bestAt_24 : decode cX11_bestAt 24 = .ok (.getfield 75, 3) := by decide +kernel
theorem dX11_bestAt_27 : decode cX11_bestAt 27 = .ok (.getfield 323, 3) := by decide +kernel
theorem dX11_bestAt_30 : decode cX11_bestAt 30 = .ok (.iload_n 1, 1) := by decide +kernel
theorem dX11_bestAt_31 : decode cX11_bestAt 31 = .ok (.iaload, 1) := by decide +kernel
theorem dX11_bestAt_32 : decode cX11_bestAt 32 = .ok (.invokevirtual 105, 3) := by decide +kernel
theorem dX11_bestAt_35 : decode cX11_bestAt 35 = .ok (.ireturn, 1) := by decide +kernel
theorem dX11_kept_0 : decode cX11_kept 0 = .ok (.iconst (-1), 1) := by decide +kernel
theorem dX11_kept_1 : decode cX11_kept 1 = .ok (.istore_n 1, 1) := by decide +kernel
theorem dX11_kept_2 : decode cX11_kept 2 = .ok (.iconst (-1), 1) := by decide +kernel
theorem dX11_kept_3 : decode cX11_kept 3 = .ok (.istore_n 2, 1) := by decide +kernel
theorem dX11_kept_4 : decode cX11_kept 4 = .ok (.iconst 0, 1) := by decide +kernel
theorem dX11_kept_5 : decode cX11_kept 5 = .ok (.istore_n 3, 1) := by decide +kernel
theorem dX11_kept_6 : decode cX11_kept 6 = .ok (.iload_n 3, 1) := by decide +kernel
theorem dX11_kept_7 : decode cX11_kept 7 = .ok (.aload_n 0, 1) := by decide +kernel
theorem dX11_kept_8 : decode cX11_kept 8 = .ok (.getfield 58, 3) := by decide +kernel
theorem dX11_kept_11 : decode cX11_kept 11 = .ok (.getfield 200, 3) := by decide +kernel
theorem dX11_kept_14 : decode cX11_kept 14 = .ok (.if_icmp .ge 54, 3) := by decide +kernel
theorem dX11_kept_17 : decode cX11_kept 17 = .ok (.aload_n 0, 1) := by decide +kernel
theorem dX11_kept_18 : decode cX11_kept 18 = .ok (.getfield 58, 3) := by decide +kernel
theorem dX11_kept_21 : decode cX11_kept 21 = .ok (.getfield 193, 3) := by decide +kernel
theorem dX11_kept_24 : decode cX11_kept 24 = .ok (.aload_n 0, 1) := by decide +kernel
theorem dX11_kept_25 : decode cX11_kept 25 = .ok (.getfield 58, 3) := by decide +kernel
theorem dX11_kept_28 : decode cX11_kept 28 = .ok (.iload_n 3, 1) := by decide +kernel
theorem dX11_kept_29 : decode cX11_kept 29 = .ok (.invokevirtual 267, 3) := by decide +kernel
theorem dX11_kept_32 : decode cX11_kept 32 = .ok (.istore 4, 2) := by decide +kernel
theorem dX11_kept_34 : decode cX11_kept 34 = .ok (.aload_n 0, 1) := by decide +kernel
theorem dX11_kept_35 : decode cX11_kept 35 = .ok (.getfield 58, 3) := by decide +kernel
theorem dX11_kept_38 : decode cX11_kept 38 = .ok (.getfield 193, 3) := by decide +kernel
theorem dX11_kept_41 : decode cX11_kept 41 = .ok (.getfield 221, 3) := by decide +kernel
theorem dX11_kept_44 : decode cX11_kept 44 = .ok (.iload_n 3, 1) := by decide +kernel
theorem dX11_kept_45 : decode cX11_kept 45 = .ok (.invokestatic 233, 3) := by decide +kernel
theorem dX11_kept_48 : decode cX11_kept 48 = .ok (.ifCond .ne 14, 3) := by decide +kernel
theorem dX11_kept_51 : decode cX11_kept 51 = .ok (.iload 4, 2) := by decide +kernel
theorem dX11_kept_53 : decode cX11_kept 53 = .ok (.iload_n 2, 1) := by decide +kernel
theorem dX11_kept_54 : decode cX11_kept 54 = .ok (.if_icmp .le 8, 3) := by decide +kernel
theorem dX11_kept_57 : decode cX11_kept 57 = .ok (.iload 4, 2) := by decide +kernel
theorem dX11_kept_59 : decode cX11_kept 59 = .ok (.istore_n 2, 1) := by decide +kernel
theorem dX11_kept_60 : decode cX11_kept 60 = .ok (.iload_n 3, 1) := by decide +kernel
theorem dX11_kept_61 : decode cX11_kept 61 = .ok (.istore_n 1, 1) := by decide +kernel
theorem dX11_kept_62 : decode cX11_kept 62 = .ok (.iinc 3 1, 3) := by decide +kernel
theorem dX11_kept_65 : decode cX11_kept 65 = .ok (.goto (-59), 3) := by decide +kernel
theorem dX11_kept_68 : decode cX11_kept 68 = .ok (.aload_n 0, 1) := by decide +kernel
theorem dX11_kept_69 : decode cX11_kept 69 = .ok (.iload_n 1, 1) := by decide +kernel
theorem dX11_kept_70 : decode cX11_kept 70 = .ok (.invokevirtual 246, 3) := by decide +kernel
theorem dX11_kept_73 : decode cX11_kept 73 = .ok (.ireturn, 1) := by decide +kernel
theorem dX11_fits_0 : decode cX11_fits 0 = .ok (.aload_n 0, 1) := by decide +kernel
theorem dX11_fits_1 : decode cX11_fits 1 = .ok (.getfield 30, 3) := by decide +kernel
theorem dX11_fits_4 : decode cX11_fits 4 = .ok (.aload_n 0, 1) := by decide +kernel
theorem dX11_fits_5 : decode cX11_fits 5 = .ok (.getfield 58, 3) := by decide +kernel
theorem dX11_fits_8 : decode cX11_fits 8 = .ok (.invokevirtual 326, 3) := by decide +kernel
theorem dX11_fits_11 : decode cX11_fits 11 = .ok (.istore_n 1, 1) := by decide +kernel
theorem dX11_fits_12 : decode cX11_fits 12 = .ok (.iload_n 1, 1) := by decide +kernel
theorem dX11_fits_13 : decode cX11_fits 13 = .ok (.iconst (-1), 1) := by decide +kernel
theorem dX11_fits_14 : decode cX11_fits 14 = .ok (.if_icmp .ne 12, 3) := by decide +kernel
theorem dX11_fits_17 : decode cX11_fits 17 = .ok (.aload_n 0, 1) := by decide +kernel
theorem dX11_fits_18 : decode cX11_fits 18 = .ok (.bipush 8, 2) := by decide +kernel
theorem dX11_fits_20 : decode cX11_fits 20 = .ok (.invokevirtual 101, 3) := by decide +kernel
theorem dX11_fits_23 : decode cX11_fits 23 = .ok (.goto 11, 3) := by decide +kernel
theorem dX11_fits_26 : decode cX11_fits 26 = .ok (.aload_n 0, 1) := by decide +kernel
theorem dX11_fits_27 : decode cX11_fits 27 = .ok (.iload_n 1, 1) := by decide +kernel
theorem dX11_fits_28 : decode cX11_fits 28 = .ok (.invokestatic 329, 3) := by decide +kernel
theorem dX11_fits_31 : decode cX11_fits 31 = .ok (.invokevirtual 105, 3) := by decide +kernel
theorem dX11_fits_34 : decode cX11_fits 34 = .ok (.ireturn, 1) := by decide +kernel
theorem dX11_fitSet_0 : decode cX11_fitSet 0 = .ok (.aload_n 0, 1) := by decide +kernel
theorem dX11_fitSet_1 : decode cX11_fitSet 1 = .ok (.aload_n 0, 1) := by decide +kernel
theorem dX11_fitSet_2 : decode cX11_fitSet 2 = .ok (.getfield 30, 3) := by decide +kernel
theorem dX11_fitSet_5 : decode cX11_fitSet 5 = .ok (.aload_n 0, 1) := by decide +kernel
theorem dX11_fitSet_6 : decode cX11_fitSet 6 = .ok (.getfield 58, 3) := by decide +kernel
theorem dX11_fitSet_9 : decode cX11_fitSet 9 = .ok (.invokevirtual 326, 3) := by decide +kernel
theorem dX11_fitSet_12 : decode cX11_fitSet 12 = .ok (.invokevirtual 246, 3) := by decide +kernel
theorem dX11_fitSet_15 : decode cX11_fitSet 15 = .ok (.ireturn, 1) := by decide +kernel
theorem dX11_caught_0 : decode cX11_caught 0 = .ok (.aload_n 0, 1) := by decide +kernel
theorem dX11_caught_1 : decode cX11_caught 1 = .ok (.getfield 30, 3) := by decide +kernel
theorem dX11_caught_4 : decode cX11_caught 4 = .ok (.aload_n 0, 1) := by decide +kernel
theorem dX11_caught_5 : decode cX11_caught 5 = .ok (.getfield 58, 3) := by decide +kernel
theorem dX11_caught_8 : decode cX11_caught 8 = .ok (.iconst 1, 1) := by decide +kernel
theorem dX11_caught_9 : decode cX11_caught 9 = .ok (.invokevirtual 334, 3) := by decide +kernel
theorem dX11_caught_12 : decode cX11_caught 12 = .ok (.aload_n 0, 1) := by decide +kernel
theorem dX11_caught_13 : decode cX11_caught 13 = .ok (.invokevirtual 119, 3) := by decide +kernel
theorem dX11_caught_16 : decode cX11_caught 16 = .ok (.ireturn, 1) := by decide +kernel
theorem dX11_risk_0 : decode cX11_risk 0 = .ok (.iload_n 1, 1) := by decide +kernel
theorem dX11_risk_1 : decode cX11_risk 1 = .ok (.ifCond .lt 8, 3) := by decide +kernel
theorem dX11_risk_4 : decode cX11_risk 4 = .ok (.iload_n 1, 1) := by decide +kernel
theorem dX11_risk_5 : decode cX11_risk 5 = .ok (.iconst 2, 1) := by decide +kernel
theorem dX11_risk_6 : decode cX11_risk 6 = .ok (.if_icmp .le 9, 3) := by decide +kernel
theorem dX11_risk_9 : decode cX11_risk 9 = .ok (.aload_n 0, 1) := by decide +kernel
theorem dX11_risk_10 : decode cX11_risk 10 = .ok (.iconst 5, 1) := by decide +kernel
theorem dX11_risk_11 : decode cX11_risk 11 = .ok (.invokevirtual 112, 3) := by decide +kernel
theorem dX11_risk_14 : decode cX11_risk 14 = .ok (.ireturn, 1) := by decide +kernel
theorem dX11_risk_15 : decode cX11_risk 15 = .ok (.aload_n 0, 1) := by decide +kernel
theorem dX11_risk_16 : decode cX11_risk 16 = .ok (.getfield 30, 3) := by decide +kernel
theorem dX11_risk_19 : decode cX11_risk 19 = .ok (.aload_n 0, 1) := by decide +kernel
theorem dX11_risk_20 : decode cX11_risk 20 = .ok (.getfield 58, 3) := by decide +kernel
theorem dX11_risk_23 : decode cX11_risk 23 = .ok (.iload_n 1, 1) := by decide +kernel
theorem dX11_risk_24 : decode cX11_risk 24 = .ok (.invokevirtual 334, 3) := by decide +kernel
theorem dX11_risk_27 : decode cX11_risk 27 = .ok (.aload_n 0, 1) := by decide +kernel
theorem dX11_risk_28 : decode cX11_risk 28 = .ok (.invokevirtual 119, 3) := by decide +kernel
theorem dX11_risk_31 : decode cX11_risk 31 = .ok (.ireturn, 1) := by decide +kernel
theorem dX11_hide_0 : decode cX11_hide 0 = .ok (.aload_n 0, 1) := by decide +kernel
theorem dX11_hide_1 : decode cX11_hide 1 = .ok (.getfield 58, 3) := by decide +kernel
theorem dX11_hide_4 : decode cX11_hide 4 = .ok (.iload_n 1, 1) := by decide +kernel
theorem dX11_hide_5 : decode cX11_hide 5 = .ok (.invokevirtual 252, 3) := by decide +kernel
theorem dX11_hide_8 : decode cX11_hide 8 = .ok (.ifCond .ne 9, 3) := by decide +kernel
theorem dX11_hide_11 : decode cX11_hide 11 = .ok (.aload_n 0, 1) := by decide +kernel
theorem dX11_hide_12 : decode cX11_hide 12 = .ok (.iconst 2, 1) := by decide +kernel
theorem dX11_hide_13 : decode cX11_hide 13 = .ok (.invokevirtual 101, 3) := by decide +kernel
theorem dX11_hide_16 : decode cX11_hide 16 = .ok (.ireturn, 1) := by decide +kernel
theorem dX11_hide_17 : decode cX11_hide 17 = .ok (.iconst (-1), 1) := by decide +kernel
theorem dX11_hide_18 : decode cX11_hide 18 = .ok (.istore_n 2, 1) := by decide +kernel
theorem dX11_hide_19 : decode cX11_hide 19 = .ok (.bipush 17, 2) := by decide +kernel
theorem dX11_hide_21 : decode cX11_hide 21 = .ok (.istore_n 3, 1) := by decide +kernel
theorem dX11_hide_22 : decode cX11_hide 22 = .ok (.iconst 0, 1) := by decide +kernel
theorem dX11_hide_23 : decode cX11_hide 23 = .ok (.istore 4, 2) := by decide +kernel
theorem dX11_hide_25 : decode cX11_hide 25 = .ok (.iload 4, 2) := by decide +kernel
theorem dX11_hide_27 : decode cX11_hide 27 = .ok (.aload_n 0, 1) := by decide +kernel
theorem dX11_hide_28 : decode cX11_hide 28 = .ok (.getfield 58, 3) := by decide +kernel
theorem dX11_hide_31 : decode cX11_hide 31 = .ok (.getfield 200, 3) := by decide +kernel
theorem dX11_hide_34 : decode cX11_hide 34 = .ok (.if_icmp .ge 101, 3) := by decide +kernel
theorem dX11_hide_37 : decode cX11_hide 37 = .ok (.aload_n 0, 1) := by decide +kernel
theorem dX11_hide_38 : decode cX11_hide 38 = .ok (.getfield 58, 3) := by decide +kernel
theorem dX11_hide_41 : decode cX11_hide 41 = .ok (.getfield 193, 3) := by decide +kernel
theorem dX11_hide_44 : decode cX11_hide 44 = .ok (.getfield 221, 3) := by decide +kernel
theorem dX11_hide_47 : decode cX11_hide 47 = .ok (.iload 4, 2) := by decide +kernel
theorem dX11_hide_49 : decode cX11_hide 49 = .ok (.invokestatic 233, 3) := by decide +kernel
theorem dX11_hide_52 : decode cX11_hide 52 = .ok (.ifCond .ne 35, 3) := by decide +kernel
theorem dX11_hide_55 : decode cX11_hide 55 = .ok (.aload_n 0, 1) := by decide +kernel
theorem dX11_hide_56 : decode cX11_hide 56 = .ok (.getfield 58, 3) := by decide +kernel
theorem dX11_hide_59 : decode cX11_hide 59 = .ok (.getfield 193, 3) := by decide +kernel
theorem dX11_hide_62 : decode cX11_hide 62 = .ok (.aload_n 0, 1) := by decide +kernel
theorem dX11_hide_63 : decode cX11_hide 63 = .ok (.getfield 58, 3) := by decide +kernel
theorem dX11_hide_66 : decode cX11_hide 66 = .ok (.iload 4, 2) := by decide +kernel
theorem dX11_hide_68 : decode cX11_hide 68 = .ok (.invokevirtual 267, 3) := by decide +kernel
theorem dX11_hide_71 : decode cX11_hide 71 = .ok (.aload_n 0, 1) := by decide +kernel
theorem dX11_hide_72 : decode cX11_hide 72 = .ok (.getfield 58, 3) := by decide +kernel
theorem dX11_hide_75 : decode cX11_hide 75 = .ok (.getfield 255, 3) := by decide +kernel
theorem dX11_hide_78 : decode cX11_hide 78 = .ok (.iload_n 1, 1) := by decide +kernel
theorem dX11_hide_79 : decode cX11_hide 79 = .ok (.iaload, 1) := by decide +kernel
theorem dX11_hide_80 : decode cX11_hide 80 = .ok (.if_icmp .lt 7, 3) := by decide +kernel
theorem dX11_hide_83 : decode cX11_hide 83 = .ok (.iconst 1, 1) := by decide +kernel
theorem dX11_hide_84 : decode cX11_hide 84 = .ok (.goto 4, 3) := by decide +kernel
theorem dX11_hide_87 : decode cX11_hide 87 = .ok (.iconst 0, 1) := by decide +kernel
theorem dX11_hide_88 : decode cX11_hide 88 = .ok (.istore 5, 2) := by decide +kernel
theorem dX11_hide_90 : decode cX11_hide 90 = .ok (.iload 5, 2) := by decide +kernel
theorem dX11_hide_92 : decode cX11_hide 92 = .ok (.ifCond .eq 37, 3) := by decide +kernel
theorem dX11_hide_95 : decode cX11_hide 95 = .ok (.aload_n 0, 1) := by decide +kernel
theorem dX11_hide_96 : decode cX11_hide 96 = .ok (.getfield 58, 3) := by decide +kernel
theorem dX11_hide_99 : decode cX11_hide 99 = .ok (.getfield 193, 3) := by decide +kernel
theorem dX11_hide_102 : decode cX11_hide 102 = .ok (.getfield 264, 3) := by decide +kernel
theorem dX11_hide_105 : decode cX11_hide 105 = .ok (.iload 4, 2) := by decide +kernel
theorem dX11_hide_107 : decode cX11_hide 107 = .ok (.iaload, 1) := by decide +kernel
theorem dX11_hide_108 : decode cX11_hide 108 = .ok (.iload_n 3, 1) := by decide +kernel
theorem dX11_hide_109 : decode cX11_hide 109 = .ok (.if_icmp .ge 20, 3) := by decide +kernel
theorem dX11_hide_112 : decode cX11_hide 112 = .ok (.aload_n 0, 1) := by decide +kernel
theorem dX11_hide_113 : decode cX11_hide 113 = .ok (.getfield 58, 3) := by decide +kernel
theorem dX11_hide_116 : decode cX11_hide 116 = .ok (.getfield 193, 3) := by decide +kernel
theorem dX11_hide_119 : decode cX11_hide 119 = .ok (.getfield 264, 3) := by decide +kernel
theorem dX11_hide_122 : decode cX11_hide 122 = .ok (.iload 4, 2) := by decide +kernel
theorem dX11_hide_124 : decode cX11_hide 124 = .ok (.iaload, 1) := by decide +kernel
theorem dX11_hide_125 : decode cX11_hide 125 = .ok (.istore_n 3, 1) := by decide +kernel
theorem dX11_hide_126 : decode cX11_hide 126 = .ok (.iload 4, 2) := by decide +kernel
theorem dX11_hide_128 : decode cX11_hide 128 = .ok (.istore_n 2, 1) := by decide +kernel
theorem dX11_hide_129 : decode cX11_hide 129 = .ok (.iinc 4 1, 3) := by decide +kernel
theorem dX11_hide_132 : decode cX11_hide 132 = .ok (.goto (-107), 3) := by decide +kernel
theorem dX11_hide_135 : decode cX11_hide 135 = .ok (.aload_n 0, 1) := by decide +kernel
theorem dX11_hide_136 : decode cX11_hide 136 = .ok (.iload_n 2, 1) := by decide +kernel
theorem dX11_hide_137 : decode cX11_hide 137 = .ok (.invokevirtual 246, 3) := by decide +kernel
theorem dX11_hide_140 : decode cX11_hide 140 = .ok (.ireturn, 1) := by decide +kernel
theorem dX11_game_0 : decode cX11_game 0 = .ok (.aload_n 0, 1) := by decide +kernel
theorem dX11_game_1 : decode cX11_game 1 = .ok (.getfield 30, 3) := by decide +kernel
theorem dX11_game_4 : decode cX11_game 4 = .ok (.aload_n 0, 1) := by decide +kernel
theorem dX11_game_5 : decode cX11_game 5 = .ok (.getfield 58, 3) := by decide +kernel
theorem dX11_game_8 : decode cX11_game 8 = .ok (.invokevirtual 337, 3) := by decide +kernel
theorem dX11_game_11 : decode cX11_game 11 = .ok (.ifCond .eq 10, 3) := by decide +kernel
theorem dX11_game_14 : decode cX11_game 14 = .ok (.aload_n 0, 1) := by decide +kernel
theorem dX11_game_15 : decode cX11_game 15 = .ok (.invokevirtual 119, 3) := by decide +kernel
theorem dX11_game_18 : decode cX11_game 18 = .ok (.goto 9, 3) := by decide +kernel
theorem dX11_game_21 : decode cX11_game 21 = .ok (.aload_n 0, 1) := by decide +kernel
theorem dX11_game_22 : decode cX11_game 22 = .ok (.bipush 8, 2) := by decide +kernel
theorem dX11_game_24 : decode cX11_game 24 = .ok (.invokevirtual 112, 3) := by decide +kernel
theorem dX11_game_27 : decode cX11_game 27 = .ok (.ireturn, 1) := by decide +kernel
theorem dX11_mix_0 : decode cX11_mix 0 = .ok (.aload_n 0, 1) := by decide +kernel
theorem dX11_mix_1 : decode cX11_mix 1 = .ok (.getfield 58, 3) := by decide +kernel
theorem dX11_mix_4 : decode cX11_mix 4 = .ok (.iload_n 1, 1) := by decide +kernel
theorem dX11_mix_5 : decode cX11_mix 5 = .ok (.invokevirtual 258, 3) := by decide +kernel
theorem dX11_mix_8 : decode cX11_mix 8 = .ok (.ifCond .ne 9, 3) := by decide +kernel
theorem dX11_mix_11 : decode cX11_mix 11 = .ok (.aload_n 0, 1) := by decide +kernel
theorem dX11_mix_12 : decode cX11_mix 12 = .ok (.iconst 2, 1) := by decide +kernel
theorem dX11_mix_13 : decode cX11_mix 13 = .ok (.invokevirtual 112, 3) := by decide +kernel
theorem dX11_mix_16 : decode cX11_mix 16 = .ok (.ireturn, 1) := by decide +kernel
theorem dX11_mix_17 : decode cX11_mix 17 = .ok (.aload_n 0, 1) := by decide +kernel
theorem dX11_mix_18 : decode cX11_mix 18 = .ok (.getfield 58, 3) := by decide +kernel
theorem dX11_mix_21 : decode cX11_mix 21 = .ok (.getfield 193, 3) := by decide +kernel
theorem dX11_mix_24 : decode cX11_mix 24 = .ok (.getfield 221, 3) := by decide +kernel
theorem dX11_mix_27 : decode cX11_mix 27 = .ok (.iload_n 1, 1) := by decide +kernel
theorem dX11_mix_28 : decode cX11_mix 28 = .ok (.invokestatic 233, 3) := by decide +kernel
theorem dX11_mix_31 : decode cX11_mix 31 = .ok (.ifCond .eq 10, 3) := by decide +kernel
theorem dX11_mix_34 : decode cX11_mix 34 = .ok (.aload_n 0, 1) := by decide +kernel
theorem dX11_mix_35 : decode cX11_mix 35 = .ok (.bipush 9, 2) := by decide +kernel
theorem dX11_mix_37 : decode cX11_mix 37 = .ok (.invokevirtual 112, 3) := by decide +kernel
theorem dX11_mix_40 : decode cX11_mix 40 = .ok (.ireturn, 1) := by decide +kernel
theorem dX11_mix_41 : decode cX11_mix 41 = .ok (.aload_n 0, 1) := by decide +kernel
theorem dX11_mix_42 : decode cX11_mix 42 = .ok (.getfield 30, 3) := by decide +kernel
theorem dX11_mix_45 : decode cX11_mix 45 = .ok (.aload_n 0, 1) := by decide +kernel
theorem dX11_mix_46 : decode cX11_mix 46 = .ok (.getfield 58, 3) := by decide +kernel
theorem dX11_mix_49 : decode cX11_mix 49 = .ok (.iload_n 1, 1) := by decide +kernel
theorem dX11_mix_50 : decode cX11_mix 50 = .ok (.invokevirtual 341, 3) := by decide +kernel
theorem dX11_mix_53 : decode cX11_mix 53 = .ok (.aload_n 0, 1) := by decide +kernel
theorem dX11_mix_54 : decode cX11_mix 54 = .ok (.invokevirtual 119, 3) := by decide +kernel
theorem dX11_mix_57 : decode cX11_mix 57 = .ok (.ireturn, 1) := by decide +kernel
theorem dX11_pricked_0 : decode cX11_pricked 0 = .ok (.aload_n 0, 1) := by decide +kernel
theorem dX11_pricked_1 : decode cX11_pricked 1 = .ok (.getfield 23, 3) := by decide +kernel
theorem dX11_pricked_4 : decode cX11_pricked 4 = .ok (.aload_n 0, 1) := by decide +kernel
theorem dX11_pricked_5 : decode cX11_pricked 5 = .ok (.getfield 16, 3) := by decide +kernel
theorem dX11_pricked_8 : decode cX11_pricked 8 = .ok (.iload_n 1, 1) := by decide +kernel
theorem dX11_pricked_9 : decode cX11_pricked 9 = .ok (.iload_n 2, 1) := by decide +kernel
theorem dX11_pricked_10 : decode cX11_pricked 10 = .ok (.iload_n 3, 1) := by decide +kernel
theorem dX11_pricked_11 : decode cX11_pricked 11 = .ok (.iload 4, 2) := by decide +kernel
theorem dX11_pricked_13 : decode cX11_pricked 13 = .ok (.invokevirtual 344, 3) := by decide +kernel
theorem dX11_pricked_16 : decode cX11_pricked 16 = .ok (.istore 5, 2) := by decide +kernel
theorem dX11_pricked_18 : decode cX11_pricked 18 = .ok (.iload 5, 2) := by decide +kernel
theorem dX11_pricked_20 : decode cX11_pricked 20 = .ok (.ifCond .eq 11, 3) := by decide +kernel
theorem dX11_pricked_23 : decode cX11_pricked 23 = .ok (.aload_n 0, 1) := by decide +kernel
theorem dX11_pricked_24 : decode cX11_pricked 24 = .ok (.iload 5, 2) := by decide +kernel
theorem dX11_pricked_26 : decode cX11_pricked 26 = .ok (.invokevirtual 101, 3) := by decide +kernel
theorem dX11_pricked_29 : decode cX11_pricked 29 = .ok (.i2l, 1) := by decide +kernel
theorem dX11_pricked_30 : decode cX11_pricked 30 = .ok (.lreturn, 1) := by decide +kernel
theorem dX11_pricked_31 : decode cX11_pricked 31 = .ok (.aload_n 0, 1) := by decide +kernel
theorem dX11_pricked_32 : decode cX11_pricked 32 = .ok (.iconst 0, 1) := by decide +kernel
theorem dX11_pricked_33 : decode cX11_pricked 33 = .ok (.putfield 9, 3) := by decide +kernel
theorem dX11_pricked_36 : decode cX11_pricked 36 = .ok (.aload_n 0, 1) := by decide +kernel
theorem dX11_pricked_37 : decode cX11_pricked 37 = .ok (.getfield 23, 3) := by decide +kernel
theorem dX11_pricked_40 : decode cX11_pricked 40 = .ok (.invokevirtual 348, 3) := by decide +kernel
theorem dX11_pricked_43 : decode cX11_pricked 43 = .ok (.lreturn, 1) := by decide +kernel
theorem dX11_prickAt_0 : decode cX11_prickAt 0 = .ok (.aload_n 0, 1) := by decide +kernel
theorem dX11_prickAt_1 : decode cX11_prickAt 1 = .ok (.getfield 23, 3) := by decide +kernel
theorem dX11_prickAt_4 : decode cX11_prickAt 4 = .ok (.aload_n 0, 1) := by decide +kernel
theorem dX11_prickAt_5 : decode cX11_prickAt 5 = .ok (.getfield 16, 3) := by decide +kernel
theorem dX11_prickAt_8 : decode cX11_prickAt 8 = .ok (.iload_n 1, 1) := by decide +kernel
theorem dX11_prickAt_9 : decode cX11_prickAt 9 = .ok (.iload_n 2, 1) := by decide +kernel
theorem dX11_prickAt_10 : decode cX11_prickAt 10 = .ok (.iload_n 3, 1) := by decide +kernel
theorem dX11_prickAt_11 : decode cX11_prickAt 11 = .ok (.iload 4, 2) := by decide +kernel
theorem dX11_prickAt_13 : decode cX11_prickAt 13 = .ok (.invokevirtual 344, 3) := by decide +kernel
theorem dX11_prickAt_16 : decode cX11_prickAt 16 = .ok (.istore 6, 2) := by decide +kernel
theorem dX11_prickAt_18 : decode cX11_prickAt 18 = .ok (.iload 6, 2) := by decide +kernel
theorem dX11_prickAt_20 : decode cX11_prickAt 20 = .ok (.ifCond .eq 10, 3) := by decide +kernel
theorem dX11_prickAt_23 : decode cX11_prickAt 23 = .ok (.aload_n 0, 1) := by decide +kernel
theorem dX11_prickAt_24 : decode cX11_prickAt 24 = .ok (.iload 6, 2) := by decide +kernel
theorem dX11_prickAt_26 : decode cX11_prickAt 26 = .ok (.invokevirtual 101, 3) := by decide +kernel
theorem dX11_prickAt_29 : decode cX11_prickAt 29 = .ok (.ireturn, 1) := by decide +kernel
theorem dX11_prickAt_30 : decode cX11_prickAt 30 = .ok (.iload 5, 2) := by decide +kernel
theorem dX11_prickAt_32 : decode cX11_prickAt 32 = .ok (.ifCond .lt 9, 3) := by decide +kernel
theorem dX11_prickAt_35 : decode cX11_prickAt 35 = .ok (.iload 5, 2) := by decide +kernel
theorem dX11_prickAt_37 : decode cX11_prickAt 37 = .ok (.iload_n 2, 1) := by decide +kernel
theorem dX11_prickAt_38 : decode cX11_prickAt 38 = .ok (.if_icmp .lt 9, 3) := by decide +kernel
theorem dX11_prickAt_41 : decode cX11_prickAt 41 = .ok (.aload_n 0, 1) := by decide +kernel
theorem dX11_prickAt_42 : decode cX11_prickAt 42 = .ok (.iconst 5, 1) := by decide +kernel
theorem dX11_prickAt_43 : decode cX11_prickAt 43 = .ok (.invokevirtual 101, 3) := by decide +kernel
theorem dX11_prickAt_46 : decode cX11_prickAt 46 = .ok (.ireturn, 1) := by decide +kernel
theorem dX11_prickAt_47 : decode cX11_prickAt 47 = .ok (.aload_n 0, 1) := by decide +kernel
theorem dX11_prickAt_48 : decode cX11_prickAt 48 = .ok (.getfield 23, 3) := by decide +kernel
theorem dX11_prickAt_51 : decode cX11_prickAt 51 = .ok (.iconst 0, 1) := by decide +kernel
theorem dX11_prickAt_52 : decode cX11_prickAt 52 = .ok (.invokevirtual 352, 3) := by decide +kernel
theorem dX11_prickAt_55 : decode cX11_prickAt 55 = .ok (.iconst (-1), 1) := by decide +kernel
theorem dX11_prickAt_56 : decode cX11_prickAt 56 = .ok (.if_icmp .ne 12, 3) := by decide +kernel
theorem dX11_prickAt_59 : decode cX11_prickAt 59 = .ok (.aload_n 0, 1) := by decide +kernel
theorem dX11_prickAt_60 : decode cX11_prickAt 60 = .ok (.bipush 8, 2) := by decide +kernel
theorem dX11_prickAt_62 : decode cX11_prickAt 62 = .ok (.invokevirtual 101, 3) := by decide +kernel
theorem dX11_prickAt_65 : decode cX11_prickAt 65 = .ok (.goto 17, 3) := by decide +kernel
theorem dX11_prickAt_68 : decode cX11_prickAt 68 = .ok (.aload_n 0, 1) := by decide +kernel
theorem dX11_prickAt_69 : decode cX11_prickAt 69 = .ok (.aload_n 0, 1) := by decide +kernel
theorem dX11_prickAt_70 : decode cX11_prickAt 70 = .ok (.getfield 23, 3) := by decide +kernel
theorem dX11_prickAt_73 : decode cX11_prickAt 73 = .ok (.getfield 355, 3) := by decide +kernel
theorem dX11_prickAt_76 : decode cX11_prickAt 76 = .ok (.iload 5, 2) := by decide +kernel
theorem dX11_prickAt_78 : decode cX11_prickAt 78 = .ok (.iaload, 1) := by decide +kernel
theorem dX11_prickAt_79 : decode cX11_prickAt 79 = .ok (.invokevirtual 105, 3) := by decide +kernel
theorem dX11_prickAt_82 : decode cX11_prickAt 82 = .ok (.ireturn, 1) := by decide +kernel
theorem dX11_shortest_0 : decode cX11_shortest 0 = .ok (.aload_n 0, 1) := by decide +kernel
theorem dX11_shortest_1 : decode cX11_shortest 1 = .ok (.getfield 23, 3) := by decide +kernel
theorem dX11_shortest_4 : decode cX11_shortest 4 = .ok (.aload_n 0, 1) := by decide +kernel
theorem dX11_shortest_5 : decode cX11_shortest 5 = .ok (.getfield 16, 3) := by decide +kernel
theorem dX11_shortest_8 : decode cX11_shortest 8 = .ok (.iload_n 1, 1) := by decide +kernel
theorem dX11_shortest_9 : decode cX11_shortest 9 = .ok (.iload_n 2, 1) := by decide +kernel
theorem dX11_shortest_10 : decode cX11_shortest 10 = .ok (.iload_n 3, 1) := by decide +kernel
theorem dX11_shortest_11 : decode cX11_shortest 11 = .ok (.iload 4, 2) := by decide +kernel
theorem dX11_shortest_13 : decode cX11_shortest 13 = .ok (.invokevirtual 344, 3) := by decide +kernel
theorem dX11_shortest_16 : decode cX11_shortest 16 = .ok (.istore 5, 2) := by decide +kernel
theorem dX11_shortest_18 : decode cX11_shortest 18 = .ok (.iload 5, 2) := by decide +kernel
theorem dX11_shortest_20 : decode cX11_shortest 20 = .ok (.ifCond .eq 10, 3) := by decide +kernel
theorem dX11_shortest_23 : decode cX11_shortest 23 = .ok (.aload_n 0, 1) := by decide +kernel
theorem dX11_shortest_24 : decode cX11_shortest 24 = .ok (.iload 5, 2) := by decide +kernel
theorem dX11_shortest_26 : decode cX11_shortest 26 = .ok (.invokevirtual 101, 3) := by decide +kernel
theorem dX11_shortest_29 : decode cX11_shortest 29 = .ok (.ireturn, 1) := by decide +kernel
theorem dX11_shortest_30 : decode cX11_shortest 30 = .ok (.aload_n 0, 1) := by decide +kernel
theorem dX11_shortest_31 : decode cX11_shortest 31 = .ok (.aload_n 0, 1) := by decide +kernel
theorem dX11_shortest_32 : decode cX11_shortest 32 = .ok (.getfield 23, 3) := by decide +kernel
theorem dX11_shortest_35 : decode cX11_shortest 35 = .ok (.invokevirtual 358, 3) := by decide +kernel
theorem dX11_shortest_38 : decode cX11_shortest 38 = .ok (.invokevirtual 246, 3) := by decide +kernel
theorem dX11_shortest_41 : decode cX11_shortest 41 = .ok (.ireturn, 1) := by decide +kernel
theorem dX11_live_0 : decode cX11_live 0 = .ok (.iload_n 1, 1) := by decide +kernel
theorem dX11_live_1 : decode cX11_live 1 = .ok (.ifCond .lt 10, 3) := by decide +kernel
theorem dX11_live_4 : decode cX11_live 4 = .ok (.iload_n 1, 1) := by decide +kernel
theorem dX11_live_5 : decode cX11_live 5 = .ok (.sipush 9999, 3) := by decide +kernel
theorem dX11_live_8 : decode cX11_live 8 = .ok (.if_icmp .le 9, 3) := by decide +kernel
theorem dX11_live_11 : decode cX11_live 11 = .ok (.aload_n 0, 1) := by decide +kernel
theorem dX11_live_12 : decode cX11_live 12 = .ok (.iconst 5, 1) := by decide +kernel
theorem dX11_live_13 : decode cX11_live 13 = .ok (.invokevirtual 101, 3) := by decide +kernel
theorem dX11_live_16 : decode cX11_live 16 = .ok (.ireturn, 1) := by decide +kernel
theorem dX11_live_17 : decode cX11_live 17 = .ok (.aload_n 0, 1) := by decide +kernel
theorem dX11_live_18 : decode cX11_live 18 = .ok (.getfield 58, 3) := by decide +kernel
theorem dX11_live_21 : decode cX11_live 21 = .ok (.getfield 172, 3) := by decide +kernel
theorem dX11_live_24 : decode cX11_live 24 = .ok (.getfield 361, 3) := by decide +kernel
theorem dX11_live_27 : decode cX11_live 27 = .ok (.ifCond .ne 10, 3) := by decide +kernel
theorem dX11_live_30 : decode cX11_live 30 = .ok (.aload_n 0, 1) := by decide +kernel
theorem dX11_live_31 : decode cX11_live 31 = .ok (.bipush 8, 2) := by decide +kernel
theorem dX11_live_33 : decode cX11_live 33 = .ok (.invokevirtual 101, 3) := by decide +kernel
theorem dX11_live_36 : decode cX11_live 36 = .ok (.ireturn, 1) := by decide +kernel
theorem dX11_live_37 : decode cX11_live 37 = .ok (.aload_n 0, 1) := by decide +kernel
theorem dX11_live_38 : decode cX11_live 38 = .ok (.getfield 82, 3) := by decide +kernel
theorem dX11_live_41 : decode cX11_live 41 = .ok (.aload_n 0, 1) := by decide +kernel
theorem dX11_live_42 : decode cX11_live 42 = .ok (.getfield 58, 3) := by decide +kernel
theorem dX11_live_45 : decode cX11_live 45 = .ok (.aload_n 0, 1) := by decide +kernel
theorem dX11_live_46 : decode cX11_live 46 = .ok (.getfield 58, 3) := by decide +kernel
theorem dX11_live_49 : decode cX11_live 49 = .ok (.getfield 193, 3) := by decide +kernel
theorem dX11_live_52 : decode cX11_live 52 = .ok (.iload_n 1, 1) := by decide +kernel
theorem dX11_live_53 : decode cX11_live 53 = .ok (.invokevirtual 364, 3) := by decide +kernel
theorem dX11_live_56 : decode cX11_live 56 = .ok (.aload_n 0, 1) := by decide +kernel
theorem dX11_live_57 : decode cX11_live 57 = .ok (.getfield 82, 3) := by decide +kernel
theorem dX11_live_60 : decode cX11_live 60 = .ok (.aload_n 0, 1) := by decide +kernel
theorem dX11_live_61 : decode cX11_live 61 = .ok (.getfield 86, 3) := by decide +kernel
theorem dX11_live_64 : decode cX11_live 64 = .ok (.invokevirtual 368, 3) := by decide +kernel
theorem dX11_live_67 : decode cX11_live 67 = .ok (.aload_n 0, 1) := by decide +kernel
theorem dX11_live_68 : decode cX11_live 68 = .ok (.iconst 1, 1) := by decide +kernel
theorem dX11_live_69 : decode cX11_live 69 = .ok (.putfield 90, 3) := by decide +kernel
theorem dX11_live_72 : decode cX11_live 72 = .ok (.aload_n 0, 1) := by decide +kernel
theorem dX11_live_73 : decode cX11_live 73 = .ok (.aload_n 0, 1) := by decide +kernel
theorem dX11_live_74 : decode cX11_live 74 = .ok (.getfield 82, 3) := by decide +kernel
theorem dX11_live_77 : decode cX11_live 77 = .ok (.getfield 372, 3) := by decide +kernel
theorem dX11_live_80 : decode cX11_live 80 = .ok (.invokevirtual 105, 3) := by decide +kernel
theorem dX11_live_83 : decode cX11_live 83 = .ok (.ireturn, 1) := by decide +kernel
theorem dX11_lived_0 : decode cX11_lived 0 = .ok (.iload_n 1, 1) := by decide +kernel
theorem dX11_lived_1 : decode cX11_lived 1 = .ok (.ifCond .lt 8, 3) := by decide +kernel
theorem dX11_lived_4 : decode cX11_lived 4 = .ok (.iload_n 1, 1) := by decide +kernel
theorem dX11_lived_5 : decode cX11_lived 5 = .ok (.iconst 5, 1) := by decide +kernel
theorem dX11_lived_6 : decode cX11_lived 6 = .ok (.if_icmp .lt 9, 3) := by decide +kernel
theorem dX11_lived_9 : decode cX11_lived 9 = .ok (.aload_n 0, 1) := by decide +kernel
theorem dX11_lived_10 : decode cX11_lived 10 = .ok (.iconst 5, 1) := by decide +kernel
theorem dX11_lived_11 : decode cX11_lived 11 = .ok (.invokevirtual 101, 3) := by decide +kernel
theorem dX11_lived_14 : decode cX11_lived 14 = .ok (.ireturn, 1) := by decide +kernel
theorem dX11_lived_15 : decode cX11_lived 15 = .ok (.aload_n 0, 1) := by decide +kernel
theorem dX11_lived_16 : decode cX11_lived 16 = .ok (.getfield 90, 3) := by decide +kernel
theorem dX11_lived_19 : decode cX11_lived 19 = .ok (.ifCond .eq 16, 3) := by decide +kernel
theorem dX11_lived_22 : decode cX11_lived 22 = .ok (.aload_n 0, 1) := by decide +kernel
theorem dX11_lived_23 : decode cX11_lived 23 = .ok (.aload_n 0, 1) := by decide +kernel
theorem dX11_lived_24 : decode cX11_lived 24 = .ok (.getfield 86, 3) := by decide +kernel
theorem dX11_lived_27 : decode cX11_lived 27 = .ok (.iload_n 1, 1) := by decide +kernel
theorem dX11_lived_28 : decode cX11_lived 28 = .ok (.iaload, 1) := by decide +kernel
theorem dX11_lived_29 : decode cX11_lived 29 = .ok (.invokevirtual 105, 3) := by decide +kernel
theorem dX11_lived_32 : decode cX11_lived 32 = .ok (.goto 9, 3) := by decide +kernel
theorem dX11_lived_35 : decode cX11_lived 35 = .ok (.aload_n 0, 1) := by decide +kernel
theorem dX11_lived_36 : decode cX11_lived 36 = .ok (.bipush 8, 2) := by decide +kernel
theorem dX11_lived_38 : decode cX11_lived 38 = .ok (.invokevirtual 101, 3) := by decide +kernel
theorem dX11_lived_41 : decode cX11_lived 41 = .ok (.ireturn, 1) := by decide +kernel
theorem dX11_mean_0 : decode cX11_mean 0 = .ok (.aload_n 0, 1) := by decide +kernel
theorem dX11_mean_1 : decode cX11_mean 1 = .ok (.getfield 58, 3) := by decide +kernel
theorem dX11_mean_4 : decode cX11_mean 4 = .ok (.iload_n 1, 1) := by decide +kernel
theorem dX11_mean_5 : decode cX11_mean 5 = .ok (.invokevirtual 224, 3) := by decide +kernel
theorem dX11_mean_8 : decode cX11_mean 8 = .ok (.ifCond .ne 9, 3) := by decide +kernel
theorem dX11_mean_11 : decode cX11_mean 11 = .ok (.aload_n 0, 1) := by decide +kernel
theorem dX11_mean_12 : decode cX11_mean 12 = .ok (.iconst 2, 1) := by decide +kernel
theorem dX11_mean_13 : decode cX11_mean 13 = .ok (.invokevirtual 112, 3) := by decide +kernel
theorem dX11_mean_16 : decode cX11_mean 16 = .ok (.ireturn, 1) := by decide +kernel
theorem dX11_mean_17 : decode cX11_mean 17 = .ok (.iload_n 2, 1) := by decide +kernel
theorem dX11_mean_18 : decode cX11_mean 18 = .ok (.ifCond .lt 25, 3) := by decide +kernel
theorem dX11_mean_21 : decode cX11_mean 21 = .ok (.iload_n 2, 1) := by decide +kernel
theorem dX11_mean_22 : decode cX11_mean 22 = .ok (.sipush 9999, 3) := by decide +kernel
theorem dX11_mean_25 : decode cX11_mean 25 = .ok (.if_icmp .gt 18, 3) := by decide +kernel
theorem dX11_mean_28 : decode cX11_mean 28 = .ok (.iload_n 3, 1) := by decide +kernel
theorem dX11_mean_29 : decode cX11_mean 29 = .ok (.iconst 1, 1) := by decide +kernel
theorem dX11_mean_30 : decode cX11_mean 30 = .ok (.if_icmp .lt 13, 3) := by decide +kernel
theorem dX11_mean_33 : decode cX11_mean 33 = .ok (.iload_n 3, 1) := by decide +kernel
theorem dX11_mean_34 : decode cX11_mean 34 = .ok (.bipush 20, 2) := by decide +kernel
theorem dX11_mean_36 : decode cX11_mean 36 = .ok (.if_icmp .gt 7, 3) := by decide +kernel
theorem dX11_mean_39 : decode cX11_mean 39 = .ok (.iconst 1, 1) := by decide +kernel
theorem dX11_mean_40 : decode cX11_mean 40 = .ok (.goto 4, 3) := by decide +kernel
theorem dX11_mean_43 : decode cX11_mean 43 = .ok (.iconst 0, 1) := by decide +kernel
theorem dX11_mean_44 : decode cX11_mean 44 = .ok (.istore 4, 2) := by decide +kernel
theorem dX11_mean_46 : decode cX11_mean 46 = .ok (.iload 4, 2) := by decide +kernel
theorem dX11_mean_48 : decode cX11_mean 48 = .ok (.ifCond .eq 14, 3) := by decide +kernel
theorem dX11_mean_51 : decode cX11_mean 51 = .ok (.iload_n 2, 1) := by decide +kernel
theorem dX11_mean_52 : decode cX11_mean 52 = .ok (.iload_n 3, 1) := by decide +kernel
theorem dX11_mean_53 : decode cX11_mean 53 = .ok (.iadd, 1) := by decide +kernel
theorem dX11_mean_54 : decode cX11_mean 54 = .ok (.iconst 1, 1) := by decide +kernel
theorem dX11_mean_55 : decode cX11_mean 55 = .ok (.isub, 1) := by decide +kernel
theorem dX11_mean_56 : decode cX11_mean 56 = .ok (.sipush 9999, 3) := by decide +kernel
theorem dX11_mean_59 : decode cX11_mean 59 = .ok (.if_icmp .le 9, 3) := by decide +kernel
theorem dX11_mean_62 : decode cX11_mean 62 = .ok (.aload_n 0, 1) := by decide +kernel
theorem dX11_mean_63 : decode cX11_mean 63 = .ok (.iconst 5, 1) := by decide +kernel
theorem dX11_mean_64 : decode cX11_mean 64 = .ok (.invokevirtual 112, 3) := by decide +kernel
theorem dX11_mean_67 : decode cX11_mean 67 = .ok (.ireturn, 1) := by decide +kernel
theorem dX11_mean_68 : decode cX11_mean 68 = .ok (.aload_n 0, 1) := by decide +kernel
theorem dX11_mean_69 : decode cX11_mean 69 = .ok (.getfield 58, 3) := by decide +kernel
theorem dX11_mean_72 : decode cX11_mean 72 = .ok (.getfield 172, 3) := by decide +kernel
theorem dX11_mean_75 : decode cX11_mean 75 = .ok (.getfield 361, 3) := by decide +kernel
theorem dX11_mean_78 : decode cX11_mean 78 = .ok (.ifCond .ne 10, 3) := by decide +kernel
theorem dX11_mean_81 : decode cX11_mean 81 = .ok (.aload_n 0, 1) := by decide +kernel
theorem dX11_mean_82 : decode cX11_mean 82 = .ok (.bipush 8, 2) := by decide +kernel
theorem dX11_mean_84 : decode cX11_mean 84 = .ok (.invokevirtual 112, 3) := by decide +kernel
theorem dX11_mean_87 : decode cX11_mean 87 = .ok (.ireturn, 1) := by decide +kernel
theorem dX11_mean_88 : decode cX11_mean 88 = .ok (.iconst 0, 1) := by decide +kernel
theorem dX11_mean_89 : decode cX11_mean 89 = .ok (.istore 5, 2) := by decide +kernel
theorem dX11_mean_91 : decode cX11_mean 91 = .ok (.iconst 0, 1) := by decide +kernel
theorem dX11_mean_92 : decode cX11_mean 92 = .ok (.istore 6, 2) := by decide +kernel
theorem dX11_mean_94 : decode cX11_mean 94 = .ok (.iload 6, 2) := by decide +kernel
theorem dX11_mean_96 : decode cX11_mean 96 = .ok (.iload_n 3, 1) := by decide +kernel
theorem dX11_mean_97 : decode cX11_mean 97 = .ok (.if_icmp .ge 54, 3) := by decide +kernel
theorem dX11_mean_100 : decode cX11_mean 100 = .ok (.aload_n 0, 1) := by decide +kernel
theorem dX11_mean_101 : decode cX11_mean 101 = .ok (.getfield 82, 3) := by decide +kernel
theorem dX11_mean_104 : decode cX11_mean 104 = .ok (.aload_n 0, 1) := by decide +kernel
theorem dX11_mean_105 : decode cX11_mean 105 = .ok (.getfield 58, 3) := by decide +kernel
theorem dX11_mean_108 : decode cX11_mean 108 = .ok (.invokevirtual 373, 3) := by decide +kernel
theorem dX11_mean_111 : decode cX11_mean 111 = .ok (.astore 7, 2) := by decide +kernel
theorem dX11_mean_113 : decode cX11_mean 113 = .ok (.aload_n 0, 1) := by decide +kernel
theorem dX11_mean_114 : decode cX11_mean 114 = .ok (.getfield 82, 3) := by decide +kernel
theorem dX11_mean_117 : decode cX11_mean 117 = .ok (.aload_n 0, 1) := by decide +kernel
theorem dX11_mean_118 : decode cX11_mean 118 = .ok (.getfield 58, 3) := by decide +kernel
theorem dX11_mean_121 : decode cX11_mean 121 = .ok (.aload 7, 2) := by decide +kernel
theorem dX11_mean_123 : decode cX11_mean 123 = .ok (.iload_n 2, 1) := by decide +kernel
theorem dX11_mean_124 : decode cX11_mean 124 = .ok (.iload 6, 2) := by decide +kernel
theorem dX11_mean_126 : decode cX11_mean 126 = .ok (.iadd, 1) := by decide +kernel
theorem dX11_mean_127 : decode cX11_mean 127 = .ok (.invokevirtual 364, 3) := by decide +kernel
theorem dX11_mean_130 : decode cX11_mean 130 = .ok (.iload 5, 2) := by decide +kernel
theorem dX11_mean_132 : decode cX11_mean 132 = .ok (.aload 7, 2) := by decide +kernel
theorem dX11_mean_134 : decode cX11_mean 134 = .ok (.getfield 240, 3) := by decide +kernel
theorem dX11_mean_137 : decode cX11_mean 137 = .ok (.iload_n 1, 1) := by decide +kernel
theorem dX11_mean_138 : decode cX11_mean 138 = .ok (.iaload, 1) := by decide +kernel
theorem dX11_mean_139 : decode cX11_mean 139 = .ok (.invokestatic 329, 3) := by decide +kernel
theorem dX11_mean_142 : decode cX11_mean 142 = .ok (.iadd, 1) := by decide +kernel
theorem dX11_mean_143 : decode cX11_mean 143 = .ok (.istore 5, 2) := by decide +kernel
theorem dX11_mean_145 : decode cX11_mean 145 = .ok (.iinc 6 1, 3) := by decide +kernel
theorem dX11_mean_148 : decode cX11_mean 148 = .ok (.goto (-54), 3) := by decide +kernel
theorem dX11_mean_151 : decode cX11_mean 151 = .ok (.aload_n 0, 1) := by decide +kernel
theorem dX11_mean_152 : decode cX11_mean 152 = .ok (.getfield 30, 3) := by decide +kernel
theorem dX11_mean_155 : decode cX11_mean 155 = .ok (.iload 5, 2) := by decide +kernel
theorem dX11_mean_157 : decode cX11_mean 157 = .ok (.i2l, 1) := by decide +kernel
theorem dX11_mean_158 : decode cX11_mean 158 = .ok (.iload_n 3, 1) := by decide +kernel
theorem dX11_mean_159 : decode cX11_mean 159 = .ok (.i2l, 1) := by decide +kernel
theorem dX11_mean_160 : decode cX11_mean 160 = .ok (.invokevirtual 377, 3) := by decide +kernel
theorem dX11_mean_163 : decode cX11_mean 163 = .ok (.aload_n 0, 1) := by decide +kernel
theorem dX11_mean_164 : decode cX11_mean 164 = .ok (.invokevirtual 119, 3) := by decide +kernel
theorem dX11_mean_167 : decode cX11_mean 167 = .ok (.ireturn, 1) := by decide +kernel
theorem dX11_mark_0 : decode cX11_mark 0 = .ok (.aload_n 0, 1) := by decide +kernel
theorem dX11_mark_1 : decode cX11_mark 1 = .ok (.getfield 69, 3) := by decide +kernel
theorem dX11_mark_4 : decode cX11_mark 4 = .ok (.iconst 3, 1) := by decide +kernel
theorem dX11_mark_5 : decode cX11_mark 5 = .ok (.if_icmp .lt 10, 3) := by decide +kernel
theorem dX11_mark_8 : decode cX11_mark 8 = .ok (.aload_n 0, 1) := by decide +kernel
theorem dX11_mark_9 : decode cX11_mark 9 = .ok (.bipush 7, 2) := by decide +kernel
theorem dX11_mark_11 : decode cX11_mark 11 = .ok (.invokevirtual 101, 3) := by decide +kernel
theorem dX11_mark_14 : decode cX11_mark 14 = .ok (.ireturn, 1) := by decide +kernel
theorem dX11_mark_15 : decode cX11_mark 15 = .ok (.aload_n 0, 1) := by decide +kernel
theorem dX11_mark_16 : decode cX11_mark 16 = .ok (.getfield 65, 3) := by decide +kernel
theorem dX11_mark_19 : decode cX11_mark 19 = .ok (.aload_n 0, 1) := by decide +kernel
theorem dX11_mark_20 : decode cX11_mark 20 = .ok (.getfield 69, 3) := by decide +kernel
theorem dX11_mark_23 : decode cX11_mark 23 = .ok (.aaload, 1) := by decide +kernel
theorem dX11_mark_24 : decode cX11_mark 24 = .ok (.aload_n 0, 1) := by decide +kernel
theorem dX11_mark_25 : decode cX11_mark 25 = .ok (.getfield 58, 3) := by decide +kernel
theorem dX11_mark_28 : decode cX11_mark 28 = .ok (.invokevirtual 165, 3) := by decide +kernel
theorem dX11_mark_31 : decode cX11_mark 31 = .ok (.aload_n 0, 1) := by decide +kernel
theorem dX11_mark_32 : decode cX11_mark 32 = .ok (.dup, 1) := by decide +kernel
theorem dX11_mark_33 : decode cX11_mark 33 = .ok (.getfield 69, 3) := by decide +kernel
theorem dX11_mark_36 : decode cX11_mark 36 = .ok (.iconst 1, 1) := by decide +kernel
theorem dX11_mark_37 : decode cX11_mark 37 = .ok (.iadd, 1) := by decide +kernel
theorem dX11_mark_38 : decode cX11_mark 38 = .ok (.putfield 69, 3) := by decide +kernel
theorem dX11_mark_41 : decode cX11_mark 41 = .ok (.aload_n 0, 1) := by decide +kernel
theorem dX11_mark_42 : decode cX11_mark 42 = .ok (.aload_n 0, 1) := by decide +kernel
theorem dX11_mark_43 : decode cX11_mark 43 = .ok (.getfield 69, 3) := by decide +kernel
theorem dX11_mark_46 : decode cX11_mark 46 = .ok (.invokevirtual 105, 3) := by decide +kernel
theorem dX11_mark_49 : decode cX11_mark 49 = .ok (.ireturn, 1) := by decide +kernel
theorem dX11_back_0 : decode cX11_back 0 = .ok (.aload_n 0, 1) := by decide +kernel
theorem dX11_back_1 : decode cX11_back 1 = .ok (.getfield 69, 3) := by decide +kernel
theorem dX11_back_4 : decode cX11_back 4 = .ok (.ifCond .gt 10, 3) := by decide +kernel
theorem dX11_back_7 : decode cX11_back 7 = .ok (.aload_n 0, 1) := by decide +kernel
theorem dX11_back_8 : decode cX11_back 8 = .ok (.bipush 8, 2) := by decide +kernel
theorem dX11_back_10 : decode cX11_back 10 = .ok (.invokevirtual 101, 3) := by decide +kernel
theorem dX11_back_13 : decode cX11_back 13 = .ok (.ireturn, 1) := by decide +kernel
theorem dX11_back_14 : decode cX11_back 14 = .ok (.aload_n 0, 1) := by decide +kernel
theorem dX11_back_15 : decode cX11_back 15 = .ok (.dup, 1) := by decide +kernel
theorem dX11_back_16 : decode cX11_back 16 = .ok (.getfield 69, 3) := by decide +kernel
theorem dX11_back_19 : decode cX11_back 19 = .ok (.iconst 1, 1) := by decide +kernel
theorem dX11_back_20 : decode cX11_back 20 = .ok (.isub, 1) := by decide +kernel
theorem dX11_back_21 : decode cX11_back 21 = .ok (.putfield 69, 3) := by decide +kernel
theorem dX11_back_24 : decode cX11_back 24 = .ok (.aload_n 0, 1) := by decide +kernel
theorem dX11_back_25 : decode cX11_back 25 = .ok (.getfield 58, 3) := by decide +kernel
theorem dX11_back_28 : decode cX11_back 28 = .ok (.aload_n 0, 1) := by decide +kernel
theorem dX11_back_29 : decode cX11_back 29 = .ok (.getfield 65, 3) := by decide +kernel
theorem dX11_back_32 : decode cX11_back 32 = .ok (.aload_n 0, 1) := by decide +kernel
theorem dX11_back_33 : decode cX11_back 33 = .ok (.getfield 69, 3) := by decide +kernel
theorem dX11_back_36 : decode cX11_back 36 = .ok (.aaload, 1) := by decide +kernel
theorem dX11_back_37 : decode cX11_back 37 = .ok (.invokevirtual 165, 3) := by decide +kernel
theorem dX11_back_40 : decode cX11_back 40 = .ok (.aload_n 0, 1) := by decide +kernel
theorem dX11_back_41 : decode cX11_back 41 = .ok (.aload_n 0, 1) := by decide +kernel
theorem dX11_back_42 : decode cX11_back 42 = .ok (.getfield 69, 3) := by decide +kernel
theorem dX11_back_45 : decode cX11_back 45 = .ok (.invokevirtual 105, 3) := by decide +kernel
theorem dX11_back_48 : decode cX11_back 48 = .ok (.ireturn, 1) := by decide +kernel
theorem dJ6_bitCount_0f7a4_0 : decode cJ6_bitCount_0f7a4 0 = .ok (.iload_n 0, 1) := by decide +kernel
theorem dJ6_bitCount_0f7a4_1 : decode cJ6_bitCount_0f7a4 1 = .ok (.iload_n 0, 1) := by decide +kernel
theorem dJ6_bitCount_0f7a4_2 : decode cJ6_bitCount_0f7a4 2 = .ok (.iconst 1, 1) := by decide +kernel
theorem dJ6_bitCount_0f7a4_3 : decode cJ6_bitCount_0f7a4 3 = .ok (.iushr, 1) := by decide +kernel
theorem dJ6_bitCount_0f7a4_4 : decode cJ6_bitCount_0f7a4 4 = .ok (.ldc_w 265, 3) := by decide +kernel
theorem dJ6_bitCount_0f7a4_7 : decode cJ6_bitCount_0f7a4 7 = .ok (.iand, 1) := by decide +kernel
theorem dJ6_bitCount_0f7a4_8 : decode cJ6_bitCount_0f7a4 8 = .ok (.isub, 1) := by decide +kernel
theorem dJ6_bitCount_0f7a4_9 : decode cJ6_bitCount_0f7a4 9 = .ok (.istore_n 0, 1) := by decide +kernel
theorem dJ6_bitCount_0f7a4_10 : decode cJ6_bitCount_0f7a4 10 = .ok (.iload_n 0, 1) := by decide +kernel
theorem dJ6_bitCount_0f7a4_11 : decode cJ6_bitCount_0f7a4 11 = .ok (.ldc_w 266, 3) := by decide +kernel
theorem dJ6_bitCount_0f7a4_14 : decode cJ6_bitCount_0f7a4 14 = .ok (.iand, 1) := by decide +kernel
theorem dJ6_bitCount_0f7a4_15 : decode cJ6_bitCount_0f7a4 15 = .ok (.iload_n 0, 1) := by decide +kernel
theorem dJ6_bitCount_0f7a4_16 : decode cJ6_bitCount_0f7a4 16 = .ok (.iconst 2, 1) := by decide +kernel
theorem dJ6_bitCount_0f7a4_17 : decode cJ6_bitCount_0f7a4 17 = .ok (.iushr, 1) := by decide +kernel
theorem dJ6_bitCount_0f7a4_18 : decode cJ6_bitCount_0f7a4 18 = .ok (.ldc_w 266, 3) := by decide +kernel
theorem dJ6_bitCount_0f7a4_21 : decode cJ6_bitCount_0f7a4 21 = .ok (.iand, 1) := by decide +kernel
theorem dJ6_bitCount_0f7a4_22 : decode cJ6_bitCount_0f7a4 22 = .ok (.iadd, 1) := by decide +kernel
theorem dJ6_bitCount_0f7a4_23 : decode cJ6_bitCount_0f7a4 23 = .ok (.istore_n 0, 1) := by decide +kernel
theorem dJ6_bitCount_0f7a4_24 : decode cJ6_bitCount_0f7a4 24 = .ok (.iload_n 0, 1) := by decide +kernel
theorem dJ6_bitCount_0f7a4_25 : decode cJ6_bitCount_0f7a4 25 = .ok (.iload_n 0, 1) := by decide +kernel
theorem dJ6_bitCount_0f7a4_26 : decode cJ6_bitCount_0f7a4 26 = .ok (.iconst 4, 1) := by decide +kernel
theorem dJ6_bitCount_0f7a4_27 : decode cJ6_bitCount_0f7a4 27 = .ok (.iushr, 1) := by decide +kernel
theorem dJ6_bitCount_0f7a4_28 : decode cJ6_bitCount_0f7a4 28 = .ok (.iadd, 1) := by decide +kernel
theorem dJ6_bitCount_0f7a4_29 : decode cJ6_bitCount_0f7a4 29 = .ok (.ldc_w 267, 3) := by decide +kernel
theorem dJ6_bitCount_0f7a4_32 : decode cJ6_bitCount_0f7a4 32 = .ok (.iand, 1) := by decide +kernel
theorem dJ6_bitCount_0f7a4_33 : decode cJ6_bitCount_0f7a4 33 = .ok (.istore_n 0, 1) := by decide +kernel
theorem dJ6_bitCount_0f7a4_34 : decode cJ6_bitCount_0f7a4 34 = .ok (.iload_n 0, 1) := by decide +kernel
theorem dJ6_bitCount_0f7a4_35 : decode cJ6_bitCount_0f7a4 35 = .ok (.iload_n 0, 1) := by decide +kernel
theorem dJ6_bitCount_0f7a4_36 : decode cJ6_bitCount_0f7a4 36 = .ok (.bipush 8, 2) := by decide +kernel
theorem dJ6_bitCount_0f7a4_38 : decode cJ6_bitCount_0f7a4 38 = .ok (.iushr, 1) := by decide +kernel
theorem dJ6_bitCount_0f7a4_39 : decode cJ6_bitCount_0f7a4 39 = .ok (.iadd, 1) := by decide +kernel
theorem dJ6_bitCount_0f7a4_40 : decode cJ6_bitCount_0f7a4 40 = .ok (.istore_n 0, 1) := by decide +kernel
theorem dJ6_bitCount_0f7a4_41 : decode cJ6_bitCount_0f7a4 41 = .ok (.iload_n 0, 1) := by decide +kernel
theorem dJ6_bitCount_0f7a4_42 : decode cJ6_bitCount_0f7a4 42 = .ok (.iload_n 0, 1) := by decide +kernel
theorem dJ6_bitCount_0f7a4_43 : decode cJ6_bitCount_0f7a4 43 = .ok (.bipush 16, 2) := by decide +kernel
theorem dJ6_bitCount_0f7a4_45 : decode cJ6_bitCount_0f7a4 45 = .ok (.iushr, 1) := by decide +kernel
theorem dJ6_bitCount_0f7a4_46 : decode cJ6_bitCount_0f7a4 46 = .ok (.iadd, 1) := by decide +kernel
theorem dJ6_bitCount_0f7a4_47 : decode cJ6_bitCount_0f7a4 47 = .ok (.istore_n 0, 1) := by decide +kernel
theorem dJ6_bitCount_0f7a4_48 : decode cJ6_bitCount_0f7a4 48 = .ok (.iload_n 0, 1) := by decide +kernel
theorem dJ6_bitCount_0f7a4_49 : decode cJ6_bitCount_0f7a4 49 = .ok (.bipush 63, 2) := by decide +kernel
theorem dJ6_bitCount_0f7a4_51 : decode cJ6_bitCount_0f7a4 51 = .ok (.iand, 1) := by decide +kernel
theorem dJ6_bitCount_0f7a4_52 : decode cJ6_bitCount_0f7a4 52 = .ok (.ireturn, 1) := by decide +kernel
theorem dJ9_abs_067f4_0 : decode cJ9_abs_067f4 0 = .ok (.lload_n 0, 1) := by decide +kernel
theorem dJ9_abs_067f4_1 : decode cJ9_abs_067f4 1 = .ok (.lconst 0, 1) := by decide +kernel
theorem dJ9_abs_067f4_2 : decode cJ9_abs_067f4 2 = .ok (.lcmp, 1) := by decide +kernel
theorem dJ9_abs_067f4_3 : decode cJ9_abs_067f4 3 = .ok (.ifCond .ge 8, 3) := by decide +kernel
theorem dJ9_abs_067f4_6 : decode cJ9_abs_067f4 6 = .ok (.lload_n 0, 1) := by decide +kernel
theorem dJ9_abs_067f4_7 : decode cJ9_abs_067f4 7 = .ok (.lneg, 1) := by decide +kernel
theorem dJ9_abs_067f4_8 : decode cJ9_abs_067f4 8 = .ok (.goto 4, 3) := by decide +kernel
theorem dJ9_abs_067f4_11 : decode cJ9_abs_067f4 11 = .ok (.lload_n 0, 1) := by decide +kernel
theorem dJ9_abs_067f4_12 : decode cJ9_abs_067f4 12 = .ok (.lreturn, 1) := by decide +kernel
theorem dJ9_max_7cf53_0 : decode cJ9_max_7cf53 0 = .ok (.iload_n 0, 1) := by decide +kernel
theorem dJ9_max_7cf53_1 : decode cJ9_max_7cf53 1 = .ok (.iload_n 1, 1) := by decide +kernel
theorem dJ9_max_7cf53_2 : decode cJ9_max_7cf53 2 = .ok (.if_icmp .lt 7, 3) := by decide +kernel
theorem dJ9_max_7cf53_5 : decode cJ9_max_7cf53 5 = .ok (.iload_n 0, 1) := by decide +kernel
theorem dJ9_max_7cf53_6 : decode cJ9_max_7cf53 6 = .ok (.goto 4, 3) := by decide +kernel
theorem dJ9_max_7cf53_9 : decode cJ9_max_7cf53 9 = .ok (.iload_n 1, 1) := by decide +kernel
theorem dJ9_max_7cf53_10 : decode cJ9_max_7cf53 10 = .ok (.ireturn, 1) := by decide +kernel
theorem dJ9_min_7cf53_0 : decode cJ9_min_7cf53 0 = .ok (.iload_n 0, 1) := by decide +kernel
theorem dJ9_min_7cf53_1 : decode cJ9_min_7cf53 1 = .ok (.iload_n 1, 1) := by decide +kernel
theorem dJ9_min_7cf53_2 : decode cJ9_min_7cf53 2 = .ok (.if_icmp .gt 7, 3) := by decide +kernel
theorem dJ9_min_7cf53_5 : decode cJ9_min_7cf53 5 = .ok (.iload_n 0, 1) := by decide +kernel
theorem dJ9_min_7cf53_6 : decode cJ9_min_7cf53 6 = .ok (.goto 4, 3) := by decide +kernel
theorem dJ9_min_7cf53_9 : decode cJ9_min_7cf53 9 = .ok (.iload_n 1, 1) := by decide +kernel
theorem dJ9_min_7cf53_10 : decode cJ9_min_7cf53 10 = .ok (.ireturn, 1) := by decide +kernel
theorem dJ0_length_8abf5_0 : decode cJ0_length_8abf5 0 = .ok (.aload_n 0, 1) := by decide +kernel
theorem dJ0_length_8abf5_1 : decode cJ0_length_8abf5 1 = .ok (.getfield 9, 3) := by decide +kernel
theorem dJ0_length_8abf5_4 : decode cJ0_length_8abf5 4 = .ok (.arraylength, 1) := by decide +kernel
theorem dJ0_length_8abf5_5 : decode cJ0_length_8abf5 5 = .ok (.aload_n 0, 1) := by decide +kernel
theorem dJ0_length_8abf5_6 : decode cJ0_length_8abf5 6 = .ok (.invokevirtual 335, 3) := by decide +kernel
theorem dJ0_length_8abf5_9 : decode cJ0_length_8abf5 9 = .ok (.ishr, 1) := by decide +kernel
theorem dJ0_length_8abf5_10 : decode cJ0_length_8abf5 10 = .ok (.ireturn, 1) := by decide +kernel
theorem dJ0_charAt_5068e_0 : decode cJ0_charAt_5068e 0 = .ok (.aload_n 0, 1) := by decide +kernel
theorem dJ0_charAt_5068e_1 : decode cJ0_charAt_5068e 1 = .ok (.invokevirtual 492, 3) := by decide +kernel
theorem dJ0_charAt_5068e_4 : decode cJ0_charAt_5068e 4 = .ok (.ifCond .eq 12, 3) := by decide +kernel
theorem dJ0_charAt_5068e_7 : decode cJ0_charAt_5068e 7 = .ok (.aload_n 0, 1) := by decide +kernel
theorem dJ0_charAt_5068e_8 : decode cJ0_charAt_5068e 8 = .ok (.getfield 9, 3) := by decide +kernel
theorem dJ0_charAt_5068e_11 : decode cJ0_charAt_5068e 11 = .ok (.iload_n 1, 1) := by decide +kernel
theorem dJ0_charAt_5068e_12 : decode cJ0_charAt_5068e 12 = .ok (.invokestatic 495, 3) := by decide +kernel
theorem dJ0_charAt_5068e_15 : decode cJ0_charAt_5068e 15 = .ok (.ireturn, 1) := by decide +kernel
theorem dJ0_charAt_5068e_16 : decode cJ0_charAt_5068e 16 = .ok (.aload_n 0, 1) := by decide +kernel
theorem dJ0_charAt_5068e_17 : decode cJ0_charAt_5068e 17 = .ok (.getfield 9, 3) := by decide +kernel
theorem dJ0_charAt_5068e_20 : decode cJ0_charAt_5068e 20 = .ok (.iload_n 1, 1) := by decide +kernel
theorem dJ0_charAt_5068e_21 : decode cJ0_charAt_5068e 21 = .ok (.invokestatic 498, 3) := by decide +kernel
theorem dJ0_charAt_5068e_24 : decode cJ0_charAt_5068e 24 = .ok (.ireturn, 1) := by decide +kernel
theorem dJ0_coder_7d493_0 : decode cJ0_coder_7d493 0 = .ok (.getstatic 38, 3) := by decide +kernel
theorem dJ0_coder_7d493_3 : decode cJ0_coder_7d493 3 = .ok (.ifCond .eq 10, 3) := by decide +kernel
theorem dJ0_coder_7d493_6 : decode cJ0_coder_7d493 6 = .ok (.aload_n 0, 1) := by decide +kernel
theorem dJ0_coder_7d493_7 : decode cJ0_coder_7d493 7 = .ok (.getfield 15, 3) := by decide +kernel
theorem dJ0_coder_7d493_10 : decode cJ0_coder_7d493 10 = .ok (.goto 4, 3) := by decide +kernel
theorem dJ0_coder_7d493_13 : decode cJ0_coder_7d493 13 = .ok (.iconst 1, 1) := by decide +kernel
theorem dJ0_coder_7d493_14 : decode cJ0_coder_7d493 14 = .ok (.ireturn, 1) := by decide +kernel
theorem dJ0_isLatin1_aae02_0 : decode cJ0_isLatin1_aae02 0 = .ok (.getstatic 38, 3) := by decide +kernel
theorem dJ0_isLatin1_aae02_3 : decode cJ0_isLatin1_aae02 3 = .ok (.ifCond .eq 14, 3) := by decide +kernel
theorem dJ0_isLatin1_aae02_6 : decode cJ0_isLatin1_aae02 6 = .ok (.aload_n 0, 1) := by decide +kernel
theorem dJ0_isLatin1_aae02_7 : decode cJ0_isLatin1_aae02 7 = .ok (.getfield 15, 3) := by decide +kernel
theorem dJ0_isLatin1_aae02_10 : decode cJ0_isLatin1_aae02 10 = .ok (.ifCond .ne 7, 3) := by decide +kernel
theorem dJ0_isLatin1_aae02_13 : decode cJ0_isLatin1_aae02 13 = .ok (.iconst 1, 1) := by decide +kernel
theorem dJ0_isLatin1_aae02_14 : decode cJ0_isLatin1_aae02 14 = .ok (.goto 4, 3) := by decide +kernel
theorem dJ0_isLatin1_aae02_17 : decode cJ0_isLatin1_aae02 17 = .ok (.iconst 0, 1) := by decide +kernel
theorem dJ0_isLatin1_aae02_18 : decode cJ0_isLatin1_aae02 18 = .ok (.ireturn, 1) := by decide +kernel
theorem dJ0_checkIndex_df160_0 : decode cJ0_checkIndex_df160 0 = .ok (.iload_n 0, 1) := by decide +kernel
theorem dJ0_checkIndex_df160_1 : decode cJ0_checkIndex_df160 1 = .ok (.iload_n 1, 1) := by decide +kernel
theorem dJ0_checkIndex_df160_2 : decode cJ0_checkIndex_df160 2 = .ok (.getstatic 1053, 3) := by decide +kernel
theorem dJ0_checkIndex_df160_5 : decode cJ0_checkIndex_df160 5 = .ok (.invokestatic 1059, 3) := by decide +kernel
theorem dJ0_checkIndex_df160_8 : decode cJ0_checkIndex_df160 8 = .ok (.pop, 1) := by decide +kernel
theorem dJ0_checkIndex_df160_9 : decode cJ0_checkIndex_df160 9 = .ok (.return_, 1) := by decide +kernel
theorem dJ1_charAt_3b067_0 : decode cJ1_charAt_3b067 0 = .ok (.iload_n 1, 1) := by decide +kernel
theorem dJ1_charAt_3b067_1 : decode cJ1_charAt_3b067 1 = .ok (.aload_n 0, 1) := by decide +kernel
theorem dJ1_charAt_3b067_2 : decode cJ1_charAt_3b067 2 = .ok (.arraylength, 1) := by decide +kernel
theorem dJ1_charAt_3b067_3 : decode cJ1_charAt_3b067 3 = .ok (.invokestatic 9, 3) := by decide +kernel
theorem dJ1_charAt_3b067_6 : decode cJ1_charAt_3b067 6 = .ok (.aload_n 0, 1) := by decide +kernel
theorem dJ1_charAt_3b067_7 : decode cJ1_charAt_3b067 7 = .ok (.iload_n 1, 1) := by decide +kernel
theorem dJ1_charAt_3b067_8 : decode cJ1_charAt_3b067 8 = .ok (.baload, 1) := by decide +kernel
theorem dJ1_charAt_3b067_9 : decode cJ1_charAt_3b067 9 = .ok (.sipush 255, 3) := by decide +kernel
theorem dJ1_charAt_3b067_12 : decode cJ1_charAt_3b067 12 = .ok (.iand, 1) := by decide +kernel
theorem dJ1_charAt_3b067_13 : decode cJ1_charAt_3b067 13 = .ok (.i2c, 1) := by decide +kernel
theorem dJ1_charAt_3b067_14 : decode cJ1_charAt_3b067 14 = .ok (.ireturn, 1) := by decide +kernel
theorem dJ2_getChar_3b067_0 : decode cJ2_getChar_3b067 0 = .ok (.getstatic 44, 3) := by decide +kernel
theorem dJ2_getChar_3b067_3 : decode cJ2_getChar_3b067 3 = .ok (.ifCond .ne 25, 3) := by decide +kernel
theorem dJ2_getChar_3b067_6 : decode cJ2_getChar_3b067 6 = .ok (.iload_n 1, 1) := by decide +kernel
theorem dJ2_getChar_3b067_7 : decode cJ2_getChar_3b067 7 = .ok (.ifCond .lt 11, 3) := by decide +kernel
theorem dJ2_getChar_3b067_10 : decode cJ2_getChar_3b067 10 = .ok (.iload_n 1, 1) := by decide +kernel
theorem dJ2_getChar_3b067_11 : decode cJ2_getChar_3b067 11 = .ok (.aload_n 0, 1) := by decide +kernel
theorem dJ2_getChar_3b067_12 : decode cJ2_getChar_3b067 12 = .ok (.invokestatic 48, 3) := by decide +kernel
theorem dJ2_getChar_3b067_15 : decode cJ2_getChar_3b067 15 = .ok (.if_icmp .lt 13, 3) := by decide +kernel
theorem dJ2_getChar_3b067_18 : decode cJ2_getChar_3b067 18 = .ok (.new 52, 3) := by decide +kernel
theorem dJ2_getChar_3b067_21 : decode cJ2_getChar_3b067 21 = .ok (.dup, 1) := by decide +kernel
theorem dJ2_getChar_3b067_22 : decode cJ2_getChar_3b067 22 = .ok (.ldc 54, 2) := by decide +kernel
theorem dJ2_getChar_3b067_24 : decode cJ2_getChar_3b067 24 = .ok (.invokespecial 56, 3) := by decide +kernel
theorem dJ2_getChar_3b067_27 : decode cJ2_getChar_3b067 27 = .ok (.athrow, 1) := by decide +kernel
theorem dJ2_getChar_3b067_28 : decode cJ2_getChar_3b067 28 = .ok (.iload_n 1, 1) := by decide +kernel
theorem dJ2_getChar_3b067_29 : decode cJ2_getChar_3b067 29 = .ok (.iconst 1, 1) := by decide +kernel
theorem dJ2_getChar_3b067_30 : decode cJ2_getChar_3b067 30 = .ok (.ishl, 1) := by decide +kernel
theorem dJ2_getChar_3b067_31 : decode cJ2_getChar_3b067 31 = .ok (.istore_n 1, 1) := by decide +kernel
theorem dJ2_getChar_3b067_32 : decode cJ2_getChar_3b067 32 = .ok (.aload_n 0, 1) := by decide +kernel
theorem dJ2_getChar_3b067_33 : decode cJ2_getChar_3b067 33 = .ok (.iload_n 1, 1) := by decide +kernel
theorem dJ2_getChar_3b067_34 : decode cJ2_getChar_3b067 34 = .ok (.iinc 1 1, 3) := by decide +kernel
theorem dJ2_getChar_3b067_37 : decode cJ2_getChar_3b067 37 = .ok (.baload, 1) := by decide +kernel
theorem dJ2_getChar_3b067_38 : decode cJ2_getChar_3b067 38 = .ok (.sipush 255, 3) := by decide +kernel
theorem dJ2_getChar_3b067_41 : decode cJ2_getChar_3b067 41 = .ok (.iand, 1) := by decide +kernel
theorem dJ2_getChar_3b067_42 : decode cJ2_getChar_3b067 42 = .ok (.getstatic 59, 3) := by decide +kernel
theorem dJ2_getChar_3b067_45 : decode cJ2_getChar_3b067 45 = .ok (.ishl, 1) := by decide +kernel
theorem dJ2_getChar_3b067_46 : decode cJ2_getChar_3b067 46 = .ok (.aload_n 0, 1) := by decide +kernel
theorem dJ2_getChar_3b067_47 : decode cJ2_getChar_3b067 47 = .ok (.iload_n 1, 1) := by decide +kernel
theorem dJ2_getChar_3b067_48 : decode cJ2_getChar_3b067 48 = .ok (.baload, 1) := by decide +kernel
theorem dJ2_getChar_3b067_49 : decode cJ2_getChar_3b067 49 = .ok (.sipush 255, 3) := by decide +kernel
theorem dJ2_getChar_3b067_52 : decode cJ2_getChar_3b067 52 = .ok (.iand, 1) := by decide +kernel
theorem dJ2_getChar_3b067_53 : decode cJ2_getChar_3b067 53 = .ok (.getstatic 63, 3) := by decide +kernel
theorem dJ2_getChar_3b067_56 : decode cJ2_getChar_3b067 56 = .ok (.ishl, 1) := by decide +kernel
theorem dJ2_getChar_3b067_57 : decode cJ2_getChar_3b067 57 = .ok (.ior, 1) := by decide +kernel
theorem dJ2_getChar_3b067_58 : decode cJ2_getChar_3b067 58 = .ok (.i2c, 1) := by decide +kernel
theorem dJ2_getChar_3b067_59 : decode cJ2_getChar_3b067 59 = .ok (.ireturn, 1) := by decide +kernel
theorem dJ2_length_9d52b_0 : decode cJ2_length_9d52b 0 = .ok (.aload_n 0, 1) := by decide +kernel
theorem dJ2_length_9d52b_1 : decode cJ2_length_9d52b 1 = .ok (.arraylength, 1) := by decide +kernel
theorem dJ2_length_9d52b_2 : decode cJ2_length_9d52b 2 = .ok (.iconst 1, 1) := by decide +kernel
theorem dJ2_length_9d52b_3 : decode cJ2_length_9d52b 3 = .ok (.ishr, 1) := by decide +kernel
theorem dJ2_length_9d52b_4 : decode cJ2_length_9d52b 4 = .ok (.ireturn, 1) := by decide +kernel
theorem dJ2_charAt_3b067_0 : decode cJ2_charAt_3b067 0 = .ok (.iload_n 1, 1) := by decide +kernel
theorem dJ2_charAt_3b067_1 : decode cJ2_charAt_3b067 1 = .ok (.aload_n 0, 1) := by decide +kernel
theorem dJ2_charAt_3b067_2 : decode cJ2_charAt_3b067 2 = .ok (.invokestatic 67, 3) := by decide +kernel
theorem dJ2_charAt_3b067_5 : decode cJ2_charAt_3b067 5 = .ok (.aload_n 0, 1) := by decide +kernel
theorem dJ2_charAt_3b067_6 : decode cJ2_charAt_3b067 6 = .ok (.iload_n 1, 1) := by decide +kernel
theorem dJ2_charAt_3b067_7 : decode cJ2_charAt_3b067 7 = .ok (.invokestatic 71, 3) := by decide +kernel
theorem dJ2_charAt_3b067_10 : decode cJ2_charAt_3b067 10 = .ok (.ireturn, 1) := by decide +kernel
theorem dJ2_checkIndex_2214a_0 : decode cJ2_checkIndex_2214a 0 = .ok (.iload_n 0, 1) := by decide +kernel
theorem dJ2_checkIndex_2214a_1 : decode cJ2_checkIndex_2214a 1 = .ok (.aload_n 1, 1) := by decide +kernel
theorem dJ2_checkIndex_2214a_2 : decode cJ2_checkIndex_2214a 2 = .ok (.invokestatic 48, 3) := by decide +kernel
theorem dJ2_checkIndex_2214a_5 : decode cJ2_checkIndex_2214a 5 = .ok (.invokestatic 414, 3) := by decide +kernel
theorem dJ2_checkIndex_2214a_8 : decode cJ2_checkIndex_2214a 8 = .ok (.return_, 1) := by decide +kernel
theorem dJ7_fill_d0a16_0 : decode cJ7_fill_d0a16 0 = .ok (.iconst 0, 1) := by decide +kernel
theorem dJ7_fill_d0a16_1 : decode cJ7_fill_d0a16 1 = .ok (.istore_n 3, 1) := by decide +kernel
theorem dJ7_fill_d0a16_2 : decode cJ7_fill_d0a16 2 = .ok (.aload_n 0, 1) := by decide +kernel
theorem dJ7_fill_d0a16_3 : decode cJ7_fill_d0a16 3 = .ok (.arraylength, 1) := by decide +kernel
theorem dJ7_fill_d0a16_4 : decode cJ7_fill_d0a16 4 = .ok (.istore 4, 2) := by decide +kernel
theorem dJ7_fill_d0a16_6 : decode cJ7_fill_d0a16 6 = .ok (.iload_n 3, 1) := by decide +kernel
theorem dJ7_fill_d0a16_7 : decode cJ7_fill_d0a16 7 = .ok (.iload 4, 2) := by decide +kernel
theorem dJ7_fill_d0a16_9 : decode cJ7_fill_d0a16 9 = .ok (.if_icmp .ge 13, 3) := by decide +kernel
theorem dJ7_fill_d0a16_12 : decode cJ7_fill_d0a16 12 = .ok (.aload_n 0, 1) := by decide +kernel
theorem dJ7_fill_d0a16_13 : decode cJ7_fill_d0a16 13 = .ok (.iload_n 3, 1) := by decide +kernel
theorem dJ7_fill_d0a16_14 : decode cJ7_fill_d0a16 14 = .ok (.lload_n 1, 1) := by decide +kernel
theorem dJ7_fill_d0a16_15 : decode cJ7_fill_d0a16 15 = .ok (.lastore, 1) := by decide +kernel
theorem dJ7_fill_d0a16_16 : decode cJ7_fill_d0a16 16 = .ok (.iinc 3 1, 3) := by decide +kernel
theorem dJ7_fill_d0a16_19 : decode cJ7_fill_d0a16 19 = .ok (.goto (-13), 3) := by decide +kernel
theorem dJ7_fill_d0a16_22 : decode cJ7_fill_d0a16 22 = .ok (.return_, 1) := by decide +kernel
theorem dJ7_fill_53178_0 : decode cJ7_fill_53178 0 = .ok (.iconst 0, 1) := by decide +kernel
theorem dJ7_fill_53178_1 : decode cJ7_fill_53178 1 = .ok (.istore_n 2, 1) := by decide +kernel
theorem dJ7_fill_53178_2 : decode cJ7_fill_53178 2 = .ok (.aload_n 0, 1) := by decide +kernel
theorem dJ7_fill_53178_3 : decode cJ7_fill_53178 3 = .ok (.arraylength, 1) := by decide +kernel
theorem dJ7_fill_53178_4 : decode cJ7_fill_53178 4 = .ok (.istore_n 3, 1) := by decide +kernel
theorem dJ7_fill_53178_5 : decode cJ7_fill_53178 5 = .ok (.iload_n 2, 1) := by decide +kernel
theorem dJ7_fill_53178_6 : decode cJ7_fill_53178 6 = .ok (.iload_n 3, 1) := by decide +kernel
theorem dJ7_fill_53178_7 : decode cJ7_fill_53178 7 = .ok (.if_icmp .ge 13, 3) := by decide +kernel
theorem dJ7_fill_53178_10 : decode cJ7_fill_53178 10 = .ok (.aload_n 0, 1) := by decide +kernel
theorem dJ7_fill_53178_11 : decode cJ7_fill_53178 11 = .ok (.iload_n 2, 1) := by decide +kernel
theorem dJ7_fill_53178_12 : decode cJ7_fill_53178 12 = .ok (.iload_n 1, 1) := by decide +kernel
theorem dJ7_fill_53178_13 : decode cJ7_fill_53178 13 = .ok (.iastore, 1) := by decide +kernel
theorem dJ7_fill_53178_14 : decode cJ7_fill_53178 14 = .ok (.iinc 2 1, 3) := by decide +kernel
theorem dJ7_fill_53178_17 : decode cJ7_fill_53178 17 = .ok (.goto (-12), 3) := by decide +kernel
theorem dJ7_fill_53178_20 : decode cJ7_fill_53178 20 = .ok (.return_, 1) := by decide +kernel
theorem dJ3_checkIndex_8e157_0 : decode cJ3_checkIndex_8e157 0 = .ok (.iload_n 0, 1) := by decide +kernel
theorem dJ3_checkIndex_8e157_1 : decode cJ3_checkIndex_8e157 1 = .ok (.ifCond .lt 8, 3) := by decide +kernel
theorem dJ3_checkIndex_8e157_4 : decode cJ3_checkIndex_8e157 4 = .ok (.iload_n 0, 1) := by decide +kernel
theorem dJ3_checkIndex_8e157_5 : decode cJ3_checkIndex_8e157 5 = .ok (.iload_n 1, 1) := by decide +kernel
theorem dJ3_checkIndex_8e157_6 : decode cJ3_checkIndex_8e157 6 = .ok (.if_icmp .lt 10, 3) := by decide +kernel
theorem dJ3_checkIndex_8e157_9 : decode cJ3_checkIndex_8e157 9 = .ok (.aload_n 2, 1) := by decide +kernel
theorem dJ3_checkIndex_8e157_10 : decode cJ3_checkIndex_8e157 10 = .ok (.iload_n 0, 1) := by decide +kernel
theorem dJ3_checkIndex_8e157_11 : decode cJ3_checkIndex_8e157 11 = .ok (.iload_n 1, 1) := by decide +kernel
theorem dJ3_checkIndex_8e157_12 : decode cJ3_checkIndex_8e157 12 = .ok (.invokestatic 95, 3) := by decide +kernel
theorem dJ3_checkIndex_8e157_15 : decode cJ3_checkIndex_8e157 15 = .ok (.athrow, 1) := by decide +kernel
theorem dJ3_checkIndex_8e157_16 : decode cJ3_checkIndex_8e157 16 = .ok (.iload_n 0, 1) := by decide +kernel
theorem dJ3_checkIndex_8e157_17 : decode cJ3_checkIndex_8e157 17 = .ok (.ireturn, 1) := by decide +kernel
