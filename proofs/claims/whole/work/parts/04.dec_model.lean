theorem dX12_init_0 : decode cX12_init 0 = .ok (.aload_n 0, 1) := by decide +kernel
theorem dX12_init_1 : decode cX12_init 1 = .ok (.invokespecial 1, 3) := by decide +kernel
theorem dX12_init_4 : decode cX12_init 4 = .ok (.aload_n 0, 1) := by decide +kernel
theorem dX12_init_5 : decode cX12_init 5 = .ok (.lconst 1, 1) := by decide +kernel
theorem dX12_init_6 : decode cX12_init 6 = .ok (.putfield 7, 3) := by decide +kernel
theorem dX12_init_9 : decode cX12_init 9 = .ok (.aload_n 0, 1) := by decide +kernel
theorem dX12_init_10 : decode cX12_init 10 = .ok (.iconst 4, 1) := by decide +kernel
theorem dX12_init_11 : decode cX12_init 11 = .ok (.newarray .int, 2) := by decide +kernel
theorem dX12_init_13 : decode cX12_init 13 = .ok (.putfield 13, 3) := by decide +kernel
theorem dX12_init_16 : decode cX12_init 16 = .ok (.aload_n 0, 1) := by decide +kernel
theorem dX12_init_17 : decode cX12_init 17 = .ok (.iconst 4, 1) := by decide +kernel
theorem dX12_init_18 : decode cX12_init 18 = .ok (.newarray .int, 2) := by decide +kernel
theorem dX12_init_20 : decode cX12_init 20 = .ok (.putfield 17, 3) := by decide +kernel
theorem dX12_init_23 : decode cX12_init 23 = .ok (.aload_n 0, 1) := by decide +kernel
theorem dX12_init_24 : decode cX12_init 24 = .ok (.sipush 240, 3) := by decide +kernel
theorem dX12_init_27 : decode cX12_init 27 = .ok (.newarray .long, 2) := by decide +kernel
theorem dX12_init_29 : decode cX12_init 29 = .ok (.putfield 20, 3) := by decide +kernel
theorem dX12_init_32 : decode cX12_init 32 = .ok (.aload_n 0, 1) := by decide +kernel
theorem dX12_init_33 : decode cX12_init 33 = .ok (.sipush 900, 3) := by decide +kernel
theorem dX12_init_36 : decode cX12_init 36 = .ok (.newarray .byte, 2) := by decide +kernel
theorem dX12_init_38 : decode cX12_init 38 = .ok (.putfield 24, 3) := by decide +kernel
theorem dX12_init_41 : decode cX12_init 41 = .ok (.aload_n 0, 1) := by decide +kernel
theorem dX12_init_42 : decode cX12_init 42 = .ok (.iconst (-1), 1) := by decide +kernel
theorem dX12_init_43 : decode cX12_init 43 = .ok (.putfield 28, 3) := by decide +kernel
theorem dX12_init_46 : decode cX12_init 46 = .ok (.aload_n 0, 1) := by decide +kernel
theorem dX12_init_47 : decode cX12_init 47 = .ok (.iconst (-1), 1) := by decide +kernel
theorem dX12_init_48 : decode cX12_init 48 = .ok (.putfield 32, 3) := by decide +kernel
theorem dX12_init_51 : decode cX12_init 51 = .ok (.aload_n 0, 1) := by decide +kernel
theorem dX12_init_52 : decode cX12_init 52 = .ok (.sipush 1950, 3) := by decide +kernel
theorem dX12_init_55 : decode cX12_init 55 = .ok (.newarray .int, 2) := by decide +kernel
theorem dX12_init_57 : decode cX12_init 57 = .ok (.putfield 35, 3) := by decide +kernel
theorem dX12_init_60 : decode cX12_init 60 = .ok (.aload_n 0, 1) := by decide +kernel
theorem dX12_init_61 : decode cX12_init 61 = .ok (.bipush 111, 2) := by decide +kernel
theorem dX12_init_63 : decode cX12_init 63 = .ok (.newarray .int, 2) := by decide +kernel
theorem dX12_init_65 : decode cX12_init 65 = .ok (.putfield 38, 3) := by decide +kernel
theorem dX12_init_68 : decode cX12_init 68 = .ok (.aload_n 0, 1) := by decide +kernel
theorem dX12_init_69 : decode cX12_init 69 = .ok (.bipush 100, 2) := by decide +kernel
theorem dX12_init_71 : decode cX12_init 71 = .ok (.newarray .long, 2) := by decide +kernel
theorem dX12_init_73 : decode cX12_init 73 = .ok (.putfield 41, 3) := by decide +kernel
theorem dX12_init_76 : decode cX12_init 76 = .ok (.aload_n 0, 1) := by decide +kernel
theorem dX12_init_77 : decode cX12_init 77 = .ok (.bipush 8, 2) := by decide +kernel
theorem dX12_init_79 : decode cX12_init 79 = .ok (.newarray .int, 2) := by decide +kernel
theorem dX12_init_81 : decode cX12_init 81 = .ok (.putfield 44, 3) := by decide +kernel
theorem dX12_init_84 : decode cX12_init 84 = .ok (.aload_n 0, 1) := by decide +kernel
theorem dX12_init_85 : decode cX12_init 85 = .ok (.bipush 8, 2) := by decide +kernel
theorem dX12_init_87 : decode cX12_init 87 = .ok (.newarray .int, 2) := by decide +kernel
theorem dX12_init_89 : decode cX12_init 89 = .ok (.putfield 47, 3) := by decide +kernel
theorem dX12_init_92 : decode cX12_init 92 = .ok (.aload_n 0, 1) := by decide +kernel
theorem dX12_init_93 : decode cX12_init 93 = .ok (.bipush 8, 2) := by decide +kernel
theorem dX12_init_95 : decode cX12_init 95 = .ok (.newarray .int, 2) := by decide +kernel
theorem dX12_init_97 : decode cX12_init 97 = .ok (.putfield 50, 3) := by decide +kernel
theorem dX12_init_100 : decode cX12_init 100 = .ok (.aload_n 0, 1) := by decide +kernel
theorem dX12_init_101 : decode cX12_init 101 = .ok (.iconst (-1), 1) := by decide +kernel
theorem dX12_init_102 : decode cX12_init 102 = .ok (.putfield 53, 3) := by decide +kernel
theorem dX12_init_105 : decode cX12_init 105 = .ok (.aload_n 0, 1) := by decide +kernel
theorem dX12_init_106 : decode cX12_init 106 = .ok (.bipush 6, 2) := by decide +kernel
theorem dX12_init_108 : decode cX12_init 108 = .ok (.newarray .int, 2) := by decide +kernel
theorem dX12_init_110 : decode cX12_init 110 = .ok (.putfield 56, 3) := by decide +kernel
theorem dX12_init_113 : decode cX12_init 113 = .ok (.aload_n 0, 1) := by decide +kernel
theorem dX12_init_114 : decode cX12_init 114 = .ok (.bipush 11, 2) := by decide +kernel
theorem dX12_init_116 : decode cX12_init 116 = .ok (.newarray .long, 2) := by decide +kernel
theorem dX12_init_118 : decode cX12_init 118 = .ok (.putfield 59, 3) := by decide +kernel
theorem dX12_init_121 : decode cX12_init 121 = .ok (.aload_n 0, 1) := by decide +kernel
theorem dX12_init_122 : decode cX12_init 122 = .ok (.bipush 10, 2) := by decide +kernel
theorem dX12_init_124 : decode cX12_init 124 = .ok (.newarray .int, 2) := by decide +kernel
theorem dX12_init_126 : decode cX12_init 126 = .ok (.putfield 62, 3) := by decide +kernel
theorem dX12_init_129 : decode cX12_init 129 = .ok (.aload_n 0, 1) := by decide +kernel
theorem dX12_init_130 : decode cX12_init 130 = .ok (.iconst 5, 1) := by decide +kernel
theorem dX12_init_131 : decode cX12_init 131 = .ok (.newarray .int, 2) := by decide +kernel
theorem dX12_init_133 : decode cX12_init 133 = .ok (.putfield 65, 3) := by decide +kernel
theorem dX12_init_136 : decode cX12_init 136 = .ok (.aload_n 0, 1) := by decide +kernel
theorem dX12_init_137 : decode cX12_init 137 = .ok (.bipush 111, 2) := by decide +kernel
theorem dX12_init_139 : decode cX12_init 139 = .ok (.newarray .int, 2) := by decide +kernel
theorem dX12_init_141 : decode cX12_init 141 = .ok (.putfield 68, 3) := by decide +kernel
theorem dX12_init_144 : decode cX12_init 144 = .ok (.iconst 0, 1) := by decide +kernel
theorem dX12_init_145 : decode cX12_init 145 = .ok (.istore_n 1, 1) := by decide +kernel
theorem dX12_init_146 : decode cX12_init 146 = .ok (.iload_n 1, 1) := by decide +kernel
theorem dX12_init_147 : decode cX12_init 147 = .ok (.iconst 4, 1) := by decide +kernel
theorem dX12_init_148 : decode cX12_init 148 = .ok (.if_icmp .ge 16, 3) := by decide +kernel
theorem dX12_init_151 : decode cX12_init 151 = .ok (.aload_n 0, 1) := by decide +kernel
theorem dX12_init_152 : decode cX12_init 152 = .ok (.getfield 17, 3) := by decide +kernel
theorem dX12_init_155 : decode cX12_init 155 = .ok (.iload_n 1, 1) := by decide +kernel
theorem dX12_init_156 : decode cX12_init 156 = .ok (.iconst (-1), 1) := by decide +kernel
theorem dX12_init_157 : decode cX12_init 157 = .ok (.iastore, 1) := by decide +kernel
theorem dX12_init_158 : decode cX12_init 158 = .ok (.iinc 1 1, 3) := by decide +kernel
theorem dX12_init_161 : decode cX12_init 161 = .ok (.goto (-15), 3) := by decide +kernel
theorem dX12_init_164 : decode cX12_init 164 = .ok (.return_, 1) := by decide +kernel
theorem dX12_status_0 : decode cX12_status 0 = .ok (.aload_n 0, 1) := by decide +kernel
theorem dX12_status_1 : decode cX12_status 1 = .ok (.iconst 0, 1) := by decide +kernel
theorem dX12_status_2 : decode cX12_status 2 = .ok (.putfield 71, 3) := by decide +kernel
theorem dX12_status_5 : decode cX12_status 5 = .ok (.aload_n 0, 1) := by decide +kernel
theorem dX12_status_6 : decode cX12_status 6 = .ok (.getfield 74, 3) := by decide +kernel
theorem dX12_status_9 : decode cX12_status 9 = .ok (.ireturn, 1) := by decide +kernel
theorem dX12_top_0 : decode cX12_top 0 = .ok (.aload_n 0, 1) := by decide +kernel
theorem dX12_top_1 : decode cX12_top 1 = .ok (.iconst 0, 1) := by decide +kernel
theorem dX12_top_2 : decode cX12_top 2 = .ok (.putfield 71, 3) := by decide +kernel
theorem dX12_top_5 : decode cX12_top 5 = .ok (.aload_n 0, 1) := by decide +kernel
theorem dX12_top_6 : decode cX12_top 6 = .ok (.getfield 77, 3) := by decide +kernel
theorem dX12_top_9 : decode cX12_top 9 = .ok (.lreturn, 1) := by decide +kernel
theorem dX12_bottom_0 : decode cX12_bottom 0 = .ok (.aload_n 0, 1) := by decide +kernel
theorem dX12_bottom_1 : decode cX12_bottom 1 = .ok (.iconst 0, 1) := by decide +kernel
theorem dX12_bottom_2 : decode cX12_bottom 2 = .ok (.putfield 71, 3) := by decide +kernel
theorem dX12_bottom_5 : decode cX12_bottom 5 = .ok (.aload_n 0, 1) := by decide +kernel
theorem dX12_bottom_6 : decode cX12_bottom 6 = .ok (.getfield 7, 3) := by decide +kernel
theorem dX12_bottom_9 : decode cX12_bottom 9 = .ok (.lreturn, 1) := by decide +kernel
theorem dX12_refuse_0 : decode cX12_refuse 0 = .ok (.aload_n 0, 1) := by decide +kernel
theorem dX12_refuse_1 : decode cX12_refuse 1 = .ok (.iload_n 1, 1) := by decide +kernel
theorem dX12_refuse_2 : decode cX12_refuse 2 = .ok (.putfield 74, 3) := by decide +kernel
theorem dX12_refuse_5 : decode cX12_refuse 5 = .ok (.iconst (-1), 1) := by decide +kernel
theorem dX12_refuse_6 : decode cX12_refuse 6 = .ok (.ireturn, 1) := by decide +kernel
theorem dX12_no_0 : decode cX12_no 0 = .ok (.aload_n 0, 1) := by decide +kernel
theorem dX12_no_1 : decode cX12_no 1 = .ok (.iload_n 1, 1) := by decide +kernel
theorem dX12_no_2 : decode cX12_no 2 = .ok (.putfield 74, 3) := by decide +kernel
theorem dX12_no_5 : decode cX12_no 5 = .ok (.iconst 0, 1) := by decide +kernel
theorem dX12_no_6 : decode cX12_no 6 = .ok (.ireturn, 1) := by decide +kernel
theorem dX12_isIn_0 : decode cX12_isIn 0 = .ok (.lload_n 0, 1) := by decide +kernel
theorem dX12_isIn_1 : decode cX12_isIn 1 = .ok (.lload_n 2, 1) := by decide +kernel
theorem dX12_isIn_2 : decode cX12_isIn 2 = .ok (.lcmp, 1) := by decide +kernel
theorem dX12_isIn_3 : decode cX12_isIn 3 = .ok (.ifCond .lt 14, 3) := by decide +kernel
theorem dX12_isIn_6 : decode cX12_isIn 6 = .ok (.lload_n 0, 1) := by decide +kernel
theorem dX12_isIn_7 : decode cX12_isIn 7 = .ok (.lload 4, 2) := by decide +kernel
theorem dX12_isIn_9 : decode cX12_isIn 9 = .ok (.lcmp, 1) := by decide +kernel
theorem dX12_isIn_10 : decode cX12_isIn 10 = .ok (.ifCond .gt 7, 3) := by decide +kernel
theorem dX12_isIn_13 : decode cX12_isIn 13 = .ok (.iconst 1, 1) := by decide +kernel
theorem dX12_isIn_14 : decode cX12_isIn 14 = .ok (.goto 4, 3) := by decide +kernel
theorem dX12_isIn_17 : decode cX12_isIn 17 = .ok (.iconst 0, 1) := by decide +kernel
theorem dX12_isIn_18 : decode cX12_isIn 18 = .ok (.ireturn, 1) := by decide +kernel
theorem dX12_fraction_0 : decode cX12_fraction 0 = .ok (.lload_n 1, 1) := by decide +kernel
theorem dX12_fraction_1 : decode cX12_fraction 1 = .ok (.invokestatic 80, 3) := by decide +kernel
theorem dX12_fraction_4 : decode cX12_fraction 4 = .ok (.lstore 5, 2) := by decide +kernel
theorem dX12_fraction_6 : decode cX12_fraction 6 = .ok (.lload_n 3, 1) := by decide +kernel
theorem dX12_fraction_7 : decode cX12_fraction 7 = .ok (.lstore 7, 2) := by decide +kernel
theorem dX12_fraction_9 : decode cX12_fraction 9 = .ok (.lload 7, 2) := by decide +kernel
theorem dX12_fraction_11 : decode cX12_fraction 11 = .ok (.lconst 0, 1) := by decide +kernel
theorem dX12_fraction_12 : decode cX12_fraction 12 = .ok (.lcmp, 1) := by decide +kernel
theorem dX12_fraction_13 : decode cX12_fraction 13 = .ok (.ifCond .eq 21, 3) := by decide +kernel
theorem dX12_fraction_16 : decode cX12_fraction 16 = .ok (.lload 5, 2) := by decide +kernel
theorem dX12_fraction_18 : decode cX12_fraction 18 = .ok (.lload 7, 2) := by decide +kernel
theorem dX12_fraction_20 : decode cX12_fraction 20 = .ok (.lrem, 1) := by decide +kernel
theorem dX12_fraction_21 : decode cX12_fraction 21 = .ok (.lstore 9, 2) := by decide +kernel
theorem dX12_fraction_23 : decode cX12_fraction 23 = .ok (.lload 7, 2) := by decide +kernel
theorem dX12_fraction_25 : decode cX12_fraction 25 = .ok (.lstore 5, 2) := by decide +kernel
theorem dX12_fraction_27 : decode cX12_fraction 27 = .ok (.lload 9, 2) := by decide +kernel
theorem dX12_fraction_29 : decode cX12_fraction 29 = .ok (.lstore 7, 2) := by decide +kernel
theorem dX12_fraction_31 : decode cX12_fraction 31 = .ok (.goto (-22), 3) := by decide +kernel
theorem dX12_fraction_34 : decode cX12_fraction 34 = .ok (.aload_n 0, 1) := by decide +kernel
theorem dX12_fraction_35 : decode cX12_fraction 35 = .ok (.lload_n 1, 1) := by decide +kernel
theorem dX12_fraction_36 : decode cX12_fraction 36 = .ok (.lload 5, 2) := by decide +kernel
theorem dX12_fraction_38 : decode cX12_fraction 38 = .ok (.ldiv, 1) := by decide +kernel
theorem dX12_fraction_39 : decode cX12_fraction 39 = .ok (.putfield 77, 3) := by decide +kernel
theorem dX12_fraction_42 : decode cX12_fraction 42 = .ok (.aload_n 0, 1) := by decide +kernel
theorem dX12_fraction_43 : decode cX12_fraction 43 = .ok (.lload_n 3, 1) := by decide +kernel
theorem dX12_fraction_44 : decode cX12_fraction 44 = .ok (.lload 5, 2) := by decide +kernel
theorem dX12_fraction_46 : decode cX12_fraction 46 = .ok (.ldiv, 1) := by decide +kernel
theorem dX12_fraction_47 : decode cX12_fraction 47 = .ok (.putfield 7, 3) := by decide +kernel
theorem dX12_fraction_50 : decode cX12_fraction 50 = .ok (.iconst 1, 1) := by decide +kernel
theorem dX12_fraction_51 : decode cX12_fraction 51 = .ok (.ireturn, 1) := by decide +kernel
theorem dX12_cut_0 : decode cX12_cut 0 = .ok (.iload_n 0, 1) := by decide +kernel
theorem dX12_cut_1 : decode cX12_cut 1 = .ok (.ifCond .ne 10, 3) := by decide +kernel
theorem dX12_cut_4 : decode cX12_cut 4 = .ok (.lload_n 1, 1) := by decide +kernel
theorem dX12_cut_5 : decode cX12_cut 5 = .ok (.l2i, 1) := by decide +kernel
theorem dX12_cut_6 : decode cX12_cut 6 = .ok (.i2b, 1) := by decide +kernel
theorem dX12_cut_7 : decode cX12_cut 7 = .ok (.i2l, 1) := by decide +kernel
theorem dX12_cut_8 : decode cX12_cut 8 = .ok (.goto 27, 3) := by decide +kernel
theorem dX12_cut_11 : decode cX12_cut 11 = .ok (.iload_n 0, 1) := by decide +kernel
theorem dX12_cut_12 : decode cX12_cut 12 = .ok (.iconst 1, 1) := by decide +kernel
theorem dX12_cut_13 : decode cX12_cut 13 = .ok (.if_icmp .ne 10, 3) := by decide +kernel
theorem dX12_cut_16 : decode cX12_cut 16 = .ok (.lload_n 1, 1) := by decide +kernel
theorem dX12_cut_17 : decode cX12_cut 17 = .ok (.l2i, 1) := by decide +kernel
theorem dX12_cut_18 : decode cX12_cut 18 = .ok (.i2s, 1) := by decide +kernel
theorem dX12_cut_19 : decode cX12_cut 19 = .ok (.i2l, 1) := by decide +kernel
theorem dX12_cut_20 : decode cX12_cut 20 = .ok (.goto 15, 3) := by decide +kernel
theorem dX12_cut_23 : decode cX12_cut 23 = .ok (.iload_n 0, 1) := by decide +kernel
theorem dX12_cut_24 : decode cX12_cut 24 = .ok (.iconst 2, 1) := by decide +kernel
theorem dX12_cut_25 : decode cX12_cut 25 = .ok (.if_icmp .ne 9, 3) := by decide +kernel
theorem dX12_cut_28 : decode cX12_cut 28 = .ok (.lload_n 1, 1) := by decide +kernel
theorem dX12_cut_29 : decode cX12_cut 29 = .ok (.l2i, 1) := by decide +kernel
theorem dX12_cut_30 : decode cX12_cut 30 = .ok (.i2l, 1) := by decide +kernel
theorem dX12_cut_31 : decode cX12_cut 31 = .ok (.goto 4, 3) := by decide +kernel
theorem dX12_cut_34 : decode cX12_cut 34 = .ok (.lload_n 1, 1) := by decide +kernel
theorem dX12_cut_35 : decode cX12_cut 35 = .ok (.lreturn, 1) := by decide +kernel
theorem dX12_tray_0 : decode cX12_tray 0 = .ok (.aload_n 0, 1) := by decide +kernel
theorem dX12_tray_1 : decode cX12_tray 1 = .ok (.iconst 0, 1) := by decide +kernel
theorem dX12_tray_2 : decode cX12_tray 2 = .ok (.putfield 71, 3) := by decide +kernel
theorem dX12_tray_5 : decode cX12_tray 5 = .ok (.aload_n 0, 1) := by decide +kernel
theorem dX12_tray_6 : decode cX12_tray 6 = .ok (.iconst 0, 1) := by decide +kernel
theorem dX12_tray_7 : decode cX12_tray 7 = .ok (.putfield 74, 3) := by decide +kernel
theorem dX12_tray_10 : decode cX12_tray 10 = .ok (.iload_n 1, 1) := by decide +kernel
theorem dX12_tray_11 : decode cX12_tray 11 = .ok (.ifCond .lt 17, 3) := by decide +kernel
theorem dX12_tray_14 : decode cX12_tray 14 = .ok (.iload_n 1, 1) := by decide +kernel
theorem dX12_tray_15 : decode cX12_tray 15 = .ok (.iconst 4, 1) := by decide +kernel
theorem dX12_tray_16 : decode cX12_tray 16 = .ok (.if_icmp .ge 12, 3) := by decide +kernel
theorem dX12_tray_19 : decode cX12_tray 19 = .ok (.iload_n 2, 1) := by decide +kernel
theorem dX12_tray_20 : decode cX12_tray 20 = .ok (.ifCond .lt 8, 3) := by decide +kernel
theorem dX12_tray_23 : decode cX12_tray 23 = .ok (.iload_n 2, 1) := by decide +kernel
theorem dX12_tray_24 : decode cX12_tray 24 = .ok (.iconst 3, 1) := by decide +kernel
theorem dX12_tray_25 : decode cX12_tray 25 = .ok (.if_icmp .le 9, 3) := by decide +kernel
theorem dX12_tray_28 : decode cX12_tray 28 = .ok (.aload_n 0, 1) := by decide +kernel
theorem dX12_tray_29 : decode cX12_tray 29 = .ok (.iconst 1, 1) := by decide +kernel
theorem dX12_tray_30 : decode cX12_tray 30 = .ok (.invokevirtual 86, 3) := by decide +kernel
theorem dX12_tray_33 : decode cX12_tray 33 = .ok (.ireturn, 1) := by decide +kernel
theorem dX12_tray_34 : decode cX12_tray 34 = .ok (.iload_n 3, 1) := by decide +kernel
theorem dX12_tray_35 : decode cX12_tray 35 = .ok (.bipush 60, 2) := by decide +kernel
theorem dX12_tray_37 : decode cX12_tray 37 = .ok (.if_icmp .le 9, 3) := by decide +kernel
theorem dX12_tray_40 : decode cX12_tray 40 = .ok (.aload_n 0, 1) := by decide +kernel
theorem dX12_tray_41 : decode cX12_tray 41 = .ok (.iconst 5, 1) := by decide +kernel
theorem dX12_tray_42 : decode cX12_tray 42 = .ok (.invokevirtual 86, 3) := by decide +kernel
theorem dX12_tray_45 : decode cX12_tray 45 = .ok (.ireturn, 1) := by decide +kernel
theorem dX12_tray_46 : decode cX12_tray 46 = .ok (.iload_n 3, 1) := by decide +kernel
theorem dX12_tray_47 : decode cX12_tray 47 = .ok (.ifCond .ge 10, 3) := by decide +kernel
theorem dX12_tray_50 : decode cX12_tray 50 = .ok (.aload_n 0, 1) := by decide +kernel
theorem dX12_tray_51 : decode cX12_tray 51 = .ok (.bipush 6, 2) := by decide +kernel
theorem dX12_tray_53 : decode cX12_tray 53 = .ok (.invokevirtual 86, 3) := by decide +kernel
theorem dX12_tray_56 : decode cX12_tray 56 = .ok (.ireturn, 1) := by decide +kernel
theorem dX12_tray_57 : decode cX12_tray 57 = .ok (.aload_n 0, 1) := by decide +kernel
theorem dX12_tray_58 : decode cX12_tray 58 = .ok (.getfield 13, 3) := by decide +kernel
theorem dX12_tray_61 : decode cX12_tray 61 = .ok (.iload_n 1, 1) := by decide +kernel
theorem dX12_tray_62 : decode cX12_tray 62 = .ok (.iload_n 2, 1) := by decide +kernel
theorem dX12_tray_63 : decode cX12_tray 63 = .ok (.iastore, 1) := by decide +kernel
theorem dX12_tray_64 : decode cX12_tray 64 = .ok (.aload_n 0, 1) := by decide +kernel
theorem dX12_tray_65 : decode cX12_tray 65 = .ok (.getfield 17, 3) := by decide +kernel
theorem dX12_tray_68 : decode cX12_tray 68 = .ok (.iload_n 1, 1) := by decide +kernel
theorem dX12_tray_69 : decode cX12_tray 69 = .ok (.iload_n 3, 1) := by decide +kernel
theorem dX12_tray_70 : decode cX12_tray 70 = .ok (.iastore, 1) := by decide +kernel
theorem dX12_tray_71 : decode cX12_tray 71 = .ok (.iconst 0, 1) := by decide +kernel
theorem dX12_tray_72 : decode cX12_tray 72 = .ok (.istore 4, 2) := by decide +kernel
theorem dX12_tray_74 : decode cX12_tray 74 = .ok (.iload 4, 2) := by decide +kernel
theorem dX12_tray_76 : decode cX12_tray 76 = .ok (.iload_n 3, 1) := by decide +kernel
theorem dX12_tray_77 : decode cX12_tray 77 = .ok (.if_icmp .ge 22, 3) := by decide +kernel
theorem dX12_tray_80 : decode cX12_tray 80 = .ok (.aload_n 0, 1) := by decide +kernel
theorem dX12_tray_81 : decode cX12_tray 81 = .ok (.getfield 20, 3) := by decide +kernel
theorem dX12_tray_84 : decode cX12_tray 84 = .ok (.bipush 60, 2) := by decide +kernel
theorem dX12_tray_86 : decode cX12_tray 86 = .ok (.iload_n 1, 1) := by decide +kernel
theorem dX12_tray_87 : decode cX12_tray 87 = .ok (.imul, 1) := by decide +kernel
theorem dX12_tray_88 : decode cX12_tray 88 = .ok (.iload 4, 2) := by decide +kernel
theorem dX12_tray_90 : decode cX12_tray 90 = .ok (.iadd, 1) := by decide +kernel
theorem dX12_tray_91 : decode cX12_tray 91 = .ok (.lconst 0, 1) := by decide +kernel
theorem dX12_tray_92 : decode cX12_tray 92 = .ok (.lastore, 1) := by decide +kernel
theorem dX12_tray_93 : decode cX12_tray 93 = .ok (.iinc 4 1, 3) := by decide +kernel
theorem dX12_tray_96 : decode cX12_tray 96 = .ok (.goto (-22), 3) := by decide +kernel
theorem dX12_tray_99 : decode cX12_tray 99 = .ok (.iconst 1, 1) := by decide +kernel
theorem dX12_tray_100 : decode cX12_tray 100 = .ok (.ireturn, 1) := by decide +kernel
theorem dX12_trayed_0 : decode cX12_trayed 0 = .ok (.iload_n 1, 1) := by decide +kernel
theorem dX12_trayed_1 : decode cX12_trayed 1 = .ok (.ifCond .lt 8, 3) := by decide +kernel
theorem dX12_trayed_4 : decode cX12_trayed 4 = .ok (.iload_n 1, 1) := by decide +kernel
theorem dX12_trayed_5 : decode cX12_trayed 5 = .ok (.iconst 4, 1) := by decide +kernel
theorem dX12_trayed_6 : decode cX12_trayed 6 = .ok (.if_icmp .lt 7, 3) := by decide +kernel
theorem dX12_trayed_9 : decode cX12_trayed 9 = .ok (.iconst 1, 1) := by decide +kernel
theorem dX12_trayed_10 : decode cX12_trayed 10 = .ok (.goto 17, 3) := by decide +kernel
theorem dX12_trayed_13 : decode cX12_trayed 13 = .ok (.aload_n 0, 1) := by decide +kernel
theorem dX12_trayed_14 : decode cX12_trayed 14 = .ok (.getfield 17, 3) := by decide +kernel
theorem dX12_trayed_17 : decode cX12_trayed 17 = .ok (.iload_n 1, 1) := by decide +kernel
theorem dX12_trayed_18 : decode cX12_trayed 18 = .ok (.iaload, 1) := by decide +kernel
theorem dX12_trayed_19 : decode cX12_trayed 19 = .ok (.ifCond .ge 7, 3) := by decide +kernel
theorem dX12_trayed_22 : decode cX12_trayed 22 = .ok (.iconst 3, 1) := by decide +kernel
theorem dX12_trayed_23 : decode cX12_trayed 23 = .ok (.goto 4, 3) := by decide +kernel
theorem dX12_trayed_26 : decode cX12_trayed 26 = .ok (.iconst 0, 1) := by decide +kernel
theorem dX12_trayed_27 : decode cX12_trayed 27 = .ok (.ireturn, 1) := by decide +kernel
theorem dX12_placed_0 : decode cX12_placed 0 = .ok (.aload_n 0, 1) := by decide +kernel
theorem dX12_placed_1 : decode cX12_placed 1 = .ok (.iload_n 1, 1) := by decide +kernel
theorem dX12_placed_2 : decode cX12_placed 2 = .ok (.invokevirtual 90, 3) := by decide +kernel
theorem dX12_placed_5 : decode cX12_placed 5 = .ok (.istore_n 3, 1) := by decide +kernel
theorem dX12_placed_6 : decode cX12_placed 6 = .ok (.iload_n 3, 1) := by decide +kernel
theorem dX12_placed_7 : decode cX12_placed 7 = .ok (.ifCond .le 7, 3) := by decide +kernel
theorem dX12_placed_10 : decode cX12_placed 10 = .ok (.iload_n 3, 1) := by decide +kernel
theorem dX12_placed_11 : decode cX12_placed 11 = .ok (.goto 22, 3) := by decide +kernel
theorem dX12_placed_14 : decode cX12_placed 14 = .ok (.iload_n 2, 1) := by decide +kernel
theorem dX12_placed_15 : decode cX12_placed 15 = .ok (.ifCond .lt 13, 3) := by decide +kernel
theorem dX12_placed_18 : decode cX12_placed 18 = .ok (.iload_n 2, 1) := by decide +kernel
theorem dX12_placed_19 : decode cX12_placed 19 = .ok (.aload_n 0, 1) := by decide +kernel
theorem dX12_placed_20 : decode cX12_placed 20 = .ok (.getfield 17, 3) := by decide +kernel
theorem dX12_placed_23 : decode cX12_placed 23 = .ok (.iload_n 1, 1) := by decide +kernel
theorem dX12_placed_24 : decode cX12_placed 24 = .ok (.iaload, 1) := by decide +kernel
theorem dX12_placed_25 : decode cX12_placed 25 = .ok (.if_icmp .lt 7, 3) := by decide +kernel
theorem dX12_placed_28 : decode cX12_placed 28 = .ok (.iconst 4, 1) := by decide +kernel
theorem dX12_placed_29 : decode cX12_placed 29 = .ok (.goto 4, 3) := by decide +kernel
theorem dX12_placed_32 : decode cX12_placed 32 = .ok (.iconst 0, 1) := by decide +kernel
theorem dX12_placed_33 : decode cX12_placed 33 = .ok (.ireturn, 1) := by decide +kernel
theorem dX12_write_0 : decode cX12_write 0 = .ok (.aload_n 0, 1) := by decide +kernel
theorem dX12_write_1 : decode cX12_write 1 = .ok (.iconst 0, 1) := by decide +kernel
theorem dX12_write_2 : decode cX12_write 2 = .ok (.putfield 71, 3) := by decide +kernel
theorem dX12_write_5 : decode cX12_write 5 = .ok (.aload_n 0, 1) := by decide +kernel
theorem dX12_write_6 : decode cX12_write 6 = .ok (.aload_n 0, 1) := by decide +kernel
theorem dX12_write_7 : decode cX12_write 7 = .ok (.iload_n 1, 1) := by decide +kernel
theorem dX12_write_8 : decode cX12_write 8 = .ok (.iload_n 2, 1) := by decide +kernel
theorem dX12_write_9 : decode cX12_write 9 = .ok (.invokevirtual 94, 3) := by decide +kernel
theorem dX12_write_12 : decode cX12_write 12 = .ok (.putfield 74, 3) := by decide +kernel
theorem dX12_write_15 : decode cX12_write 15 = .ok (.aload_n 0, 1) := by decide +kernel
theorem dX12_write_16 : decode cX12_write 16 = .ok (.getfield 74, 3) := by decide +kernel
theorem dX12_write_19 : decode cX12_write 19 = .ok (.ifCond .le 5, 3) := by decide +kernel
theorem dX12_write_22 : decode cX12_write 22 = .ok (.iconst 0, 1) := by decide +kernel
theorem dX12_write_23 : decode cX12_write 23 = .ok (.ireturn, 1) := by decide +kernel
theorem dX12_write_24 : decode cX12_write 24 = .ok (.aload_n 0, 1) := by decide +kernel
theorem dX12_write_25 : decode cX12_write 25 = .ok (.getfield 20, 3) := by decide +kernel
theorem dX12_write_28 : decode cX12_write 28 = .ok (.bipush 60, 2) := by decide +kernel
theorem dX12_write_30 : decode cX12_write 30 = .ok (.iload_n 1, 1) := by decide +kernel
theorem dX12_write_31 : decode cX12_write 31 = .ok (.imul, 1) := by decide +kernel
theorem dX12_write_32 : decode cX12_write 32 = .ok (.iload_n 2, 1) := by decide +kernel
theorem dX12_write_33 : decode cX12_write 33 = .ok (.iadd, 1) := by decide +kernel
theorem dX12_write_34 : decode cX12_write 34 = .ok (.aload_n 0, 1) := by decide +kernel
theorem dX12_write_35 : decode cX12_write 35 = .ok (.getfield 13, 3) := by decide +kernel
theorem dX12_write_38 : decode cX12_write 38 = .ok (.iload_n 1, 1) := by decide +kernel
theorem dX12_write_39 : decode cX12_write 39 = .ok (.iaload, 1) := by decide +kernel
theorem dX12_write_40 : decode cX12_write 40 = .ok (.lload_n 3, 1) := by decide +kernel
theorem dX12_write_41 : decode cX12_write 41 = .ok (.invokestatic 98, 3) := by decide +kernel
theorem dX12_write_44 : decode cX12_write 44 = .ok (.lastore, 1) := by decide +kernel
theorem dX12_write_45 : decode cX12_write 45 = .ok (.iconst 1, 1) := by decide +kernel
theorem dX12_write_46 : decode cX12_write 46 = .ok (.ireturn, 1) := by decide +kernel
theorem dX12_read_0 : decode cX12_read 0 = .ok (.aload_n 0, 1) := by decide +kernel
theorem dX12_read_1 : decode cX12_read 1 = .ok (.iconst 0, 1) := by decide +kernel
theorem dX12_read_2 : decode cX12_read 2 = .ok (.putfield 71, 3) := by decide +kernel
theorem dX12_read_5 : decode cX12_read 5 = .ok (.aload_n 0, 1) := by decide +kernel
theorem dX12_read_6 : decode cX12_read 6 = .ok (.aload_n 0, 1) := by decide +kernel
theorem dX12_read_7 : decode cX12_read 7 = .ok (.iload_n 1, 1) := by decide +kernel
theorem dX12_read_8 : decode cX12_read 8 = .ok (.iload_n 2, 1) := by decide +kernel
theorem dX12_read_9 : decode cX12_read 9 = .ok (.invokevirtual 94, 3) := by decide +kernel
theorem dX12_read_12 : decode cX12_read 12 = .ok (.putfield 74, 3) := by decide +kernel
theorem dX12_read_15 : decode cX12_read 15 = .ok (.aload_n 0, 1) := by decide +kernel
theorem dX12_read_16 : decode cX12_read 16 = .ok (.getfield 74, 3) := by decide +kernel
theorem dX12_read_19 : decode cX12_read 19 = .ok (.ifCond .le 9, 3) := by decide +kernel
theorem dX12_read_22 : decode cX12_read 22 = .ok (.ldc2_w 102, 3) := by decide +kernel
theorem dX12_read_25 : decode cX12_read 25 = .ok (.goto 14, 3) := by decide +kernel
theorem dX12_read_28 : decode cX12_read 28 = .ok (.aload_n 0, 1) := by decide +kernel
theorem dX12_read_29 : decode cX12_read 29 = .ok (.getfield 20, 3) := by decide +kernel
theorem dX12_read_32 : decode cX12_read 32 = .ok (.bipush 60, 2) := by decide +kernel
theorem dX12_read_34 : decode cX12_read 34 = .ok (.iload_n 1, 1) := by decide +kernel
theorem dX12_read_35 : decode cX12_read 35 = .ok (.imul, 1) := by decide +kernel
theorem dX12_read_36 : decode cX12_read 36 = .ok (.iload_n 2, 1) := by decide +kernel
theorem dX12_read_37 : decode cX12_read 37 = .ok (.iadd, 1) := by decide +kernel
theorem dX12_read_38 : decode cX12_read 38 = .ok (.laload, 1) := by decide +kernel
theorem dX12_read_39 : decode cX12_read 39 = .ok (.lreturn, 1) := by decide +kernel
theorem dX12_pour_0 : decode cX12_pour 0 = .ok (.aload_n 0, 1) := by decide +kernel
theorem dX12_pour_1 : decode cX12_pour 1 = .ok (.iconst 0, 1) := by decide +kernel
theorem dX12_pour_2 : decode cX12_pour 2 = .ok (.putfield 71, 3) := by decide +kernel
theorem dX12_pour_5 : decode cX12_pour 5 = .ok (.aload_n 0, 1) := by decide +kernel
theorem dX12_pour_6 : decode cX12_pour 6 = .ok (.iconst 0, 1) := by decide +kernel
theorem dX12_pour_7 : decode cX12_pour 7 = .ok (.putfield 74, 3) := by decide +kernel
theorem dX12_pour_10 : decode cX12_pour 10 = .ok (.iload_n 1, 1) := by decide +kernel
theorem dX12_pour_11 : decode cX12_pour 11 = .ok (.ifCond .lt 17, 3) := by decide +kernel
theorem dX12_pour_14 : decode cX12_pour 14 = .ok (.iload_n 1, 1) := by decide +kernel
theorem dX12_pour_15 : decode cX12_pour 15 = .ok (.iconst 4, 1) := by decide +kernel
theorem dX12_pour_16 : decode cX12_pour 16 = .ok (.if_icmp .ge 12, 3) := by decide +kernel
theorem dX12_pour_19 : decode cX12_pour 19 = .ok (.iload_n 3, 1) := by decide +kernel
theorem dX12_pour_20 : decode cX12_pour 20 = .ok (.ifCond .lt 8, 3) := by decide +kernel
theorem dX12_pour_23 : decode cX12_pour 23 = .ok (.iload_n 3, 1) := by decide +kernel
theorem dX12_pour_24 : decode cX12_pour 24 = .ok (.iconst 4, 1) := by decide +kernel
theorem dX12_pour_25 : decode cX12_pour 25 = .ok (.if_icmp .lt 9, 3) := by decide +kernel
theorem dX12_pour_28 : decode cX12_pour 28 = .ok (.aload_n 0, 1) := by decide +kernel
theorem dX12_pour_29 : decode cX12_pour 29 = .ok (.iconst 1, 1) := by decide +kernel
theorem dX12_pour_30 : decode cX12_pour 30 = .ok (.invokevirtual 86, 3) := by decide +kernel
theorem dX12_pour_33 : decode cX12_pour 33 = .ok (.ireturn, 1) := by decide +kernel
theorem dX12_pour_34 : decode cX12_pour 34 = .ok (.aload_n 0, 1) := by decide +kernel
theorem dX12_pour_35 : decode cX12_pour 35 = .ok (.getfield 17, 3) := by decide +kernel
theorem dX12_pour_38 : decode cX12_pour 38 = .ok (.iload_n 1, 1) := by decide +kernel
theorem dX12_pour_39 : decode cX12_pour 39 = .ok (.iaload, 1) := by decide +kernel
theorem dX12_pour_40 : decode cX12_pour 40 = .ok (.ifCond .lt 12, 3) := by decide +kernel
theorem dX12_pour_43 : decode cX12_pour 43 = .ok (.aload_n 0, 1) := by decide +kernel
theorem dX12_pour_44 : decode cX12_pour 44 = .ok (.getfield 17, 3) := by decide +kernel
theorem dX12_pour_47 : decode cX12_pour 47 = .ok (.iload_n 3, 1) := by decide +kernel
theorem dX12_pour_48 : decode cX12_pour 48 = .ok (.iaload, 1) := by decide +kernel
theorem dX12_pour_49 : decode cX12_pour 49 = .ok (.ifCond .ge 9, 3) := by decide +kernel
theorem dX12_pour_52 : decode cX12_pour 52 = .ok (.aload_n 0, 1) := by decide +kernel
theorem dX12_pour_53 : decode cX12_pour 53 = .ok (.iconst 3, 1) := by decide +kernel
theorem dX12_pour_54 : decode cX12_pour 54 = .ok (.invokevirtual 86, 3) := by decide +kernel
theorem dX12_pour_57 : decode cX12_pour 57 = .ok (.ireturn, 1) := by decide +kernel
theorem dX12_pour_58 : decode cX12_pour 58 = .ok (.aload_n 0, 1) := by decide +kernel
theorem dX12_pour_59 : decode cX12_pour 59 = .ok (.getfield 13, 3) := by decide +kernel
theorem dX12_pour_62 : decode cX12_pour 62 = .ok (.iload_n 1, 1) := by decide +kernel
theorem dX12_pour_63 : decode cX12_pour 63 = .ok (.iaload, 1) := by decide +kernel
theorem dX12_pour_64 : decode cX12_pour 64 = .ok (.aload_n 0, 1) := by decide +kernel
theorem dX12_pour_65 : decode cX12_pour 65 = .ok (.getfield 13, 3) := by decide +kernel
theorem dX12_pour_68 : decode cX12_pour 68 = .ok (.iload_n 3, 1) := by decide +kernel
theorem dX12_pour_69 : decode cX12_pour 69 = .ok (.iaload, 1) := by decide +kernel
theorem dX12_pour_70 : decode cX12_pour 70 = .ok (.if_icmp .eq 10, 3) := by decide +kernel
theorem dX12_pour_73 : decode cX12_pour 73 = .ok (.aload_n 0, 1) := by decide +kernel
theorem dX12_pour_74 : decode cX12_pour 74 = .ok (.bipush 11, 2) := by decide +kernel
theorem dX12_pour_76 : decode cX12_pour 76 = .ok (.invokevirtual 86, 3) := by decide +kernel
theorem dX12_pour_79 : decode cX12_pour 79 = .ok (.ireturn, 1) := by decide +kernel
theorem dX12_pour_80 : decode cX12_pour 80 = .ok (.iload 5, 2) := by decide +kernel
theorem dX12_pour_82 : decode cX12_pour 82 = .ok (.ifCond .ge 10, 3) := by decide +kernel
theorem dX12_pour_85 : decode cX12_pour 85 = .ok (.aload_n 0, 1) := by decide +kernel
theorem dX12_pour_86 : decode cX12_pour 86 = .ok (.bipush 6, 2) := by decide +kernel
theorem dX12_pour_88 : decode cX12_pour 88 = .ok (.invokevirtual 86, 3) := by decide +kernel
theorem dX12_pour_91 : decode cX12_pour 91 = .ok (.ireturn, 1) := by decide +kernel
theorem dX12_pour_92 : decode cX12_pour 92 = .ok (.iload_n 2, 1) := by decide +kernel
theorem dX12_pour_93 : decode cX12_pour 93 = .ok (.ifCond .lt 43, 3) := by decide +kernel
theorem dX12_pour_96 : decode cX12_pour 96 = .ok (.iload 4, 2) := by decide +kernel
theorem dX12_pour_98 : decode cX12_pour 98 = .ok (.ifCond .lt 38, 3) := by decide +kernel
theorem dX12_pour_101 : decode cX12_pour 101 = .ok (.iload_n 2, 1) := by decide +kernel
theorem dX12_pour_102 : decode cX12_pour 102 = .ok (.i2l, 1) := by decide +kernel
theorem dX12_pour_103 : decode cX12_pour 103 = .ok (.iload 5, 2) := by decide +kernel
theorem dX12_pour_105 : decode cX12_pour 105 = .ok (.i2l, 1) := by decide +kernel
theorem dX12_pour_106 : decode cX12_pour 106 = .ok (.ladd, 1) := by decide +kernel
theorem dX12_pour_107 : decode cX12_pour 107 = .ok (.aload_n 0, 1) := by decide +kernel
theorem dX12_pour_108 : decode cX12_pour 108 = .ok (.getfield 17, 3) := by decide +kernel
theorem dX12_pour_111 : decode cX12_pour 111 = .ok (.iload_n 1, 1) := by decide +kernel
theorem dX12_pour_112 : decode cX12_pour 112 = .ok (.iaload, 1) := by decide +kernel
theorem dX12_pour_113 : decode cX12_pour 113 = .ok (.i2l, 1) := by decide +kernel
theorem dX12_pour_114 : decode cX12_pour 114 = .ok (.lcmp, 1) := by decide +kernel
theorem dX12_pour_115 : decode cX12_pour 115 = .ok (.ifCond .gt 21, 3) := by decide +kernel
theorem dX12_pour_118 : decode cX12_pour 118 = .ok (.iload 4, 2) := by decide +kernel
theorem dX12_pour_120 : decode cX12_pour 120 = .ok (.i2l, 1) := by decide +kernel
theorem dX12_pour_121 : decode cX12_pour 121 = .ok (.iload 5, 2) := by decide +kernel
theorem dX12_pour_123 : decode cX12_pour 123 = .ok (.i2l, 1) := by decide +kernel
theorem dX12_pour_124 : decode cX12_pour 124 = .ok (.ladd, 1) := by decide +kernel
theorem dX12_pour_125 : decode cX12_pour 125 = .ok (.aload_n 0, 1) := by decide +kernel
theorem dX12_pour_126 : decode cX12_pour 126 = .ok (.getfield 17, 3) := by decide +kernel
theorem dX12_pour_129 : decode cX12_pour 129 = .ok (.iload_n 3, 1) := by decide +kernel
theorem dX12_pour_130 : decode cX12_pour 130 = .ok (.iaload, 1) := by decide +kernel
theorem dX12_pour_131 : decode cX12_pour 131 = .ok (.i2l, 1) := by decide +kernel
theorem dX12_pour_132 : decode cX12_pour 132 = .ok (.lcmp, 1) := by decide +kernel
theorem dX12_pour_133 : decode cX12_pour 133 = .ok (.ifCond .le 9, 3) := by decide +kernel
theorem dX12_pour_136 : decode cX12_pour 136 = .ok (.aload_n 0, 1) := by decide +kernel
theorem dX12_pour_137 : decode cX12_pour 137 = .ok (.iconst 4, 1) := by decide +kernel
theorem dX12_pour_138 : decode cX12_pour 138 = .ok (.invokevirtual 86, 3) := by decide +kernel
theorem dX12_pour_141 : decode cX12_pour 141 = .ok (.ireturn, 1) := by decide +kernel
theorem dX12_pour_142 : decode cX12_pour 142 = .ok (.iload_n 2, 1) := by decide +kernel
theorem dX12_pour_143 : decode cX12_pour 143 = .ok (.iload 4, 2) := by decide +kernel
theorem dX12_pour_145 : decode cX12_pour 145 = .ok (.if_icmp .ge 7, 3) := by decide +kernel
theorem dX12_pour_148 : decode cX12_pour 148 = .ok (.iconst 1, 1) := by decide +kernel
theorem dX12_pour_149 : decode cX12_pour 149 = .ok (.goto 4, 3) := by decide +kernel
theorem dX12_pour_152 : decode cX12_pour 152 = .ok (.iconst 0, 1) := by decide +kernel
theorem dX12_pour_153 : decode cX12_pour 153 = .ok (.istore 6, 2) := by decide +kernel
theorem dX12_pour_155 : decode cX12_pour 155 = .ok (.iconst 0, 1) := by decide +kernel
theorem dX12_pour_156 : decode cX12_pour 156 = .ok (.istore 7, 2) := by decide +kernel
theorem dX12_pour_158 : decode cX12_pour 158 = .ok (.iload 7, 2) := by decide +kernel
theorem dX12_pour_160 : decode cX12_pour 160 = .ok (.iload 5, 2) := by decide +kernel
theorem dX12_pour_162 : decode cX12_pour 162 = .ok (.if_icmp .ge 57, 3) := by decide +kernel
theorem dX12_pour_165 : decode cX12_pour 165 = .ok (.iload 6, 2) := by decide +kernel
theorem dX12_pour_167 : decode cX12_pour 167 = .ok (.ifCond .eq 13, 3) := by decide +kernel
theorem dX12_pour_170 : decode cX12_pour 170 = .ok (.iload 5, 2) := by decide +kernel
theorem dX12_pour_172 : decode cX12_pour 172 = .ok (.iconst 1, 1) := by decide +kernel
theorem dX12_pour_173 : decode cX12_pour 173 = .ok (.isub, 1) := by decide +kernel
theorem dX12_pour_174 : decode cX12_pour 174 = .ok (.iload 7, 2) := by decide +kernel
theorem dX12_pour_176 : decode cX12_pour 176 = .ok (.isub, 1) := by decide +kernel
theorem dX12_pour_177 : decode cX12_pour 177 = .ok (.goto 5, 3) := by decide +kernel
theorem dX12_pour_180 : decode cX12_pour 180 = .ok (.iload 7, 2) := by decide +kernel
theorem dX12_pour_182 : decode cX12_pour 182 = .ok (.istore 8, 2) := by decide +kernel
theorem dX12_pour_184 : decode cX12_pour 184 = .ok (.aload_n 0, 1) := by decide +kernel
theorem dX12_pour_185 : decode cX12_pour 185 = .ok (.getfield 20, 3) := by decide +kernel
theorem dX12_pour_188 : decode cX12_pour 188 = .ok (.bipush 60, 2) := by decide +kernel
theorem dX12_pour_190 : decode cX12_pour 190 = .ok (.iload_n 3, 1) := by decide +kernel
theorem dX12_pour_191 : decode cX12_pour 191 = .ok (.imul, 1) := by decide +kernel
theorem dX12_pour_192 : decode cX12_pour 192 = .ok (.iload 4, 2) := by decide +kernel
theorem dX12_pour_194 : decode cX12_pour 194 = .ok (.iadd, 1) := by decide +kernel
theorem dX12_pour_195 : decode cX12_pour 195 = .ok (.iload 8, 2) := by decide +kernel
theorem dX12_pour_197 : decode cX12_pour 197 = .ok (.iadd, 1) := by decide +kernel
theorem dX12_pour_198 : decode cX12_pour 198 = .ok (.aload_n 0, 1) := by decide +kernel
theorem dX12_pour_199 : decode cX12_pour 199 = .ok (.getfield 20, 3) := by decide +kernel
theorem dX12_pour_202 : decode cX12_pour 202 = .ok (.bipush 60, 2) := by decide +kernel
theorem dX12_pour_204 : decode cX12_pour 204 = .ok (.iload_n 1, 1) := by decide +kernel
theorem dX12_pour_205 : decode cX12_pour 205 = .ok (.imul, 1) := by decide +kernel
theorem dX12_pour_206 : decode cX12_pour 206 = .ok (.iload_n 2, 1) := by decide +kernel
theorem dX12_pour_207 : decode cX12_pour 207 = .ok (.iadd, 1) := by decide +kernel
theorem dX12_pour_208 : decode cX12_pour 208 = .ok (.iload 8, 2) := by decide +kernel
theorem dX12_pour_210 : decode cX12_pour 210 = .ok (.iadd, 1) := by decide +kernel
theorem dX12_pour_211 : decode cX12_pour 211 = .ok (.laload, 1) := by decide +kernel
theorem dX12_pour_212 : decode cX12_pour 212 = .ok (.lastore, 1) := by decide +kernel
theorem dX12_pour_213 : decode cX12_pour 213 = .ok (.iinc 7 1, 3) := by decide +kernel
theorem dX12_pour_216 : decode cX12_pour 216 = .ok (.goto (-58), 3) := by decide +kernel
theorem dX12_pour_219 : decode cX12_pour 219 = .ok (.iconst 1, 1) := by decide +kernel
theorem dX12_pour_220 : decode cX12_pour 220 = .ok (.ireturn, 1) := by decide +kernel
theorem dX12_numberOf_0 : decode cX12_numberOf 0 = .ok (.aload_n 0, 1) := by decide +kernel
theorem dX12_numberOf_1 : decode cX12_numberOf 1 = .ok (.getfield 20, 3) := by decide +kernel
theorem dX12_numberOf_4 : decode cX12_numberOf 4 = .ok (.bipush 60, 2) := by decide +kernel
theorem dX12_numberOf_6 : decode cX12_numberOf 6 = .ok (.iload_n 1, 1) := by decide +kernel
theorem dX12_numberOf_7 : decode cX12_numberOf 7 = .ok (.imul, 1) := by decide +kernel
theorem dX12_numberOf_8 : decode cX12_numberOf 8 = .ok (.iload_n 2, 1) := by decide +kernel
theorem dX12_numberOf_9 : decode cX12_numberOf 9 = .ok (.iadd, 1) := by decide +kernel
theorem dX12_numberOf_10 : decode cX12_numberOf 10 = .ok (.laload, 1) := by decide +kernel
theorem dX12_numberOf_11 : decode cX12_numberOf 11 = .ok (.lreturn, 1) := by decide +kernel
theorem dX12_isTray_0 : decode cX12_isTray 0 = .ok (.iload_n 1, 1) := by decide +kernel
theorem dX12_isTray_1 : decode cX12_isTray 1 = .ok (.i2l, 1) := by decide +kernel
theorem dX12_isTray_2 : decode cX12_isTray 2 = .ok (.lconst 0, 1) := by decide +kernel
theorem dX12_isTray_3 : decode cX12_isTray 3 = .ok (.ldc2_w 104, 3) := by decide +kernel
theorem dX12_isTray_6 : decode cX12_isTray 6 = .ok (.invokestatic 106, 3) := by decide +kernel
theorem dX12_isTray_9 : decode cX12_isTray 9 = .ok (.ireturn, 1) := by decide +kernel
theorem dX12_has_0 : decode cX12_has 0 = .ok (.iload_n 0, 1) := by decide +kernel
theorem dX12_has_1 : decode cX12_has 1 = .ok (.iload_n 1, 1) := by decide +kernel
theorem dX12_has_2 : decode cX12_has 2 = .ok (.ishr, 1) := by decide +kernel
theorem dX12_has_3 : decode cX12_has 3 = .ok (.iconst 1, 1) := by decide +kernel
theorem dX12_has_4 : decode cX12_has 4 = .ok (.iand, 1) := by decide +kernel
theorem dX12_has_5 : decode cX12_has 5 = .ok (.iconst 1, 1) := by decide +kernel
theorem dX12_has_6 : decode cX12_has 6 = .ok (.if_icmp .ne 7, 3) := by decide +kernel
theorem dX12_has_9 : decode cX12_has 9 = .ok (.iconst 1, 1) := by decide +kernel
theorem dX12_has_10 : decode cX12_has 10 = .ok (.goto 4, 3) := by decide +kernel
theorem dX12_has_13 : decode cX12_has 13 = .ok (.iconst 0, 1) := by decide +kernel
theorem dX12_has_14 : decode cX12_has 14 = .ok (.ireturn, 1) := by decide +kernel
theorem dX12_sizeOf_0 : decode cX12_sizeOf 0 = .ok (.iconst 0, 1) := by decide +kernel
theorem dX12_sizeOf_1 : decode cX12_sizeOf 1 = .ok (.istore_n 1, 1) := by decide +kernel
theorem dX12_sizeOf_2 : decode cX12_sizeOf 2 = .ok (.iconst 0, 1) := by decide +kernel
theorem dX12_sizeOf_3 : decode cX12_sizeOf 3 = .ok (.istore_n 2, 1) := by decide +kernel
theorem dX12_sizeOf_4 : decode cX12_sizeOf 4 = .ok (.iload_n 2, 1) := by decide +kernel
theorem dX12_sizeOf_5 : decode cX12_sizeOf 5 = .ok (.bipush 8, 2) := by decide +kernel
theorem dX12_sizeOf_7 : decode cX12_sizeOf 7 = .ok (.if_icmp .ge 25, 3) := by decide +kernel
theorem dX12_sizeOf_10 : decode cX12_sizeOf 10 = .ok (.iload_n 1, 1) := by decide +kernel
theorem dX12_sizeOf_11 : decode cX12_sizeOf 11 = .ok (.iload_n 0, 1) := by decide +kernel
theorem dX12_sizeOf_12 : decode cX12_sizeOf 12 = .ok (.iload_n 2, 1) := by decide +kernel
theorem dX12_sizeOf_13 : decode cX12_sizeOf 13 = .ok (.invokestatic 110, 3) := by decide +kernel
theorem dX12_sizeOf_16 : decode cX12_sizeOf 16 = .ok (.ifCond .eq 7, 3) := by decide +kernel
theorem dX12_sizeOf_19 : decode cX12_sizeOf 19 = .ok (.iconst 1, 1) := by decide +kernel
theorem dX12_sizeOf_20 : decode cX12_sizeOf 20 = .ok (.goto 4, 3) := by decide +kernel
theorem dX12_sizeOf_23 : decode cX12_sizeOf 23 = .ok (.iconst 0, 1) := by decide +kernel
theorem dX12_sizeOf_24 : decode cX12_sizeOf 24 = .ok (.iadd, 1) := by decide +kernel
theorem dX12_sizeOf_25 : decode cX12_sizeOf 25 = .ok (.istore_n 1, 1) := by decide +kernel
theorem dX12_sizeOf_26 : decode cX12_sizeOf 26 = .ok (.iinc 2 1, 3) := by decide +kernel
theorem dX12_sizeOf_29 : decode cX12_sizeOf 29 = .ok (.goto (-25), 3) := by decide +kernel
theorem dX12_sizeOf_32 : decode cX12_sizeOf 32 = .ok (.iload_n 1, 1) := by decide +kernel
theorem dX12_sizeOf_33 : decode cX12_sizeOf 33 = .ok (.ireturn, 1) := by decide +kernel
theorem dX12_look2_0 : decode cX12_look2 0 = .ok (.iload_n 1, 1) := by decide +kernel
theorem dX12_look2_1 : decode cX12_look2 1 = .ok (.aload_n 0, 1) := by decide +kernel
theorem dX12_look2_2 : decode cX12_look2 2 = .ok (.getfield 114, 3) := by decide +kernel
theorem dX12_look2_5 : decode cX12_look2 5 = .ok (.if_icmp .ge 16, 3) := by decide +kernel
theorem dX12_look2_8 : decode cX12_look2 8 = .ok (.aload_n 0, 1) := by decide +kernel
theorem dX12_look2_9 : decode cX12_look2 9 = .ok (.getfield 24, 3) := by decide +kernel
theorem dX12_look2_12 : decode cX12_look2 12 = .ok (.iload_n 1, 1) := by decide +kernel
theorem dX12_look2_13 : decode cX12_look2 13 = .ok (.baload, 1) := by decide +kernel
theorem dX12_look2_14 : decode cX12_look2 14 = .ok (.sipush 255, 3) := by decide +kernel
theorem dX12_look2_17 : decode cX12_look2 17 = .ok (.iand, 1) := by decide +kernel
theorem dX12_look2_18 : decode cX12_look2 18 = .ok (.goto 4, 3) := by decide +kernel
theorem dX12_look2_21 : decode cX12_look2 21 = .ok (.iconst 0, 1) := by decide +kernel
theorem dX12_look2_22 : decode cX12_look2 22 = .ok (.ireturn, 1) := by decide +kernel
theorem dX12_isLetter_0 : decode cX12_isLetter 0 = .ok (.iload_n 0, 1) := by decide +kernel
theorem dX12_isLetter_1 : decode cX12_isLetter 1 = .ok (.bipush 97, 2) := by decide +kernel
theorem dX12_isLetter_3 : decode cX12_isLetter 3 = .ok (.if_icmp .lt 13, 3) := by decide +kernel
theorem dX12_isLetter_6 : decode cX12_isLetter 6 = .ok (.iload_n 0, 1) := by decide +kernel
theorem dX12_isLetter_7 : decode cX12_isLetter 7 = .ok (.bipush 122, 2) := by decide +kernel
theorem dX12_isLetter_9 : decode cX12_isLetter 9 = .ok (.if_icmp .gt 7, 3) := by decide +kernel
theorem dX12_isLetter_12 : decode cX12_isLetter 12 = .ok (.iconst 1, 1) := by decide +kernel
theorem dX12_isLetter_13 : decode cX12_isLetter 13 = .ok (.goto 4, 3) := by decide +kernel
theorem dX12_isLetter_16 : decode cX12_isLetter 16 = .ok (.iconst 0, 1) := by decide +kernel
theorem dX12_isLetter_17 : decode cX12_isLetter 17 = .ok (.ireturn, 1) := by decide +kernel
theorem dX12_isDigit_0 : decode cX12_isDigit 0 = .ok (.iload_n 0, 1) := by decide +kernel
theorem dX12_isDigit_1 : decode cX12_isDigit 1 = .ok (.bipush 48, 2) := by decide +kernel
theorem dX12_isDigit_3 : decode cX12_isDigit 3 = .ok (.if_icmp .lt 13, 3) := by decide +kernel
theorem dX12_isDigit_6 : decode cX12_isDigit 6 = .ok (.iload_n 0, 1) := by decide +kernel
theorem dX12_isDigit_7 : decode cX12_isDigit 7 = .ok (.bipush 57, 2) := by decide +kernel
theorem dX12_isDigit_9 : decode cX12_isDigit 9 = .ok (.if_icmp .gt 7, 3) := by decide +kernel
theorem dX12_isDigit_12 : decode cX12_isDigit 12 = .ok (.iconst 1, 1) := by decide +kernel
theorem dX12_isDigit_13 : decode cX12_isDigit 13 = .ok (.goto 4, 3) := by decide +kernel
theorem dX12_isDigit_16 : decode cX12_isDigit 16 = .ok (.iconst 0, 1) := by decide +kernel
theorem dX12_isDigit_17 : decode cX12_isDigit 17 = .ok (.ireturn, 1) := by decide +kernel
theorem dX12_isSignByte_0 : decode cX12_isSignByte 0 = .ok (.iload_n 1, 1) := by decide +kernel
theorem dX12_isSignByte_1 : decode cX12_isSignByte 1 = .ok (.bipush 59, 2) := by decide +kernel
theorem dX12_isSignByte_3 : decode cX12_isSignByte 3 = .ok (.if_icmp .eq 21, 3) := by decide +kernel
theorem dX12_isSignByte_6 : decode cX12_isSignByte 6 = .ok (.iload_n 1, 1) := by decide +kernel
theorem dX12_isSignByte_7 : decode cX12_isSignByte 7 = .ok (.bipush 60, 2) := by decide +kernel
theorem dX12_isSignByte_9 : decode cX12_isSignByte 9 = .ok (.if_icmp .eq 15, 3) := by decide +kernel
theorem dX12_isSignByte_12 : decode cX12_isSignByte 12 = .ok (.iload_n 1, 1) := by decide +kernel
theorem dX12_isSignByte_13 : decode cX12_isSignByte 13 = .ok (.bipush 62, 2) := by decide +kernel
theorem dX12_isSignByte_15 : decode cX12_isSignByte 15 = .ok (.if_icmp .eq 9, 3) := by decide +kernel
theorem dX12_isSignByte_18 : decode cX12_isSignByte 18 = .ok (.iload_n 1, 1) := by decide +kernel
theorem dX12_isSignByte_19 : decode cX12_isSignByte 19 = .ok (.bipush 61, 2) := by decide +kernel
theorem dX12_isSignByte_21 : decode cX12_isSignByte 21 = .ok (.if_icmp .ne 7, 3) := by decide +kernel
theorem dX12_isSignByte_24 : decode cX12_isSignByte 24 = .ok (.iconst 1, 1) := by decide +kernel
theorem dX12_isSignByte_25 : decode cX12_isSignByte 25 = .ok (.goto 4, 3) := by decide +kernel
theorem dX12_isSignByte_28 : decode cX12_isSignByte 28 = .ok (.iconst 0, 1) := by decide +kernel
theorem dX12_isSignByte_29 : decode cX12_isSignByte 29 = .ok (.ireturn, 1) := by decide +kernel
theorem dX12_advance_0 : decode cX12_advance 0 = .ok (.aload_n 0, 1) := by decide +kernel
theorem dX12_advance_1 : decode cX12_advance 1 = .ok (.aload_n 0, 1) := by decide +kernel
theorem dX12_advance_2 : decode cX12_advance 2 = .ok (.getfield 117, 3) := by decide +kernel
theorem dX12_advance_5 : decode cX12_advance 5 = .ok (.putfield 120, 3) := by decide +kernel
theorem dX12_advance_8 : decode cX12_advance 8 = .ok (.aload_n 0, 1) := by decide +kernel
theorem dX12_advance_9 : decode cX12_advance 9 = .ok (.getfield 120, 3) := by decide +kernel
theorem dX12_advance_12 : decode cX12_advance 12 = .ok (.aload_n 0, 1) := by decide +kernel
theorem dX12_advance_13 : decode cX12_advance 13 = .ok (.getfield 114, 3) := by decide +kernel
theorem dX12_advance_16 : decode cX12_advance 16 = .ok (.if_icmp .ge 42, 3) := by decide +kernel
theorem dX12_advance_19 : decode cX12_advance 19 = .ok (.aload_n 0, 1) := by decide +kernel
theorem dX12_advance_20 : decode cX12_advance 20 = .ok (.aload_n 0, 1) := by decide +kernel
theorem dX12_advance_21 : decode cX12_advance 21 = .ok (.getfield 120, 3) := by decide +kernel
theorem dX12_advance_24 : decode cX12_advance 24 = .ok (.invokevirtual 123, 3) := by decide +kernel
theorem dX12_advance_27 : decode cX12_advance 27 = .ok (.bipush 10, 2) := by decide +kernel
theorem dX12_advance_29 : decode cX12_advance 29 = .ok (.if_icmp .eq 16, 3) := by decide +kernel
theorem dX12_advance_32 : decode cX12_advance 32 = .ok (.aload_n 0, 1) := by decide +kernel
theorem dX12_advance_33 : decode cX12_advance 33 = .ok (.aload_n 0, 1) := by decide +kernel
theorem dX12_advance_34 : decode cX12_advance 34 = .ok (.getfield 120, 3) := by decide +kernel
theorem dX12_advance_37 : decode cX12_advance 37 = .ok (.invokevirtual 123, 3) := by decide +kernel
theorem dX12_advance_40 : decode cX12_advance 40 = .ok (.bipush 32, 2) := by decide +kernel
theorem dX12_advance_42 : decode cX12_advance 42 = .ok (.if_icmp .ne 16, 3) := by decide +kernel
theorem dX12_advance_45 : decode cX12_advance 45 = .ok (.aload_n 0, 1) := by decide +kernel
theorem dX12_advance_46 : decode cX12_advance 46 = .ok (.dup, 1) := by decide +kernel
theorem dX12_advance_47 : decode cX12_advance 47 = .ok (.getfield 120, 3) := by decide +kernel
theorem dX12_advance_50 : decode cX12_advance 50 = .ok (.iconst 1, 1) := by decide +kernel
theorem dX12_advance_51 : decode cX12_advance 51 = .ok (.iadd, 1) := by decide +kernel
theorem dX12_advance_52 : decode cX12_advance 52 = .ok (.putfield 120, 3) := by decide +kernel
theorem dX12_advance_55 : decode cX12_advance 55 = .ok (.goto (-47), 3) := by decide +kernel
theorem dX12_advance_58 : decode cX12_advance 58 = .ok (.aload_n 0, 1) := by decide +kernel
theorem dX12_advance_59 : decode cX12_advance 59 = .ok (.aload_n 0, 1) := by decide +kernel
theorem dX12_advance_60 : decode cX12_advance 60 = .ok (.getfield 120, 3) := by decide +kernel
theorem dX12_advance_63 : decode cX12_advance 63 = .ok (.putfield 117, 3) := by decide +kernel
theorem dX12_advance_66 : decode cX12_advance 66 = .ok (.aload_n 0, 1) := by decide +kernel
theorem dX12_advance_67 : decode cX12_advance 67 = .ok (.getfield 120, 3) := by decide +kernel
theorem dX12_advance_70 : decode cX12_advance 70 = .ok (.aload_n 0, 1) := by decide +kernel
theorem dX12_advance_71 : decode cX12_advance 71 = .ok (.getfield 114, 3) := by decide +kernel
theorem dX12_advance_74 : decode cX12_advance 74 = .ok (.if_icmp .lt 9, 3) := by decide +kernel
theorem dX12_advance_77 : decode cX12_advance 77 = .ok (.aload_n 0, 1) := by decide +kernel
theorem dX12_advance_78 : decode cX12_advance 78 = .ok (.iconst 0, 1) := by decide +kernel
theorem dX12_advance_79 : decode cX12_advance 79 = .ok (.putfield 126, 3) := by decide +kernel
theorem dX12_advance_82 : decode cX12_advance 82 = .ok (.return_, 1) := by decide +kernel
theorem dX12_advance_83 : decode cX12_advance 83 = .ok (.aload_n 0, 1) := by decide +kernel
theorem dX12_advance_84 : decode cX12_advance 84 = .ok (.aload_n 0, 1) := by decide +kernel
theorem dX12_advance_85 : decode cX12_advance 85 = .ok (.getfield 120, 3) := by decide +kernel
theorem dX12_advance_88 : decode cX12_advance 88 = .ok (.invokevirtual 123, 3) := by decide +kernel
theorem dX12_advance_91 : decode cX12_advance 91 = .ok (.istore_n 1, 1) := by decide +kernel
theorem dX12_advance_92 : decode cX12_advance 92 = .ok (.iload_n 1, 1) := by decide +kernel
theorem dX12_advance_93 : decode cX12_advance 93 = .ok (.invokestatic 129, 3) := by decide +kernel
theorem dX12_advance_96 : decode cX12_advance 96 = .ok (.ifCond .eq 102, 3) := by decide +kernel
theorem dX12_advance_99 : decode cX12_advance 99 = .ok (.aload_n 0, 1) := by decide +kernel
theorem dX12_advance_100 : decode cX12_advance 100 = .ok (.iconst 1, 1) := by decide +kernel
theorem dX12_advance_101 : decode cX12_advance 101 = .ok (.putfield 126, 3) := by decide +kernel
theorem dX12_advance_104 : decode cX12_advance 104 = .ok (.aload_n 0, 1) := by decide +kernel
theorem dX12_advance_105 : decode cX12_advance 105 = .ok (.lconst 0, 1) := by decide +kernel
theorem dX12_advance_106 : decode cX12_advance 106 = .ok (.putfield 132, 3) := by decide +kernel
theorem dX12_advance_109 : decode cX12_advance 109 = .ok (.aload_n 0, 1) := by decide +kernel
theorem dX12_advance_110 : decode cX12_advance 110 = .ok (.aload_n 0, 1) := by decide +kernel
theorem dX12_advance_111 : decode cX12_advance 111 = .ok (.getfield 117, 3) := by decide +kernel
theorem dX12_advance_114 : decode cX12_advance 114 = .ok (.invokevirtual 123, 3) := by decide +kernel
theorem dX12_advance_117 : decode cX12_advance 117 = .ok (.invokestatic 129, 3) := by decide +kernel
theorem dX12_advance_120 : decode cX12_advance 120 = .ok (.ifCond .eq 62, 3) := by decide +kernel
theorem dX12_advance_123 : decode cX12_advance 123 = .ok (.aload_n 0, 1) := by decide +kernel
theorem dX12_advance_124 : decode cX12_advance 124 = .ok (.aload_n 0, 1) := by decide +kernel
theorem dX12_advance_125 : decode cX12_advance 125 = .ok (.getfield 117, 3) := by decide +kernel
theorem dX12_advance_128 : decode cX12_advance 128 = .ok (.aload_n 0, 1) := by decide +kernel
theorem dX12_advance_129 : decode cX12_advance 129 = .ok (.getfield 120, 3) := by decide +kernel
theorem dX12_advance_132 : decode cX12_advance 132 = .ok (.isub, 1) := by decide +kernel
theorem dX12_advance_133 : decode cX12_advance 133 = .ok (.bipush 8, 2) := by decide +kernel
theorem dX12_advance_135 : decode cX12_advance 135 = .ok (.if_icmp .ge 28, 3) := by decide +kernel
theorem dX12_advance_138 : decode cX12_advance 138 = .ok (.aload_n 0, 1) := by decide +kernel
theorem dX12_advance_139 : decode cX12_advance 139 = .ok (.getfield 132, 3) := by decide +kernel
theorem dX12_advance_142 : decode cX12_advance 142 = .ok (.ldc2_w 135, 3) := by decide +kernel
theorem dX12_advance_145 : decode cX12_advance 145 = .ok (.lmul, 1) := by decide +kernel
theorem dX12_advance_146 : decode cX12_advance 146 = .ok (.aload_n 0, 1) := by decide +kernel
theorem dX12_advance_147 : decode cX12_advance 147 = .ok (.aload_n 0, 1) := by decide +kernel
theorem dX12_advance_148 : decode cX12_advance 148 = .ok (.getfield 117, 3) := by decide +kernel
theorem dX12_advance_151 : decode cX12_advance 151 = .ok (.invokevirtual 123, 3) := by decide +kernel
theorem dX12_advance_154 : decode cX12_advance 154 = .ok (.i2l, 1) := by decide +kernel
theorem dX12_advance_155 : decode cX12_advance 155 = .ok (.ladd, 1) := by decide +kernel
theorem dX12_advance_156 : decode cX12_advance 156 = .ok (.ldc2_w 137, 3) := by decide +kernel
theorem dX12_advance_159 : decode cX12_advance 159 = .ok (.lsub, 1) := by decide +kernel
theorem dX12_advance_160 : decode cX12_advance 160 = .ok (.goto 6, 3) := by decide +kernel
theorem dX12_advance_163 : decode cX12_advance 163 = .ok (.ldc2_w 102, 3) := by decide +kernel
theorem dX12_advance_166 : decode cX12_advance 166 = .ok (.putfield 132, 3) := by decide +kernel
theorem dX12_advance_169 : decode cX12_advance 169 = .ok (.aload_n 0, 1) := by decide +kernel
theorem dX12_advance_170 : decode cX12_advance 170 = .ok (.dup, 1) := by decide +kernel
theorem dX12_advance_171 : decode cX12_advance 171 = .ok (.getfield 117, 3) := by decide +kernel
theorem dX12_advance_174 : decode cX12_advance 174 = .ok (.iconst 1, 1) := by decide +kernel
theorem dX12_advance_175 : decode cX12_advance 175 = .ok (.iadd, 1) := by decide +kernel
theorem dX12_advance_176 : decode cX12_advance 176 = .ok (.putfield 117, 3) := by decide +kernel
theorem dX12_advance_179 : decode cX12_advance 179 = .ok (.goto (-70), 3) := by decide +kernel
theorem dX12_advance_182 : decode cX12_advance 182 = .ok (.aload_n 0, 1) := by decide +kernel
theorem dX12_advance_183 : decode cX12_advance 183 = .ok (.aload_n 0, 1) := by decide +kernel
theorem dX12_advance_184 : decode cX12_advance 184 = .ok (.getfield 117, 3) := by decide +kernel
theorem dX12_advance_187 : decode cX12_advance 187 = .ok (.aload_n 0, 1) := by decide +kernel
theorem dX12_advance_188 : decode cX12_advance 188 = .ok (.getfield 120, 3) := by decide +kernel
theorem dX12_advance_191 : decode cX12_advance 191 = .ok (.isub, 1) := by decide +kernel
theorem dX12_advance_192 : decode cX12_advance 192 = .ok (.putfield 139, 3) := by decide +kernel
theorem dX12_advance_195 : decode cX12_advance 195 = .ok (.goto 135, 3) := by decide +kernel
theorem dX12_advance_198 : decode cX12_advance 198 = .ok (.iload_n 1, 1) := by decide +kernel
theorem dX12_advance_199 : decode cX12_advance 199 = .ok (.invokestatic 142, 3) := by decide +kernel
theorem dX12_advance_202 : decode cX12_advance 202 = .ok (.ifCond .eq 96, 3) := by decide +kernel
theorem dX12_advance_205 : decode cX12_advance 205 = .ok (.aload_n 0, 1) := by decide +kernel
theorem dX12_advance_206 : decode cX12_advance 206 = .ok (.iconst 0, 1) := by decide +kernel
theorem dX12_advance_207 : decode cX12_advance 207 = .ok (.putfield 145, 3) := by decide +kernel
theorem dX12_advance_210 : decode cX12_advance 210 = .ok (.aload_n 0, 1) := by decide +kernel
theorem dX12_advance_211 : decode cX12_advance 211 = .ok (.aload_n 0, 1) := by decide +kernel
theorem dX12_advance_212 : decode cX12_advance 212 = .ok (.getfield 117, 3) := by decide +kernel
theorem dX12_advance_215 : decode cX12_advance 215 = .ok (.invokevirtual 123, 3) := by decide +kernel
theorem dX12_advance_218 : decode cX12_advance 218 = .ok (.invokestatic 142, 3) := by decide +kernel
theorem dX12_advance_221 : decode cX12_advance 221 = .ok (.ifCond .eq 52, 3) := by decide +kernel
theorem dX12_advance_224 : decode cX12_advance 224 = .ok (.aload_n 0, 1) := by decide +kernel
theorem dX12_advance_225 : decode cX12_advance 225 = .ok (.getfield 117, 3) := by decide +kernel
theorem dX12_advance_228 : decode cX12_advance 228 = .ok (.aload_n 0, 1) := by decide +kernel
theorem dX12_advance_229 : decode cX12_advance 229 = .ok (.getfield 120, 3) := by decide +kernel
theorem dX12_advance_232 : decode cX12_advance 232 = .ok (.isub, 1) := by decide +kernel
theorem dX12_advance_233 : decode cX12_advance 233 = .ok (.iconst 4, 1) := by decide +kernel
theorem dX12_advance_234 : decode cX12_advance 234 = .ok (.if_icmp .ge 26, 3) := by decide +kernel
theorem dX12_advance_237 : decode cX12_advance 237 = .ok (.aload_n 0, 1) := by decide +kernel
theorem dX12_advance_238 : decode cX12_advance 238 = .ok (.bipush 10, 2) := by decide +kernel
theorem dX12_advance_240 : decode cX12_advance 240 = .ok (.aload_n 0, 1) := by decide +kernel
theorem dX12_advance_241 : decode cX12_advance 241 = .ok (.getfield 145, 3) := by decide +kernel
theorem dX12_advance_244 : decode cX12_advance 244 = .ok (.imul, 1) := by decide +kernel
theorem dX12_advance_245 : decode cX12_advance 245 = .ok (.aload_n 0, 1) := by decide +kernel
theorem dX12_advance_246 : decode cX12_advance 246 = .ok (.aload_n 0, 1) := by decide +kernel
theorem dX12_advance_247 : decode cX12_advance 247 = .ok (.getfield 117, 3) := by decide +kernel
theorem dX12_advance_250 : decode cX12_advance 250 = .ok (.invokevirtual 123, 3) := by decide +kernel
theorem dX12_advance_253 : decode cX12_advance 253 = .ok (.iadd, 1) := by decide +kernel
theorem dX12_advance_254 : decode cX12_advance 254 = .ok (.bipush 48, 2) := by decide +kernel
theorem dX12_advance_256 : decode cX12_advance 256 = .ok (.isub, 1) := by decide +kernel
theorem dX12_advance_257 : decode cX12_advance 257 = .ok (.putfield 145, 3) := by decide +kernel
theorem dX12_advance_260 : decode cX12_advance 260 = .ok (.aload_n 0, 1) := by decide +kernel
theorem dX12_advance_261 : decode cX12_advance 261 = .ok (.dup, 1) := by decide +kernel
theorem dX12_advance_262 : decode cX12_advance 262 = .ok (.getfield 117, 3) := by decide +kernel
theorem dX12_advance_265 : decode cX12_advance 265 = .ok (.iconst 1, 1) := by decide +kernel
theorem dX12_advance_266 : decode cX12_advance 266 = .ok (.iadd, 1) := by decide +kernel
theorem dX12_advance_267 : decode cX12_advance 267 = .ok (.putfield 117, 3) := by decide +kernel
theorem dX12_advance_270 : decode cX12_advance 270 = .ok (.goto (-60), 3) := by decide +kernel
theorem dX12_advance_273 : decode cX12_advance 273 = .ok (.aload_n 0, 1) := by decide +kernel
theorem dX12_advance_274 : decode cX12_advance 274 = .ok (.aload_n 0, 1) := by decide +kernel
theorem dX12_advance_275 : decode cX12_advance 275 = .ok (.getfield 117, 3) := by decide +kernel
theorem dX12_advance_278 : decode cX12_advance 278 = .ok (.aload_n 0, 1) := by decide +kernel
theorem dX12_advance_279 : decode cX12_advance 279 = .ok (.getfield 120, 3) := by decide +kernel
theorem dX12_advance_282 : decode cX12_advance 282 = .ok (.isub, 1) := by decide +kernel
theorem dX12_advance_283 : decode cX12_advance 283 = .ok (.iconst 4, 1) := by decide +kernel
theorem dX12_advance_284 : decode cX12_advance 284 = .ok (.if_icmp .le 7, 3) := by decide +kernel
theorem dX12_advance_287 : decode cX12_advance 287 = .ok (.iconst 4, 1) := by decide +kernel
theorem dX12_advance_288 : decode cX12_advance 288 = .ok (.goto 4, 3) := by decide +kernel
theorem dX12_advance_291 : decode cX12_advance 291 = .ok (.iconst 2, 1) := by decide +kernel
theorem dX12_advance_292 : decode cX12_advance 292 = .ok (.putfield 126, 3) := by decide +kernel
theorem dX12_advance_295 : decode cX12_advance 295 = .ok (.goto 35, 3) := by decide +kernel
theorem dX12_advance_298 : decode cX12_advance 298 = .ok (.aload_n 0, 1) := by decide +kernel
theorem dX12_advance_299 : decode cX12_advance 299 = .ok (.aload_n 0, 1) := by decide +kernel
theorem dX12_advance_300 : decode cX12_advance 300 = .ok (.getfield 120, 3) := by decide +kernel
theorem dX12_advance_303 : decode cX12_advance 303 = .ok (.iconst 1, 1) := by decide +kernel
theorem dX12_advance_304 : decode cX12_advance 304 = .ok (.iadd, 1) := by decide +kernel
theorem dX12_advance_305 : decode cX12_advance 305 = .ok (.putfield 117, 3) := by decide +kernel
theorem dX12_advance_308 : decode cX12_advance 308 = .ok (.aload_n 0, 1) := by decide +kernel
theorem dX12_advance_309 : decode cX12_advance 309 = .ok (.iload_n 1, 1) := by decide +kernel
theorem dX12_advance_310 : decode cX12_advance 310 = .ok (.putfield 145, 3) := by decide +kernel
theorem dX12_advance_313 : decode cX12_advance 313 = .ok (.aload_n 0, 1) := by decide +kernel
theorem dX12_advance_314 : decode cX12_advance 314 = .ok (.aload_n 0, 1) := by decide +kernel
theorem dX12_advance_315 : decode cX12_advance 315 = .ok (.iload_n 1, 1) := by decide +kernel
theorem dX12_advance_316 : decode cX12_advance 316 = .ok (.invokevirtual 148, 3) := by decide +kernel
theorem dX12_advance_319 : decode cX12_advance 319 = .ok (.ifCond .eq 7, 3) := by decide +kernel
theorem dX12_advance_322 : decode cX12_advance 322 = .ok (.iconst 3, 1) := by decide +kernel
theorem dX12_advance_323 : decode cX12_advance 323 = .ok (.goto 4, 3) := by decide +kernel
theorem dX12_advance_326 : decode cX12_advance 326 = .ok (.iconst 4, 1) := by decide +kernel
theorem dX12_advance_327 : decode cX12_advance 327 = .ok (.putfield 126, 3) := by decide +kernel
theorem dX12_advance_330 : decode cX12_advance 330 = .ok (.return_, 1) := by decide +kernel
theorem dX12_isSign_0 : decode cX12_isSign 0 = .ok (.aload_n 0, 1) := by decide +kernel
theorem dX12_isSign_1 : decode cX12_isSign 1 = .ok (.getfield 126, 3) := by decide +kernel
theorem dX12_isSign_4 : decode cX12_isSign 4 = .ok (.iconst 3, 1) := by decide +kernel
theorem dX12_isSign_5 : decode cX12_isSign 5 = .ok (.if_icmp .ne 15, 3) := by decide +kernel
theorem dX12_isSign_8 : decode cX12_isSign 8 = .ok (.aload_n 0, 1) := by decide +kernel
theorem dX12_isSign_9 : decode cX12_isSign 9 = .ok (.getfield 145, 3) := by decide +kernel
theorem dX12_isSign_12 : decode cX12_isSign 12 = .ok (.iload_n 1, 1) := by decide +kernel
theorem dX12_isSign_13 : decode cX12_isSign 13 = .ok (.if_icmp .ne 7, 3) := by decide +kernel
theorem dX12_isSign_16 : decode cX12_isSign 16 = .ok (.iconst 1, 1) := by decide +kernel
theorem dX12_isSign_17 : decode cX12_isSign 17 = .ok (.goto 4, 3) := by decide +kernel
theorem dX12_isSign_20 : decode cX12_isSign 20 = .ok (.iconst 0, 1) := by decide +kernel
theorem dX12_isSign_21 : decode cX12_isSign 21 = .ok (.ireturn, 1) := by decide +kernel
theorem dX12_spelled_0 : decode cX12_spelled 0 = .ok (.iload_n 0, 1) := by decide +kernel
theorem dX12_spelled_1 : decode cX12_spelled 1 = .ok (.i2l, 1) := by decide +kernel
theorem dX12_spelled_2 : decode cX12_spelled 2 = .ok (.ldc2_w 137, 3) := by decide +kernel
theorem dX12_spelled_5 : decode cX12_spelled 5 = .ok (.lsub, 1) := by decide +kernel
theorem dX12_spelled_6 : decode cX12_spelled 6 = .ok (.ldc2_w 135, 3) := by decide +kernel
theorem dX12_spelled_9 : decode cX12_spelled 9 = .ok (.lmul, 1) := by decide +kernel
theorem dX12_spelled_10 : decode cX12_spelled 10 = .ok (.iload_n 1, 1) := by decide +kernel
theorem dX12_spelled_11 : decode cX12_spelled 11 = .ok (.i2l, 1) := by decide +kernel
theorem dX12_spelled_12 : decode cX12_spelled 12 = .ok (.ladd, 1) := by decide +kernel
theorem dX12_spelled_13 : decode cX12_spelled 13 = .ok (.ldc2_w 137, 3) := by decide +kernel
theorem dX12_spelled_16 : decode cX12_spelled 16 = .ok (.lsub, 1) := by decide +kernel
theorem dX12_spelled_17 : decode cX12_spelled 17 = .ok (.lstore 6, 2) := by decide +kernel
theorem dX12_spelled_19 : decode cX12_spelled 19 = .ok (.iload_n 2, 1) := by decide +kernel
theorem dX12_spelled_20 : decode cX12_spelled 20 = .ok (.ifCond .le 19, 3) := by decide +kernel
theorem dX12_spelled_23 : decode cX12_spelled 23 = .ok (.lload 6, 2) := by decide +kernel
theorem dX12_spelled_25 : decode cX12_spelled 25 = .ok (.ldc2_w 135, 3) := by decide +kernel
theorem dX12_spelled_28 : decode cX12_spelled 28 = .ok (.lmul, 1) := by decide +kernel
theorem dX12_spelled_29 : decode cX12_spelled 29 = .ok (.iload_n 2, 1) := by decide +kernel
theorem dX12_spelled_30 : decode cX12_spelled 30 = .ok (.i2l, 1) := by decide +kernel
theorem dX12_spelled_31 : decode cX12_spelled 31 = .ok (.ladd, 1) := by decide +kernel
theorem dX12_spelled_32 : decode cX12_spelled 32 = .ok (.ldc2_w 137, 3) := by decide +kernel
theorem dX12_spelled_35 : decode cX12_spelled 35 = .ok (.lsub, 1) := by decide +kernel
theorem dX12_spelled_36 : decode cX12_spelled 36 = .ok (.goto 5, 3) := by decide +kernel
theorem dX12_spelled_39 : decode cX12_spelled 39 = .ok (.lload 6, 2) := by decide +kernel
theorem dX12_spelled_41 : decode cX12_spelled 41 = .ok (.lstore 6, 2) := by decide +kernel
theorem dX12_spelled_43 : decode cX12_spelled 43 = .ok (.iload_n 3, 1) := by decide +kernel
theorem dX12_spelled_44 : decode cX12_spelled 44 = .ok (.ifCond .le 19, 3) := by decide +kernel
theorem dX12_spelled_47 : decode cX12_spelled 47 = .ok (.lload 6, 2) := by decide +kernel
theorem dX12_spelled_49 : decode cX12_spelled 49 = .ok (.ldc2_w 135, 3) := by decide +kernel
theorem dX12_spelled_52 : decode cX12_spelled 52 = .ok (.lmul, 1) := by decide +kernel
theorem dX12_spelled_53 : decode cX12_spelled 53 = .ok (.iload_n 3, 1) := by decide +kernel
theorem dX12_spelled_54 : decode cX12_spelled 54 = .ok (.i2l, 1) := by decide +kernel
theorem dX12_spelled_55 : decode cX12_spelled 55 = .ok (.ladd, 1) := by decide +kernel
theorem dX12_spelled_56 : decode cX12_spelled 56 = .ok (.ldc2_w 137, 3) := by decide +kernel
theorem dX12_spelled_59 : decode cX12_spelled 59 = .ok (.lsub, 1) := by decide +kernel
theorem dX12_spelled_60 : decode cX12_spelled 60 = .ok (.goto 5, 3) := by decide +kernel
theorem dX12_spelled_63 : decode cX12_spelled 63 = .ok (.lload 6, 2) := by decide +kernel
theorem dX12_spelled_65 : decode cX12_spelled 65 = .ok (.lstore 6, 2) := by decide +kernel
theorem dX12_spelled_67 : decode cX12_spelled 67 = .ok (.iload 4, 2) := by decide +kernel
theorem dX12_spelled_69 : decode cX12_spelled 69 = .ok (.ifCond .le 20, 3) := by decide +kernel
theorem dX12_spelled_72 : decode cX12_spelled 72 = .ok (.lload 6, 2) := by decide +kernel
theorem dX12_spelled_74 : decode cX12_spelled 74 = .ok (.ldc2_w 135, 3) := by decide +kernel
theorem dX12_spelled_77 : decode cX12_spelled 77 = .ok (.lmul, 1) := by decide +kernel
theorem dX12_spelled_78 : decode cX12_spelled 78 = .ok (.iload 4, 2) := by decide +kernel
theorem dX12_spelled_80 : decode cX12_spelled 80 = .ok (.i2l, 1) := by decide +kernel
theorem dX12_spelled_81 : decode cX12_spelled 81 = .ok (.ladd, 1) := by decide +kernel
theorem dX12_spelled_82 : decode cX12_spelled 82 = .ok (.ldc2_w 137, 3) := by decide +kernel
theorem dX12_spelled_85 : decode cX12_spelled 85 = .ok (.lsub, 1) := by decide +kernel
theorem dX12_spelled_86 : decode cX12_spelled 86 = .ok (.goto 5, 3) := by decide +kernel
theorem dX12_spelled_89 : decode cX12_spelled 89 = .ok (.lload 6, 2) := by decide +kernel
theorem dX12_spelled_91 : decode cX12_spelled 91 = .ok (.lstore 6, 2) := by decide +kernel
theorem dX12_spelled_93 : decode cX12_spelled 93 = .ok (.iload 5, 2) := by decide +kernel
theorem dX12_spelled_95 : decode cX12_spelled 95 = .ok (.ifCond .le 20, 3) := by decide +kernel
theorem dX12_spelled_98 : decode cX12_spelled 98 = .ok (.lload 6, 2) := by decide +kernel
theorem dX12_spelled_100 : decode cX12_spelled 100 = .ok (.ldc2_w 135, 3) := by decide +kernel
theorem dX12_spelled_103 : decode cX12_spelled 103 = .ok (.lmul, 1) := by decide +kernel
theorem dX12_spelled_104 : decode cX12_spelled 104 = .ok (.iload 5, 2) := by decide +kernel
theorem dX12_spelled_106 : decode cX12_spelled 106 = .ok (.i2l, 1) := by decide +kernel
theorem dX12_spelled_107 : decode cX12_spelled 107 = .ok (.ladd, 1) := by decide +kernel
theorem dX12_spelled_108 : decode cX12_spelled 108 = .ok (.ldc2_w 137, 3) := by decide +kernel
theorem dX12_spelled_111 : decode cX12_spelled 111 = .ok (.lsub, 1) := by decide +kernel
theorem dX12_spelled_112 : decode cX12_spelled 112 = .ok (.goto 5, 3) := by decide +kernel
theorem dX12_spelled_115 : decode cX12_spelled 115 = .ok (.lload 6, 2) := by decide +kernel
theorem dX12_spelled_117 : decode cX12_spelled 117 = .ok (.lreturn, 1) := by decide +kernel
theorem dX12_isWord_0 : decode cX12_isWord 0 = .ok (.aload_n 0, 1) := by decide +kernel
theorem dX12_isWord_1 : decode cX12_isWord 1 = .ok (.getfield 126, 3) := by decide +kernel
theorem dX12_isWord_4 : decode cX12_isWord 4 = .ok (.iconst 1, 1) := by decide +kernel
theorem dX12_isWord_5 : decode cX12_isWord 5 = .ok (.if_icmp .ne 16, 3) := by decide +kernel
theorem dX12_isWord_8 : decode cX12_isWord 8 = .ok (.aload_n 0, 1) := by decide +kernel
theorem dX12_isWord_9 : decode cX12_isWord 9 = .ok (.getfield 132, 3) := by decide +kernel
theorem dX12_isWord_12 : decode cX12_isWord 12 = .ok (.lload_n 1, 1) := by decide +kernel
theorem dX12_isWord_13 : decode cX12_isWord 13 = .ok (.lcmp, 1) := by decide +kernel
theorem dX12_isWord_14 : decode cX12_isWord 14 = .ok (.ifCond .ne 7, 3) := by decide +kernel
theorem dX12_isWord_17 : decode cX12_isWord 17 = .ok (.iconst 1, 1) := by decide +kernel
theorem dX12_isWord_18 : decode cX12_isWord 18 = .ok (.goto 4, 3) := by decide +kernel
theorem dX12_isWord_21 : decode cX12_isWord 21 = .ok (.iconst 0, 1) := by decide +kernel
theorem dX12_isWord_22 : decode cX12_isWord 22 = .ok (.ireturn, 1) := by decide +kernel
theorem dX12_isCell_0 : decode cX12_isCell 0 = .ok (.aload_n 0, 1) := by decide +kernel
theorem dX12_isCell_1 : decode cX12_isCell 1 = .ok (.bipush 99, 2) := by decide +kernel
theorem dX12_isCell_3 : decode cX12_isCell 3 = .ok (.bipush 101, 2) := by decide +kernel
theorem dX12_isCell_5 : decode cX12_isCell 5 = .ok (.bipush 108, 2) := by decide +kernel
theorem dX12_isCell_7 : decode cX12_isCell 7 = .ok (.bipush 108, 2) := by decide +kernel
theorem dX12_isCell_9 : decode cX12_isCell 9 = .ok (.iconst 0, 1) := by decide +kernel
theorem dX12_isCell_10 : decode cX12_isCell 10 = .ok (.iconst 0, 1) := by decide +kernel
theorem dX12_isCell_11 : decode cX12_isCell 11 = .ok (.invokestatic 151, 3) := by decide +kernel
theorem dX12_isCell_14 : decode cX12_isCell 14 = .ok (.invokevirtual 155, 3) := by decide +kernel
theorem dX12_isCell_17 : decode cX12_isCell 17 = .ok (.ireturn, 1) := by decide +kernel
theorem dX12_isPricks_0 : decode cX12_isPricks 0 = .ok (.aload_n 0, 1) := by decide +kernel
theorem dX12_isPricks_1 : decode cX12_isPricks 1 = .ok (.bipush 112, 2) := by decide +kernel
theorem dX12_isPricks_3 : decode cX12_isPricks 3 = .ok (.bipush 114, 2) := by decide +kernel
theorem dX12_isPricks_5 : decode cX12_isPricks 5 = .ok (.bipush 105, 2) := by decide +kernel
theorem dX12_isPricks_7 : decode cX12_isPricks 7 = .ok (.bipush 99, 2) := by decide +kernel
theorem dX12_isPricks_9 : decode cX12_isPricks 9 = .ok (.bipush 107, 2) := by decide +kernel
theorem dX12_isPricks_11 : decode cX12_isPricks 11 = .ok (.bipush 115, 2) := by decide +kernel
theorem dX12_isPricks_13 : decode cX12_isPricks 13 = .ok (.invokestatic 151, 3) := by decide +kernel
theorem dX12_isPricks_16 : decode cX12_isPricks 16 = .ok (.invokevirtual 155, 3) := by decide +kernel
theorem dX12_isPricks_19 : decode cX12_isPricks 19 = .ok (.ireturn, 1) := by decide +kernel
theorem dX12_isBlind_0 : decode cX12_isBlind 0 = .ok (.aload_n 0, 1) := by decide +kernel
theorem dX12_isBlind_1 : decode cX12_isBlind 1 = .ok (.bipush 98, 2) := by decide +kernel
theorem dX12_isBlind_3 : decode cX12_isBlind 3 = .ok (.bipush 108, 2) := by decide +kernel
theorem dX12_isBlind_5 : decode cX12_isBlind 5 = .ok (.bipush 105, 2) := by decide +kernel
theorem dX12_isBlind_7 : decode cX12_isBlind 7 = .ok (.bipush 110, 2) := by decide +kernel
theorem dX12_isBlind_9 : decode cX12_isBlind 9 = .ok (.bipush 100, 2) := by decide +kernel
theorem dX12_isBlind_11 : decode cX12_isBlind 11 = .ok (.iconst 0, 1) := by decide +kernel
theorem dX12_isBlind_12 : decode cX12_isBlind 12 = .ok (.invokestatic 151, 3) := by decide +kernel
theorem dX12_isBlind_15 : decode cX12_isBlind 15 = .ok (.invokevirtual 155, 3) := by decide +kernel
theorem dX12_isBlind_18 : decode cX12_isBlind 18 = .ok (.ireturn, 1) := by decide +kernel
theorem dX12_isRubs_0 : decode cX12_isRubs 0 = .ok (.aload_n 0, 1) := by decide +kernel
theorem dX12_isRubs_1 : decode cX12_isRubs 1 = .ok (.bipush 114, 2) := by decide +kernel
theorem dX12_isRubs_3 : decode cX12_isRubs 3 = .ok (.bipush 117, 2) := by decide +kernel
theorem dX12_isRubs_5 : decode cX12_isRubs 5 = .ok (.bipush 98, 2) := by decide +kernel
theorem dX12_isRubs_7 : decode cX12_isRubs 7 = .ok (.bipush 115, 2) := by decide +kernel
theorem dX12_isRubs_9 : decode cX12_isRubs 9 = .ok (.iconst 0, 1) := by decide +kernel
theorem dX12_isRubs_10 : decode cX12_isRubs 10 = .ok (.iconst 0, 1) := by decide +kernel
theorem dX12_isRubs_11 : decode cX12_isRubs 11 = .ok (.invokestatic 151, 3) := by decide +kernel
theorem dX12_isRubs_14 : decode cX12_isRubs 14 = .ok (.invokevirtual 155, 3) := by decide +kernel
theorem dX12_isRubs_17 : decode cX12_isRubs 17 = .ok (.ireturn, 1) := by decide +kernel
theorem dX12_isSecret_0 : decode cX12_isSecret 0 = .ok (.aload_n 0, 1) := by decide +kernel
theorem dX12_isSecret_1 : decode cX12_isSecret 1 = .ok (.bipush 115, 2) := by decide +kernel
theorem dX12_isSecret_3 : decode cX12_isSecret 3 = .ok (.bipush 101, 2) := by decide +kernel
theorem dX12_isSecret_5 : decode cX12_isSecret 5 = .ok (.bipush 99, 2) := by decide +kernel
theorem dX12_isSecret_7 : decode cX12_isSecret 7 = .ok (.bipush 114, 2) := by decide +kernel
theorem dX12_isSecret_9 : decode cX12_isSecret 9 = .ok (.bipush 101, 2) := by decide +kernel
theorem dX12_isSecret_11 : decode cX12_isSecret 11 = .ok (.bipush 116, 2) := by decide +kernel
theorem dX12_isSecret_13 : decode cX12_isSecret 13 = .ok (.invokestatic 151, 3) := by decide +kernel
theorem dX12_isSecret_16 : decode cX12_isSecret 16 = .ok (.invokevirtual 155, 3) := by decide +kernel
theorem dX12_isSecret_19 : decode cX12_isSecret 19 = .ok (.ireturn, 1) := by decide +kernel
theorem dX12_isLetters_0 : decode cX12_isLetters 0 = .ok (.aload_n 0, 1) := by decide +kernel
theorem dX12_isLetters_1 : decode cX12_isLetters 1 = .ok (.bipush 108, 2) := by decide +kernel
theorem dX12_isLetters_3 : decode cX12_isLetters 3 = .ok (.bipush 101, 2) := by decide +kernel
theorem dX12_isLetters_5 : decode cX12_isLetters 5 = .ok (.bipush 116, 2) := by decide +kernel
theorem dX12_isLetters_7 : decode cX12_isLetters 7 = .ok (.bipush 116, 2) := by decide +kernel
theorem dX12_isLetters_9 : decode cX12_isLetters 9 = .ok (.bipush 101, 2) := by decide +kernel
theorem dX12_isLetters_11 : decode cX12_isLetters 11 = .ok (.bipush 114, 2) := by decide +kernel
theorem dX12_isLetters_13 : decode cX12_isLetters 13 = .ok (.invokestatic 151, 3) := by decide +kernel
theorem dX12_isLetters_16 : decode cX12_isLetters 16 = .ok (.ldc2_w 135, 3) := by decide +kernel
theorem dX12_isLetters_19 : decode cX12_isLetters 19 = .ok (.lmul, 1) := by decide +kernel
theorem dX12_isLetters_20 : decode cX12_isLetters 20 = .ok (.ldc2_w 159, 3) := by decide +kernel
theorem dX12_isLetters_23 : decode cX12_isLetters 23 = .ok (.ladd, 1) := by decide +kernel
theorem dX12_isLetters_24 : decode cX12_isLetters 24 = .ok (.invokevirtual 155, 3) := by decide +kernel
theorem dX12_isLetters_27 : decode cX12_isLetters 27 = .ok (.ireturn, 1) := by decide +kernel
theorem dX12_isPage_0 : decode cX12_isPage 0 = .ok (.aload_n 0, 1) := by decide +kernel
theorem dX12_isPage_1 : decode cX12_isPage 1 = .ok (.bipush 112, 2) := by decide +kernel
theorem dX12_isPage_3 : decode cX12_isPage 3 = .ok (.bipush 97, 2) := by decide +kernel
theorem dX12_isPage_5 : decode cX12_isPage 5 = .ok (.bipush 103, 2) := by decide +kernel
theorem dX12_isPage_7 : decode cX12_isPage 7 = .ok (.bipush 101, 2) := by decide +kernel
theorem dX12_isPage_9 : decode cX12_isPage 9 = .ok (.iconst 0, 1) := by decide +kernel
theorem dX12_isPage_10 : decode cX12_isPage 10 = .ok (.iconst 0, 1) := by decide +kernel
theorem dX12_isPage_11 : decode cX12_isPage 11 = .ok (.invokestatic 151, 3) := by decide +kernel
theorem dX12_isPage_14 : decode cX12_isPage 14 = .ok (.invokevirtual 155, 3) := by decide +kernel
theorem dX12_isPage_17 : decode cX12_isPage 17 = .ok (.ireturn, 1) := by decide +kernel
theorem dX12_isRoom_0 : decode cX12_isRoom 0 = .ok (.aload_n 0, 1) := by decide +kernel
theorem dX12_isRoom_1 : decode cX12_isRoom 1 = .ok (.bipush 114, 2) := by decide +kernel
theorem dX12_isRoom_3 : decode cX12_isRoom 3 = .ok (.bipush 111, 2) := by decide +kernel
theorem dX12_isRoom_5 : decode cX12_isRoom 5 = .ok (.bipush 111, 2) := by decide +kernel
theorem dX12_isRoom_7 : decode cX12_isRoom 7 = .ok (.bipush 109, 2) := by decide +kernel
theorem dX12_isRoom_9 : decode cX12_isRoom 9 = .ok (.iconst 0, 1) := by decide +kernel
theorem dX12_isRoom_10 : decode cX12_isRoom 10 = .ok (.iconst 0, 1) := by decide +kernel
theorem dX12_isRoom_11 : decode cX12_isRoom 11 = .ok (.invokestatic 151, 3) := by decide +kernel
theorem dX12_isRoom_14 : decode cX12_isRoom 14 = .ok (.invokevirtual 155, 3) := by decide +kernel
theorem dX12_isRoom_17 : decode cX12_isRoom 17 = .ok (.ireturn, 1) := by decide +kernel
theorem dX12_isKnows_0 : decode cX12_isKnows 0 = .ok (.aload_n 0, 1) := by decide +kernel
theorem dX12_isKnows_1 : decode cX12_isKnows 1 = .ok (.bipush 107, 2) := by decide +kernel
theorem dX12_isKnows_3 : decode cX12_isKnows 3 = .ok (.bipush 110, 2) := by decide +kernel
theorem dX12_isKnows_5 : decode cX12_isKnows 5 = .ok (.bipush 111, 2) := by decide +kernel
theorem dX12_isKnows_7 : decode cX12_isKnows 7 = .ok (.bipush 119, 2) := by decide +kernel
theorem dX12_isKnows_9 : decode cX12_isKnows 9 = .ok (.bipush 115, 2) := by decide +kernel
theorem dX12_isKnows_11 : decode cX12_isKnows 11 = .ok (.iconst 0, 1) := by decide +kernel
theorem dX12_isKnows_12 : decode cX12_isKnows 12 = .ok (.invokestatic 151, 3) := by decide +kernel
theorem dX12_isKnows_15 : decode cX12_isKnows 15 = .ok (.invokevirtual 155, 3) := by decide +kernel
theorem dX12_isKnows_18 : decode cX12_isKnows 18 = .ok (.ireturn, 1) := by decide +kernel
theorem dX12_isOrder_0 : decode cX12_isOrder 0 = .ok (.aload_n 0, 1) := by decide +kernel
theorem dX12_isOrder_1 : decode cX12_isOrder 1 = .ok (.bipush 111, 2) := by decide +kernel
theorem dX12_isOrder_3 : decode cX12_isOrder 3 = .ok (.bipush 114, 2) := by decide +kernel
theorem dX12_isOrder_5 : decode cX12_isOrder 5 = .ok (.bipush 100, 2) := by decide +kernel
theorem dX12_isOrder_7 : decode cX12_isOrder 7 = .ok (.bipush 101, 2) := by decide +kernel
theorem dX12_isOrder_9 : decode cX12_isOrder 9 = .ok (.bipush 114, 2) := by decide +kernel
theorem dX12_isOrder_11 : decode cX12_isOrder 11 = .ok (.iconst 0, 1) := by decide +kernel
theorem dX12_isOrder_12 : decode cX12_isOrder 12 = .ok (.invokestatic 151, 3) := by decide +kernel
theorem dX12_isOrder_15 : decode cX12_isOrder 15 = .ok (.invokevirtual 155, 3) := by decide +kernel
theorem dX12_isOrder_18 : decode cX12_isOrder 18 = .ok (.ireturn, 1) := by decide +kernel
theorem dX12_isRead_0 : decode cX12_isRead 0 = .ok (.aload_n 0, 1) := by decide +kernel
theorem dX12_isRead_1 : decode cX12_isRead 1 = .ok (.bipush 114, 2) := by decide +kernel
theorem dX12_isRead_3 : decode cX12_isRead 3 = .ok (.bipush 101, 2) := by decide +kernel
theorem dX12_isRead_5 : decode cX12_isRead 5 = .ok (.bipush 97, 2) := by decide +kernel
theorem dX12_isRead_7 : decode cX12_isRead 7 = .ok (.bipush 100, 2) := by decide +kernel
theorem dX12_isRead_9 : decode cX12_isRead 9 = .ok (.iconst 0, 1) := by decide +kernel
theorem dX12_isRead_10 : decode cX12_isRead 10 = .ok (.iconst 0, 1) := by decide +kernel
theorem dX12_isRead_11 : decode cX12_isRead 11 = .ok (.invokestatic 151, 3) := by decide +kernel
theorem dX12_isRead_14 : decode cX12_isRead 14 = .ok (.invokevirtual 155, 3) := by decide +kernel
theorem dX12_isRead_17 : decode cX12_isRead 17 = .ok (.ireturn, 1) := by decide +kernel
theorem dX12_isOdds_0 : decode cX12_isOdds 0 = .ok (.aload_n 0, 1) := by decide +kernel
theorem dX12_isOdds_1 : decode cX12_isOdds 1 = .ok (.bipush 111, 2) := by decide +kernel
theorem dX12_isOdds_3 : decode cX12_isOdds 3 = .ok (.bipush 100, 2) := by decide +kernel
theorem dX12_isOdds_5 : decode cX12_isOdds 5 = .ok (.bipush 100, 2) := by decide +kernel
theorem dX12_isOdds_7 : decode cX12_isOdds 7 = .ok (.bipush 115, 2) := by decide +kernel
theorem dX12_isOdds_9 : decode cX12_isOdds 9 = .ok (.iconst 0, 1) := by decide +kernel
theorem dX12_isOdds_10 : decode cX12_isOdds 10 = .ok (.iconst 0, 1) := by decide +kernel
theorem dX12_isOdds_11 : decode cX12_isOdds 11 = .ok (.invokestatic 151, 3) := by decide +kernel
theorem dX12_isOdds_14 : decode cX12_isOdds 14 = .ok (.invokevirtual 155, 3) := by decide +kernel
theorem dX12_isOdds_17 : decode cX12_isOdds 17 = .ok (.ireturn, 1) := by decide +kernel
theorem dX12_stepWord_0 : decode cX12_stepWord 0 = .ok (.aload_n 0, 1) := by decide +kernel
theorem dX12_stepWord_1 : decode cX12_stepWord 1 = .ok (.bipush 116, 2) := by decide +kernel
theorem dX12_stepWord_3 : decode cX12_stepWord 3 = .ok (.bipush 117, 2) := by decide +kernel
theorem dX12_stepWord_5 : decode cX12_stepWord 5 = .ok (.bipush 114, 2) := by decide +kernel
theorem dX12_stepWord_7 : decode cX12_stepWord 7 = .ok (.bipush 110, 2) := by decide +kernel
theorem dX12_stepWord_9 : decode cX12_stepWord 9 = .ok (.iconst 0, 1) := by decide +kernel
theorem dX12_stepWord_10 : decode cX12_stepWord 10 = .ok (.iconst 0, 1) := by decide +kernel
theorem dX12_stepWord_11 : decode cX12_stepWord 11 = .ok (.invokestatic 151, 3) := by decide +kernel
theorem dX12_stepWord_14 : decode cX12_stepWord 14 = .ok (.invokevirtual 155, 3) := by decide +kernel
theorem dX12_stepWord_17 : decode cX12_stepWord 17 = .ok (.ifCond .eq 5, 3) := by decide +kernel
theorem dX12_stepWord_20 : decode cX12_stepWord 20 = .ok (.iconst 0, 1) := by decide +kernel
theorem dX12_stepWord_21 : decode cX12_stepWord 21 = .ok (.ireturn, 1) := by decide +kernel
theorem dX12_stepWord_22 : decode cX12_stepWord 22 = .ok (.aload_n 0, 1) := by decide +kernel
theorem dX12_stepWord_23 : decode cX12_stepWord 23 = .ok (.bipush 105, 2) := by decide +kernel
theorem dX12_stepWord_25 : decode cX12_stepWord 25 = .ok (.bipush 108, 2) := by decide +kernel
theorem dX12_stepWord_27 : decode cX12_stepWord 27 = .ok (.bipush 108, 2) := by decide +kernel
theorem dX12_stepWord_29 : decode cX12_stepWord 29 = .ok (.iconst 0, 1) := by decide +kernel
theorem dX12_stepWord_30 : decode cX12_stepWord 30 = .ok (.iconst 0, 1) := by decide +kernel
theorem dX12_stepWord_31 : decode cX12_stepWord 31 = .ok (.iconst 0, 1) := by decide +kernel
theorem dX12_stepWord_32 : decode cX12_stepWord 32 = .ok (.invokestatic 151, 3) := by decide +kernel
theorem dX12_stepWord_35 : decode cX12_stepWord 35 = .ok (.invokevirtual 155, 3) := by decide +kernel
theorem dX12_stepWord_38 : decode cX12_stepWord 38 = .ok (.ifCond .eq 5, 3) := by decide +kernel
theorem dX12_stepWord_41 : decode cX12_stepWord 41 = .ok (.iconst 1, 1) := by decide +kernel
theorem dX12_stepWord_42 : decode cX12_stepWord 42 = .ok (.ireturn, 1) := by decide +kernel
theorem dX12_stepWord_43 : decode cX12_stepWord 43 = .ok (.aload_n 0, 1) := by decide +kernel
theorem dX12_stepWord_44 : decode cX12_stepWord 44 = .ok (.bipush 109, 2) := by decide +kernel
theorem dX12_stepWord_46 : decode cX12_stepWord 46 = .ok (.bipush 111, 2) := by decide +kernel
theorem dX12_stepWord_48 : decode cX12_stepWord 48 = .ok (.bipush 118, 2) := by decide +kernel
theorem dX12_stepWord_50 : decode cX12_stepWord 50 = .ok (.bipush 101, 2) := by decide +kernel
theorem dX12_stepWord_52 : decode cX12_stepWord 52 = .ok (.iconst 0, 1) := by decide +kernel
theorem dX12_stepWord_53 : decode cX12_stepWord 53 = .ok (.iconst 0, 1) := by decide +kernel
theorem dX12_stepWord_54 : decode cX12_stepWord 54 = .ok (.invokestatic 151, 3) := by decide +kernel
theorem dX12_stepWord_57 : decode cX12_stepWord 57 = .ok (.invokevirtual 155, 3) := by decide +kernel
theorem dX12_stepWord_60 : decode cX12_stepWord 60 = .ok (.ifCond .eq 5, 3) := by decide +kernel
theorem dX12_stepWord_63 : decode cX12_stepWord 63 = .ok (.iconst 2, 1) := by decide +kernel
theorem dX12_stepWord_64 : decode cX12_stepWord 64 = .ok (.ireturn, 1) := by decide +kernel
theorem dX12_stepWord_65 : decode cX12_stepWord 65 = .ok (.aload_n 0, 1) := by decide +kernel
theorem dX12_stepWord_66 : decode cX12_stepWord 66 = .ok (.bipush 114, 2) := by decide +kernel
theorem dX12_stepWord_68 : decode cX12_stepWord 68 = .ok (.bipush 117, 2) := by decide +kernel
theorem dX12_stepWord_70 : decode cX12_stepWord 70 = .ok (.bipush 98, 2) := by decide +kernel
theorem dX12_stepWord_72 : decode cX12_stepWord 72 = .ok (.iconst 0, 1) := by decide +kernel
theorem dX12_stepWord_73 : decode cX12_stepWord 73 = .ok (.iconst 0, 1) := by decide +kernel
theorem dX12_stepWord_74 : decode cX12_stepWord 74 = .ok (.iconst 0, 1) := by decide +kernel
theorem dX12_stepWord_75 : decode cX12_stepWord 75 = .ok (.invokestatic 151, 3) := by decide +kernel
theorem dX12_stepWord_78 : decode cX12_stepWord 78 = .ok (.invokevirtual 155, 3) := by decide +kernel
theorem dX12_stepWord_81 : decode cX12_stepWord 81 = .ok (.ifCond .eq 5, 3) := by decide +kernel
theorem dX12_stepWord_84 : decode cX12_stepWord 84 = .ok (.iconst 3, 1) := by decide +kernel
theorem dX12_stepWord_85 : decode cX12_stepWord 85 = .ok (.ireturn, 1) := by decide +kernel
theorem dX12_stepWord_86 : decode cX12_stepWord 86 = .ok (.aload_n 0, 1) := by decide +kernel
theorem dX12_stepWord_87 : decode cX12_stepWord 87 = .ok (.bipush 100, 2) := by decide +kernel
theorem dX12_stepWord_89 : decode cX12_stepWord 89 = .ok (.bipush 97, 2) := by decide +kernel
theorem dX12_stepWord_91 : decode cX12_stepWord 91 = .ok (.bipush 109, 2) := by decide +kernel
theorem dX12_stepWord_93 : decode cX12_stepWord 93 = .ok (.bipush 112, 2) := by decide +kernel
theorem dX12_stepWord_95 : decode cX12_stepWord 95 = .ok (.iconst 0, 1) := by decide +kernel
theorem dX12_stepWord_96 : decode cX12_stepWord 96 = .ok (.iconst 0, 1) := by decide +kernel
theorem dX12_stepWord_97 : decode cX12_stepWord 97 = .ok (.invokestatic 151, 3) := by decide +kernel
theorem dX12_stepWord_100 : decode cX12_stepWord 100 = .ok (.invokevirtual 155, 3) := by decide +kernel
theorem dX12_stepWord_103 : decode cX12_stepWord 103 = .ok (.ifCond .eq 5, 3) := by decide +kernel
theorem dX12_stepWord_106 : decode cX12_stepWord 106 = .ok (.iconst 4, 1) := by decide +kernel
theorem dX12_stepWord_107 : decode cX12_stepWord 107 = .ok (.ireturn, 1) := by decide +kernel
theorem dX12_stepWord_108 : decode cX12_stepWord 108 = .ok (.aload_n 0, 1) := by decide +kernel
theorem dX12_stepWord_109 : decode cX12_stepWord 109 = .ok (.bipush 119, 2) := by decide +kernel
theorem dX12_stepWord_111 : decode cX12_stepWord 111 = .ok (.bipush 97, 2) := by decide +kernel
theorem dX12_stepWord_113 : decode cX12_stepWord 113 = .ok (.bipush 114, 2) := by decide +kernel
theorem dX12_stepWord_115 : decode cX12_stepWord 115 = .ok (.bipush 100, 2) := by decide +kernel
theorem dX12_stepWord_117 : decode cX12_stepWord 117 = .ok (.bipush 101, 2) := by decide +kernel
theorem dX12_stepWord_119 : decode cX12_stepWord 119 = .ok (.bipush 114, 2) := by decide +kernel
theorem dX12_stepWord_121 : decode cX12_stepWord 121 = .ok (.invokestatic 151, 3) := by decide +kernel
theorem dX12_stepWord_124 : decode cX12_stepWord 124 = .ok (.invokevirtual 155, 3) := by decide +kernel
theorem dX12_stepWord_127 : decode cX12_stepWord 127 = .ok (.ifCond .eq 5, 3) := by decide +kernel
theorem dX12_stepWord_130 : decode cX12_stepWord 130 = .ok (.iconst 5, 1) := by decide +kernel
theorem dX12_stepWord_131 : decode cX12_stepWord 131 = .ok (.ireturn, 1) := by decide +kernel
theorem dX12_stepWord_132 : decode cX12_stepWord 132 = .ok (.aload_n 0, 1) := by decide +kernel
theorem dX12_stepWord_133 : decode cX12_stepWord 133 = .ok (.bipush 119, 2) := by decide +kernel
theorem dX12_stepWord_135 : decode cX12_stepWord 135 = .ok (.bipush 104, 2) := by decide +kernel
theorem dX12_stepWord_137 : decode cX12_stepWord 137 = .ok (.bipush 101, 2) := by decide +kernel
theorem dX12_stepWord_139 : decode cX12_stepWord 139 = .ok (.bipush 110, 2) := by decide +kernel
theorem dX12_stepWord_141 : decode cX12_stepWord 141 = .ok (.iconst 0, 1) := by decide +kernel
theorem dX12_stepWord_142 : decode cX12_stepWord 142 = .ok (.iconst 0, 1) := by decide +kernel
theorem dX12_stepWord_143 : decode cX12_stepWord 143 = .ok (.invokestatic 151, 3) := by decide +kernel
theorem dX12_stepWord_146 : decode cX12_stepWord 146 = .ok (.invokevirtual 155, 3) := by decide +kernel
theorem dX12_stepWord_149 : decode cX12_stepWord 149 = .ok (.ifCond .eq 6, 3) := by decide +kernel
theorem dX12_stepWord_152 : decode cX12_stepWord 152 = .ok (.bipush 6, 2) := by decide +kernel
theorem dX12_stepWord_154 : decode cX12_stepWord 154 = .ok (.ireturn, 1) := by decide +kernel
theorem dX12_stepWord_155 : decode cX12_stepWord 155 = .ok (.aload_n 0, 1) := by decide +kernel
theorem dX12_stepWord_156 : decode cX12_stepWord 156 = .ok (.bipush 108, 2) := by decide +kernel
theorem dX12_stepWord_158 : decode cX12_stepWord 158 = .ok (.bipush 111, 2) := by decide +kernel
theorem dX12_stepWord_160 : decode cX12_stepWord 160 = .ok (.bipush 111, 2) := by decide +kernel
theorem dX12_stepWord_162 : decode cX12_stepWord 162 = .ok (.bipush 112, 2) := by decide +kernel
theorem dX12_stepWord_164 : decode cX12_stepWord 164 = .ok (.iconst 0, 1) := by decide +kernel
theorem dX12_stepWord_165 : decode cX12_stepWord 165 = .ok (.iconst 0, 1) := by decide +kernel
theorem dX12_stepWord_166 : decode cX12_stepWord 166 = .ok (.invokestatic 151, 3) := by decide +kernel
theorem dX12_stepWord_169 : decode cX12_stepWord 169 = .ok (.invokevirtual 155, 3) := by decide +kernel
theorem dX12_stepWord_172 : decode cX12_stepWord 172 = .ok (.ifCond .eq 6, 3) := by decide +kernel
theorem dX12_stepWord_175 : decode cX12_stepWord 175 = .ok (.bipush 7, 2) := by decide +kernel
theorem dX12_stepWord_177 : decode cX12_stepWord 177 = .ok (.ireturn, 1) := by decide +kernel
theorem dX12_stepWord_178 : decode cX12_stepWord 178 = .ok (.aload_n 0, 1) := by decide +kernel
theorem dX12_stepWord_179 : decode cX12_stepWord 179 = .ok (.bipush 115, 2) := by decide +kernel
theorem dX12_stepWord_181 : decode cX12_stepWord 181 = .ok (.bipush 116, 2) := by decide +kernel
theorem dX12_stepWord_183 : decode cX12_stepWord 183 = .ok (.bipush 111, 2) := by decide +kernel
theorem dX12_stepWord_185 : decode cX12_stepWord 185 = .ok (.bipush 112, 2) := by decide +kernel
theorem dX12_stepWord_187 : decode cX12_stepWord 187 = .ok (.iconst 0, 1) := by decide +kernel
theorem dX12_stepWord_188 : decode cX12_stepWord 188 = .ok (.iconst 0, 1) := by decide +kernel
theorem dX12_stepWord_189 : decode cX12_stepWord 189 = .ok (.invokestatic 151, 3) := by decide +kernel
theorem dX12_stepWord_192 : decode cX12_stepWord 192 = .ok (.invokevirtual 155, 3) := by decide +kernel
theorem dX12_stepWord_195 : decode cX12_stepWord 195 = .ok (.ifCond .eq 8, 3) := by decide +kernel
theorem dX12_stepWord_198 : decode cX12_stepWord 198 = .ok (.bipush 8, 2) := by decide +kernel
theorem dX12_stepWord_200 : decode cX12_stepWord 200 = .ok (.goto 4, 3) := by decide +kernel
theorem dX12_stepWord_203 : decode cX12_stepWord 203 = .ok (.iconst (-1), 1) := by decide +kernel
theorem dX12_stepWord_204 : decode cX12_stepWord 204 = .ok (.ireturn, 1) := by decide +kernel
theorem dX12_testWord_0 : decode cX12_testWord 0 = .ok (.aload_n 0, 1) := by decide +kernel
theorem dX12_testWord_1 : decode cX12_testWord 1 = .ok (.invokevirtual 161, 3) := by decide +kernel
theorem dX12_testWord_4 : decode cX12_testWord 4 = .ok (.ifCond .eq 5, 3) := by decide +kernel
theorem dX12_testWord_7 : decode cX12_testWord 7 = .ok (.iconst 0, 1) := by decide +kernel
theorem dX12_testWord_8 : decode cX12_testWord 8 = .ok (.ireturn, 1) := by decide +kernel
theorem dX12_testWord_9 : decode cX12_testWord 9 = .ok (.aload_n 0, 1) := by decide +kernel
theorem dX12_testWord_10 : decode cX12_testWord 10 = .ok (.bipush 102, 2) := by decide +kernel
theorem dX12_testWord_12 : decode cX12_testWord 12 = .ok (.bipush 117, 2) := by decide +kernel
theorem dX12_testWord_14 : decode cX12_testWord 14 = .ok (.bipush 108, 2) := by decide +kernel
theorem dX12_testWord_16 : decode cX12_testWord 16 = .ok (.bipush 108, 2) := by decide +kernel
theorem dX12_testWord_18 : decode cX12_testWord 18 = .ok (.iconst 0, 1) := by decide +kernel
theorem dX12_testWord_19 : decode cX12_testWord 19 = .ok (.iconst 0, 1) := by decide +kernel
theorem dX12_testWord_20 : decode cX12_testWord 20 = .ok (.invokestatic 151, 3) := by decide +kernel
theorem dX12_testWord_23 : decode cX12_testWord 23 = .ok (.invokevirtual 155, 3) := by decide +kernel
theorem dX12_testWord_26 : decode cX12_testWord 26 = .ok (.ifCond .eq 5, 3) := by decide +kernel
theorem dX12_testWord_29 : decode cX12_testWord 29 = .ok (.iconst 1, 1) := by decide +kernel
theorem dX12_testWord_30 : decode cX12_testWord 30 = .ok (.ireturn, 1) := by decide +kernel
theorem dX12_testWord_31 : decode cX12_testWord 31 = .ok (.aload_n 0, 1) := by decide +kernel
theorem dX12_testWord_32 : decode cX12_testWord 32 = .ok (.bipush 97, 2) := by decide +kernel
theorem dX12_testWord_34 : decode cX12_testWord 34 = .ok (.bipush 108, 2) := by decide +kernel
theorem dX12_testWord_36 : decode cX12_testWord 36 = .ok (.bipush 108, 2) := by decide +kernel
theorem dX12_testWord_38 : decode cX12_testWord 38 = .ok (.iconst 0, 1) := by decide +kernel
theorem dX12_testWord_39 : decode cX12_testWord 39 = .ok (.iconst 0, 1) := by decide +kernel
theorem dX12_testWord_40 : decode cX12_testWord 40 = .ok (.iconst 0, 1) := by decide +kernel
theorem dX12_testWord_41 : decode cX12_testWord 41 = .ok (.invokestatic 151, 3) := by decide +kernel
theorem dX12_testWord_44 : decode cX12_testWord 44 = .ok (.invokevirtual 155, 3) := by decide +kernel
theorem dX12_testWord_47 : decode cX12_testWord 47 = .ok (.ifCond .eq 7, 3) := by decide +kernel
theorem dX12_testWord_50 : decode cX12_testWord 50 = .ok (.iconst 2, 1) := by decide +kernel
theorem dX12_testWord_51 : decode cX12_testWord 51 = .ok (.goto 4, 3) := by decide +kernel
theorem dX12_testWord_54 : decode cX12_testWord 54 = .ok (.iconst (-1), 1) := by decide +kernel
theorem dX12_testWord_55 : decode cX12_testWord 55 = .ok (.ireturn, 1) := by decide +kernel
theorem dX12_isEnd_0 : decode cX12_isEnd 0 = .ok (.aload_n 0, 1) := by decide +kernel
theorem dX12_isEnd_1 : decode cX12_isEnd 1 = .ok (.bipush 101, 2) := by decide +kernel
theorem dX12_isEnd_3 : decode cX12_isEnd 3 = .ok (.bipush 110, 2) := by decide +kernel
theorem dX12_isEnd_5 : decode cX12_isEnd 5 = .ok (.bipush 100, 2) := by decide +kernel
theorem dX12_isEnd_7 : decode cX12_isEnd 7 = .ok (.iconst 0, 1) := by decide +kernel
theorem dX12_isEnd_8 : decode cX12_isEnd 8 = .ok (.iconst 0, 1) := by decide +kernel
theorem dX12_isEnd_9 : decode cX12_isEnd 9 = .ok (.iconst 0, 1) := by decide +kernel
theorem dX12_isEnd_10 : decode cX12_isEnd 10 = .ok (.invokestatic 151, 3) := by decide +kernel
theorem dX12_isEnd_13 : decode cX12_isEnd 13 = .ok (.invokevirtual 155, 3) := by decide +kernel
theorem dX12_isEnd_16 : decode cX12_isEnd 16 = .ok (.ireturn, 1) := by decide +kernel
theorem dX12_isKept_0 : decode cX12_isKept 0 = .ok (.aload_n 0, 1) := by decide +kernel
theorem dX12_isKept_1 : decode cX12_isKept 1 = .ok (.invokevirtual 165, 3) := by decide +kernel
theorem dX12_isKept_4 : decode cX12_isKept 4 = .ok (.ifCond .ne 73, 3) := by decide +kernel
theorem dX12_isKept_7 : decode cX12_isKept 7 = .ok (.aload_n 0, 1) := by decide +kernel
theorem dX12_isKept_8 : decode cX12_isKept 8 = .ok (.invokevirtual 168, 3) := by decide +kernel
theorem dX12_isKept_11 : decode cX12_isKept 11 = .ok (.ifCond .ne 66, 3) := by decide +kernel
theorem dX12_isKept_14 : decode cX12_isKept 14 = .ok (.aload_n 0, 1) := by decide +kernel
theorem dX12_isKept_15 : decode cX12_isKept 15 = .ok (.invokevirtual 171, 3) := by decide +kernel
theorem dX12_isKept_18 : decode cX12_isKept 18 = .ok (.ifCond .ne 59, 3) := by decide +kernel
theorem dX12_isKept_21 : decode cX12_isKept 21 = .ok (.aload_n 0, 1) := by decide +kernel
theorem dX12_isKept_22 : decode cX12_isKept 22 = .ok (.invokevirtual 174, 3) := by decide +kernel
theorem dX12_isKept_25 : decode cX12_isKept 25 = .ok (.ifCond .ne 52, 3) := by decide +kernel
theorem dX12_isKept_28 : decode cX12_isKept 28 = .ok (.aload_n 0, 1) := by decide +kernel
theorem dX12_isKept_29 : decode cX12_isKept 29 = .ok (.invokevirtual 177, 3) := by decide +kernel
theorem dX12_isKept_32 : decode cX12_isKept 32 = .ok (.ifCond .ne 45, 3) := by decide +kernel
theorem dX12_isKept_35 : decode cX12_isKept 35 = .ok (.aload_n 0, 1) := by decide +kernel
theorem dX12_isKept_36 : decode cX12_isKept 36 = .ok (.invokevirtual 180, 3) := by decide +kernel
theorem dX12_isKept_39 : decode cX12_isKept 39 = .ok (.ifCond .ne 38, 3) := by decide +kernel
theorem dX12_isKept_42 : decode cX12_isKept 42 = .ok (.aload_n 0, 1) := by decide +kernel
theorem dX12_isKept_43 : decode cX12_isKept 43 = .ok (.invokevirtual 183, 3) := by decide +kernel
theorem dX12_isKept_46 : decode cX12_isKept 46 = .ok (.ifCond .ne 31, 3) := by decide +kernel
theorem dX12_isKept_49 : decode cX12_isKept 49 = .ok (.aload_n 0, 1) := by decide +kernel
theorem dX12_isKept_50 : decode cX12_isKept 50 = .ok (.invokevirtual 186, 3) := by decide +kernel
theorem dX12_isKept_53 : decode cX12_isKept 53 = .ok (.ifCond .ne 24, 3) := by decide +kernel
theorem dX12_isKept_56 : decode cX12_isKept 56 = .ok (.aload_n 0, 1) := by decide +kernel
theorem dX12_isKept_57 : decode cX12_isKept 57 = .ok (.invokevirtual 189, 3) := by decide +kernel
theorem dX12_isKept_60 : decode cX12_isKept 60 = .ok (.ifCond .ne 17, 3) := by decide +kernel
theorem dX12_isKept_63 : decode cX12_isKept 63 = .ok (.aload_n 0, 1) := by decide +kernel
theorem dX12_isKept_64 : decode cX12_isKept 64 = .ok (.invokevirtual 192, 3) := by decide +kernel
theorem dX12_isKept_67 : decode cX12_isKept 67 = .ok (.ifCond .ne 10, 3) := by decide +kernel
theorem dX12_isKept_70 : decode cX12_isKept 70 = .ok (.aload_n 0, 1) := by decide +kernel
theorem dX12_isKept_71 : decode cX12_isKept 71 = .ok (.invokevirtual 195, 3) := by decide +kernel
theorem dX12_isKept_74 : decode cX12_isKept 74 = .ok (.ifCond .eq 5, 3) := by decide +kernel
theorem dX12_isKept_77 : decode cX12_isKept 77 = .ok (.iconst 1, 1) := by decide +kernel
theorem dX12_isKept_78 : decode cX12_isKept 78 = .ok (.ireturn, 1) := by decide +kernel
theorem dX12_isKept_79 : decode cX12_isKept 79 = .ok (.aload_n 0, 1) := by decide +kernel
theorem dX12_isKept_80 : decode cX12_isKept 80 = .ok (.invokevirtual 198, 3) := by decide +kernel
theorem dX12_isKept_83 : decode cX12_isKept 83 = .ok (.ifCond .ge 17, 3) := by decide +kernel
theorem dX12_isKept_86 : decode cX12_isKept 86 = .ok (.aload_n 0, 1) := by decide +kernel
theorem dX12_isKept_87 : decode cX12_isKept 87 = .ok (.invokevirtual 202, 3) := by decide +kernel
theorem dX12_isKept_90 : decode cX12_isKept 90 = .ok (.ifCond .ge 10, 3) := by decide +kernel
theorem dX12_isKept_93 : decode cX12_isKept 93 = .ok (.aload_n 0, 1) := by decide +kernel
theorem dX12_isKept_94 : decode cX12_isKept 94 = .ok (.invokevirtual 205, 3) := by decide +kernel
theorem dX12_isKept_97 : decode cX12_isKept 97 = .ok (.ifCond .eq 7, 3) := by decide +kernel
theorem dX12_isKept_100 : decode cX12_isKept 100 = .ok (.iconst 1, 1) := by decide +kernel
theorem dX12_isKept_101 : decode cX12_isKept 101 = .ok (.goto 4, 3) := by decide +kernel
theorem dX12_isKept_104 : decode cX12_isKept 104 = .ok (.iconst 0, 1) := by decide +kernel
theorem dX12_isKept_105 : decode cX12_isKept 105 = .ok (.ireturn, 1) := by decide +kernel
theorem dX12_isName_0 : decode cX12_isName 0 = .ok (.aload_n 0, 1) := by decide +kernel
theorem dX12_isName_1 : decode cX12_isName 1 = .ok (.getfield 126, 3) := by decide +kernel
theorem dX12_isName_4 : decode cX12_isName 4 = .ok (.iconst 1, 1) := by decide +kernel
theorem dX12_isName_5 : decode cX12_isName 5 = .ok (.if_icmp .ne 23, 3) := by decide +kernel
theorem dX12_isName_8 : decode cX12_isName 8 = .ok (.aload_n 0, 1) := by decide +kernel
theorem dX12_isName_9 : decode cX12_isName 9 = .ok (.getfield 139, 3) := by decide +kernel
theorem dX12_isName_12 : decode cX12_isName 12 = .ok (.bipush 8, 2) := by decide +kernel
theorem dX12_isName_14 : decode cX12_isName 14 = .ok (.if_icmp .gt 14, 3) := by decide +kernel
theorem dX12_isName_17 : decode cX12_isName 17 = .ok (.aload_n 0, 1) := by decide +kernel
theorem dX12_isName_18 : decode cX12_isName 18 = .ok (.invokevirtual 208, 3) := by decide +kernel
theorem dX12_isName_21 : decode cX12_isName 21 = .ok (.ifCond .ne 7, 3) := by decide +kernel
theorem dX12_isName_24 : decode cX12_isName 24 = .ok (.iconst 1, 1) := by decide +kernel
theorem dX12_isName_25 : decode cX12_isName 25 = .ok (.goto 4, 3) := by decide +kernel
theorem dX12_isName_28 : decode cX12_isName 28 = .ok (.iconst 0, 1) := by decide +kernel
theorem dX12_isName_29 : decode cX12_isName 29 = .ok (.ireturn, 1) := by decide +kernel
theorem dX12_fail_0 : decode cX12_fail 0 = .ok (.aload_n 0, 1) := by decide +kernel
theorem dX12_fail_1 : decode cX12_fail 1 = .ok (.getfield 211, 3) := by decide +kernel
theorem dX12_fail_4 : decode cX12_fail 4 = .ok (.ifCond .le 4, 3) := by decide +kernel
theorem dX12_fail_7 : decode cX12_fail 7 = .ok (.return_, 1) := by decide +kernel
theorem dX12_fail_8 : decode cX12_fail 8 = .ok (.aload_n 0, 1) := by decide +kernel
theorem dX12_fail_9 : decode cX12_fail 9 = .ok (.iload_n 1, 1) := by decide +kernel
theorem dX12_fail_10 : decode cX12_fail 10 = .ok (.putfield 211, 3) := by decide +kernel
theorem dX12_fail_13 : decode cX12_fail 13 = .ok (.aload_n 0, 1) := by decide +kernel
theorem dX12_fail_14 : decode cX12_fail 14 = .ok (.iload_n 2, 1) := by decide +kernel
theorem dX12_fail_15 : decode cX12_fail 15 = .ok (.putfield 214, 3) := by decide +kernel
theorem dX12_fail_18 : decode cX12_fail 18 = .ok (.return_, 1) := by decide +kernel
theorem dX12_amiss_0 : decode cX12_amiss 0 = .ok (.aload_n 0, 1) := by decide +kernel
theorem dX12_amiss_1 : decode cX12_amiss 1 = .ok (.aload_n 0, 1) := by decide +kernel
theorem dX12_amiss_2 : decode cX12_amiss 2 = .ok (.getfield 126, 3) := by decide +kernel
theorem dX12_amiss_5 : decode cX12_amiss 5 = .ok (.iconst 4, 1) := by decide +kernel
theorem dX12_amiss_6 : decode cX12_amiss 6 = .ok (.if_icmp .ne 7, 3) := by decide +kernel
theorem dX12_amiss_9 : decode cX12_amiss 9 = .ok (.iconst 1, 1) := by decide +kernel
theorem dX12_amiss_10 : decode cX12_amiss 10 = .ok (.goto 4, 3) := by decide +kernel
theorem dX12_amiss_13 : decode cX12_amiss 13 = .ok (.iconst 2, 1) := by decide +kernel
theorem dX12_amiss_14 : decode cX12_amiss 14 = .ok (.aload_n 0, 1) := by decide +kernel
theorem dX12_amiss_15 : decode cX12_amiss 15 = .ok (.getfield 120, 3) := by decide +kernel
theorem dX12_amiss_18 : decode cX12_amiss 18 = .ok (.invokevirtual 217, 3) := by decide +kernel
theorem dX12_amiss_21 : decode cX12_amiss 21 = .ok (.return_, 1) := by decide +kernel
theorem dX12_must_0 : decode cX12_must 0 = .ok (.aload_n 0, 1) := by decide +kernel
theorem dX12_must_1 : decode cX12_must 1 = .ok (.getfield 211, 3) := by decide +kernel
theorem dX12_must_4 : decode cX12_must 4 = .ok (.ifCond .le 4, 3) := by decide +kernel
theorem dX12_must_7 : decode cX12_must 7 = .ok (.return_, 1) := by decide +kernel
theorem dX12_must_8 : decode cX12_must 8 = .ok (.iload_n 1, 1) := by decide +kernel
theorem dX12_must_9 : decode cX12_must 9 = .ok (.ifCond .eq 10, 3) := by decide +kernel
theorem dX12_must_12 : decode cX12_must 12 = .ok (.aload_n 0, 1) := by decide +kernel
theorem dX12_must_13 : decode cX12_must 13 = .ok (.invokevirtual 221, 3) := by decide +kernel
theorem dX12_must_16 : decode cX12_must 16 = .ok (.goto 7, 3) := by decide +kernel
theorem dX12_must_19 : decode cX12_must 19 = .ok (.aload_n 0, 1) := by decide +kernel
theorem dX12_must_20 : decode cX12_must 20 = .ok (.invokevirtual 224, 3) := by decide +kernel
theorem dX12_must_23 : decode cX12_must 23 = .ok (.return_, 1) := by decide +kernel
theorem dX12_count_0 : decode cX12_count 0 = .ok (.aload_n 0, 1) := by decide +kernel
theorem dX12_count_1 : decode cX12_count 1 = .ok (.getfield 211, 3) := by decide +kernel
theorem dX12_count_4 : decode cX12_count 4 = .ok (.ifCond .ne 15, 3) := by decide +kernel
theorem dX12_count_7 : decode cX12_count 7 = .ok (.aload_n 0, 1) := by decide +kernel
theorem dX12_count_8 : decode cX12_count 8 = .ok (.getfield 126, 3) := by decide +kernel
theorem dX12_count_11 : decode cX12_count 11 = .ok (.iconst 2, 1) := by decide +kernel
theorem dX12_count_12 : decode cX12_count 12 = .ok (.if_icmp .eq 7, 3) := by decide +kernel
theorem dX12_count_15 : decode cX12_count 15 = .ok (.aload_n 0, 1) := by decide +kernel
theorem dX12_count_16 : decode cX12_count 16 = .ok (.invokevirtual 224, 3) := by decide +kernel
theorem dX12_count_19 : decode cX12_count 19 = .ok (.aload_n 0, 1) := by decide +kernel
theorem dX12_count_20 : decode cX12_count 20 = .ok (.getfield 211, 3) := by decide +kernel
theorem dX12_count_23 : decode cX12_count 23 = .ok (.ifCond .ne 27, 3) := by decide +kernel
theorem dX12_count_26 : decode cX12_count 26 = .ok (.aload_n 0, 1) := by decide +kernel
theorem dX12_count_27 : decode cX12_count 27 = .ok (.getfield 145, 3) := by decide +kernel
theorem dX12_count_30 : decode cX12_count 30 = .ok (.i2l, 1) := by decide +kernel
theorem dX12_count_31 : decode cX12_count 31 = .ok (.iload_n 1, 1) := by decide +kernel
theorem dX12_count_32 : decode cX12_count 32 = .ok (.i2l, 1) := by decide +kernel
theorem dX12_count_33 : decode cX12_count 33 = .ok (.iload_n 2, 1) := by decide +kernel
theorem dX12_count_34 : decode cX12_count 34 = .ok (.i2l, 1) := by decide +kernel
theorem dX12_count_35 : decode cX12_count 35 = .ok (.invokestatic 106, 3) := by decide +kernel
theorem dX12_count_38 : decode cX12_count 38 = .ok (.ifCond .ne 12, 3) := by decide +kernel
theorem dX12_count_41 : decode cX12_count 41 = .ok (.aload_n 0, 1) := by decide +kernel
theorem dX12_count_42 : decode cX12_count 42 = .ok (.iconst 4, 1) := by decide +kernel
theorem dX12_count_43 : decode cX12_count 43 = .ok (.aload_n 0, 1) := by decide +kernel
theorem dX12_count_44 : decode cX12_count 44 = .ok (.getfield 120, 3) := by decide +kernel
theorem dX12_count_47 : decode cX12_count 47 = .ok (.invokevirtual 217, 3) := by decide +kernel
theorem dX12_count_50 : decode cX12_count 50 = .ok (.aload_n 0, 1) := by decide +kernel
theorem dX12_count_51 : decode cX12_count 51 = .ok (.getfield 211, 3) := by decide +kernel
theorem dX12_count_54 : decode cX12_count 54 = .ok (.ifCond .le 5, 3) := by decide +kernel
theorem dX12_count_57 : decode cX12_count 57 = .ok (.iconst 0, 1) := by decide +kernel
theorem dX12_count_58 : decode cX12_count 58 = .ok (.ireturn, 1) := by decide +kernel
theorem dX12_count_59 : decode cX12_count 59 = .ok (.aload_n 0, 1) := by decide +kernel
theorem dX12_count_60 : decode cX12_count 60 = .ok (.getfield 145, 3) := by decide +kernel
theorem dX12_count_63 : decode cX12_count 63 = .ok (.istore_n 3, 1) := by decide +kernel
theorem dX12_count_64 : decode cX12_count 64 = .ok (.aload_n 0, 1) := by decide +kernel
theorem dX12_count_65 : decode cX12_count 65 = .ok (.invokevirtual 221, 3) := by decide +kernel
theorem dX12_count_68 : decode cX12_count 68 = .ok (.iload_n 3, 1) := by decide +kernel
theorem dX12_count_69 : decode cX12_count 69 = .ok (.ireturn, 1) := by decide +kernel
theorem dX12_behindWord_0 : decode cX12_behindWord 0 = .ok (.aload_n 0, 1) := by decide +kernel
theorem dX12_behindWord_1 : decode cX12_behindWord 1 = .ok (.iload_n 1, 1) := by decide +kernel
theorem dX12_behindWord_2 : decode cX12_behindWord 2 = .ok (.invokevirtual 227, 3) := by decide +kernel
theorem dX12_behindWord_5 : decode cX12_behindWord 5 = .ok (.aload_n 0, 1) := by decide +kernel
theorem dX12_behindWord_6 : decode cX12_behindWord 6 = .ok (.iload_n 2, 1) := by decide +kernel
theorem dX12_behindWord_7 : decode cX12_behindWord 7 = .ok (.iload_n 3, 1) := by decide +kernel
theorem dX12_behindWord_8 : decode cX12_behindWord 8 = .ok (.invokevirtual 231, 3) := by decide +kernel
theorem dX12_behindWord_11 : decode cX12_behindWord 11 = .ok (.ireturn, 1) := by decide +kernel
theorem dX12_perhaps_0 : decode cX12_perhaps 0 = .ok (.aload_n 0, 1) := by decide +kernel
theorem dX12_perhaps_1 : decode cX12_perhaps 1 = .ok (.getfield 211, 3) := by decide +kernel
theorem dX12_perhaps_4 : decode cX12_perhaps 4 = .ok (.ifCond .gt 7, 3) := by decide +kernel
theorem dX12_perhaps_7 : decode cX12_perhaps 7 = .ok (.iload_n 1, 1) := by decide +kernel
theorem dX12_perhaps_8 : decode cX12_perhaps 8 = .ok (.ifCond .ne 5, 3) := by decide +kernel
theorem dX12_perhaps_11 : decode cX12_perhaps 11 = .ok (.iconst 0, 1) := by decide +kernel
theorem dX12_perhaps_12 : decode cX12_perhaps 12 = .ok (.ireturn, 1) := by decide +kernel
theorem dX12_perhaps_13 : decode cX12_perhaps 13 = .ok (.aload_n 0, 1) := by decide +kernel
theorem dX12_perhaps_14 : decode cX12_perhaps 14 = .ok (.invokevirtual 221, 3) := by decide +kernel
theorem dX12_perhaps_17 : decode cX12_perhaps 17 = .ok (.iconst 1, 1) := by decide +kernel
theorem dX12_perhaps_18 : decode cX12_perhaps 18 = .ok (.ireturn, 1) := by decide +kernel
theorem dX12_feed_0 : decode cX12_feed 0 = .ok (.aload_n 0, 1) := by decide +kernel
theorem dX12_feed_1 : decode cX12_feed 1 = .ok (.iconst 0, 1) := by decide +kernel
theorem dX12_feed_2 : decode cX12_feed 2 = .ok (.putfield 71, 3) := by decide +kernel
theorem dX12_feed_5 : decode cX12_feed 5 = .ok (.aload_n 0, 1) := by decide +kernel
theorem dX12_feed_6 : decode cX12_feed 6 = .ok (.getfield 234, 3) := by decide +kernel
theorem dX12_feed_9 : decode cX12_feed 9 = .ok (.bipush 20, 2) := by decide +kernel
theorem dX12_feed_11 : decode cX12_feed 11 = .ok (.iadd, 1) := by decide +kernel
theorem dX12_feed_12 : decode cX12_feed 12 = .ok (.sipush 900, 3) := by decide +kernel
theorem dX12_feed_15 : decode cX12_feed 15 = .ok (.if_icmp .le 5, 3) := by decide +kernel
theorem dX12_feed_18 : decode cX12_feed 18 = .ok (.iconst (-1), 1) := by decide +kernel
theorem dX12_feed_19 : decode cX12_feed 19 = .ok (.ireturn, 1) := by decide +kernel
theorem dX12_feed_20 : decode cX12_feed 20 = .ok (.aload_n 0, 1) := by decide +kernel
theorem dX12_feed_21 : decode cX12_feed 21 = .ok (.iload_n 1, 1) := by decide +kernel
theorem dX12_feed_22 : decode cX12_feed 22 = .ok (.invokevirtual 237, 3) := by decide +kernel
theorem dX12_feed_25 : decode cX12_feed 25 = .ok (.aload_n 0, 1) := by decide +kernel
theorem dX12_feed_26 : decode cX12_feed 26 = .ok (.iload_n 2, 1) := by decide +kernel
theorem dX12_feed_27 : decode cX12_feed 27 = .ok (.invokevirtual 237, 3) := by decide +kernel
theorem dX12_feed_30 : decode cX12_feed 30 = .ok (.aload_n 0, 1) := by decide +kernel
theorem dX12_feed_31 : decode cX12_feed 31 = .ok (.iload_n 3, 1) := by decide +kernel
theorem dX12_feed_32 : decode cX12_feed 32 = .ok (.invokevirtual 237, 3) := by decide +kernel
theorem dX12_feed_35 : decode cX12_feed 35 = .ok (.aload_n 0, 1) := by decide +kernel
theorem dX12_feed_36 : decode cX12_feed 36 = .ok (.iload 4, 2) := by decide +kernel
theorem dX12_feed_38 : decode cX12_feed 38 = .ok (.invokevirtual 237, 3) := by decide +kernel
theorem dX12_feed_41 : decode cX12_feed 41 = .ok (.aload_n 0, 1) := by decide +kernel
theorem dX12_feed_42 : decode cX12_feed 42 = .ok (.iload 5, 2) := by decide +kernel
theorem dX12_feed_44 : decode cX12_feed 44 = .ok (.invokevirtual 237, 3) := by decide +kernel
theorem dX12_feed_47 : decode cX12_feed 47 = .ok (.aload_n 0, 1) := by decide +kernel
theorem dX12_feed_48 : decode cX12_feed 48 = .ok (.getfield 234, 3) := by decide +kernel
theorem dX12_feed_51 : decode cX12_feed 51 = .ok (.ireturn, 1) := by decide +kernel
theorem dX12_lay_0 : decode cX12_lay 0 = .ok (.iconst 3, 1) := by decide +kernel
theorem dX12_lay_1 : decode cX12_lay 1 = .ok (.istore_n 2, 1) := by decide +kernel
theorem dX12_lay_2 : decode cX12_lay 2 = .ok (.iload_n 2, 1) := by decide +kernel
theorem dX12_lay_3 : decode cX12_lay 3 = .ok (.ifCond .lt 35, 3) := by decide +kernel
theorem dX12_lay_6 : decode cX12_lay 6 = .ok (.aload_n 0, 1) := by decide +kernel
theorem dX12_lay_7 : decode cX12_lay 7 = .ok (.getfield 24, 3) := by decide +kernel
theorem dX12_lay_10 : decode cX12_lay 10 = .ok (.aload_n 0, 1) := by decide +kernel
theorem dX12_lay_11 : decode cX12_lay 11 = .ok (.getfield 234, 3) := by decide +kernel
theorem dX12_lay_14 : decode cX12_lay 14 = .ok (.iload_n 1, 1) := by decide +kernel
theorem dX12_lay_15 : decode cX12_lay 15 = .ok (.bipush 8, 2) := by decide +kernel
theorem dX12_lay_17 : decode cX12_lay 17 = .ok (.iload_n 2, 1) := by decide +kernel
theorem dX12_lay_18 : decode cX12_lay 18 = .ok (.imul, 1) := by decide +kernel
theorem dX12_lay_19 : decode cX12_lay 19 = .ok (.ishr, 1) := by decide +kernel
theorem dX12_lay_20 : decode cX12_lay 20 = .ok (.i2b, 1) := by decide +kernel
theorem dX12_lay_21 : decode cX12_lay 21 = .ok (.bastore, 1) := by decide +kernel
theorem dX12_lay_22 : decode cX12_lay 22 = .ok (.aload_n 0, 1) := by decide +kernel
theorem dX12_lay_23 : decode cX12_lay 23 = .ok (.dup, 1) := by decide +kernel
theorem dX12_lay_24 : decode cX12_lay 24 = .ok (.getfield 234, 3) := by decide +kernel
theorem dX12_lay_27 : decode cX12_lay 27 = .ok (.iconst 1, 1) := by decide +kernel
theorem dX12_lay_28 : decode cX12_lay 28 = .ok (.iadd, 1) := by decide +kernel
theorem dX12_lay_29 : decode cX12_lay 29 = .ok (.putfield 234, 3) := by decide +kernel
theorem dX12_lay_32 : decode cX12_lay 32 = .ok (.iinc 2 (-1), 3) := by decide +kernel
theorem dX12_lay_35 : decode cX12_lay 35 = .ok (.goto (-33), 3) := by decide +kernel
theorem dX12_lay_38 : decode cX12_lay 38 = .ok (.return_, 1) := by decide +kernel
theorem dX12_starts_0 : decode cX12_starts 0 = .ok (.iload_n 1, 1) := by decide +kernel
theorem dX12_starts_1 : decode cX12_starts 1 = .ok (.ifCond .lt 16, 3) := by decide +kernel
theorem dX12_starts_4 : decode cX12_starts 4 = .ok (.iload_n 1, 1) := by decide +kernel
theorem dX12_starts_5 : decode cX12_starts 5 = .ok (.aload_n 0, 1) := by decide +kernel
theorem dX12_starts_6 : decode cX12_starts 6 = .ok (.getfield 234, 3) := by decide +kernel
theorem dX12_starts_9 : decode cX12_starts 9 = .ok (.if_icmp .gt 8, 3) := by decide +kernel
theorem dX12_starts_12 : decode cX12_starts 12 = .ok (.iload_n 1, 1) := by decide +kernel
theorem dX12_starts_13 : decode cX12_starts 13 = .ok (.iload_n 2, 1) := by decide +kernel
theorem dX12_starts_14 : decode cX12_starts 14 = .ok (.if_icmp .le 9, 3) := by decide +kernel
theorem dX12_starts_17 : decode cX12_starts 17 = .ok (.aload_n 0, 1) := by decide +kernel
theorem dX12_starts_18 : decode cX12_starts 18 = .ok (.iconst 5, 1) := by decide +kernel
theorem dX12_starts_19 : decode cX12_starts 19 = .ok (.invokevirtual 86, 3) := by decide +kernel
theorem dX12_starts_22 : decode cX12_starts 22 = .ok (.ireturn, 1) := by decide +kernel
theorem dX12_starts_23 : decode cX12_starts 23 = .ok (.aload_n 0, 1) := by decide +kernel
theorem dX12_starts_24 : decode cX12_starts 24 = .ok (.iload_n 1, 1) := by decide +kernel
theorem dX12_starts_25 : decode cX12_starts 25 = .ok (.putfield 114, 3) := by decide +kernel
theorem dX12_starts_28 : decode cX12_starts 28 = .ok (.aload_n 0, 1) := by decide +kernel
theorem dX12_starts_29 : decode cX12_starts 29 = .ok (.iconst 0, 1) := by decide +kernel
theorem dX12_starts_30 : decode cX12_starts 30 = .ok (.putfield 234, 3) := by decide +kernel
theorem dX12_starts_33 : decode cX12_starts 33 = .ok (.aload_n 0, 1) := by decide +kernel
theorem dX12_starts_34 : decode cX12_starts 34 = .ok (.iconst 0, 1) := by decide +kernel
theorem dX12_starts_35 : decode cX12_starts 35 = .ok (.putfield 117, 3) := by decide +kernel
theorem dX12_starts_38 : decode cX12_starts 38 = .ok (.aload_n 0, 1) := by decide +kernel
theorem dX12_starts_39 : decode cX12_starts 39 = .ok (.iconst 0, 1) := by decide +kernel
theorem dX12_starts_40 : decode cX12_starts 40 = .ok (.putfield 211, 3) := by decide +kernel
theorem dX12_starts_43 : decode cX12_starts 43 = .ok (.aload_n 0, 1) := by decide +kernel
theorem dX12_starts_44 : decode cX12_starts 44 = .ok (.invokevirtual 221, 3) := by decide +kernel
theorem dX12_starts_47 : decode cX12_starts 47 = .ok (.iconst 1, 1) := by decide +kernel
theorem dX12_starts_48 : decode cX12_starts 48 = .ok (.ireturn, 1) := by decide +kernel
theorem dX12_isWell_0 : decode cX12_isWell 0 = .ok (.aload_n 0, 1) := by decide +kernel
theorem dX12_isWell_1 : decode cX12_isWell 1 = .ok (.aload_n 0, 1) := by decide +kernel
theorem dX12_isWell_2 : decode cX12_isWell 2 = .ok (.getfield 211, 3) := by decide +kernel
theorem dX12_isWell_5 : decode cX12_isWell 5 = .ok (.putfield 28, 3) := by decide +kernel
theorem dX12_isWell_8 : decode cX12_isWell 8 = .ok (.aload_n 0, 1) := by decide +kernel
theorem dX12_isWell_9 : decode cX12_isWell 9 = .ok (.aload_n 0, 1) := by decide +kernel
theorem dX12_isWell_10 : decode cX12_isWell 10 = .ok (.getfield 211, 3) := by decide +kernel
theorem dX12_isWell_13 : decode cX12_isWell 13 = .ok (.ifCond .ne 7, 3) := by decide +kernel
theorem dX12_isWell_16 : decode cX12_isWell 16 = .ok (.iconst (-1), 1) := by decide +kernel
theorem dX12_isWell_17 : decode cX12_isWell 17 = .ok (.goto 7, 3) := by decide +kernel
theorem dX12_isWell_20 : decode cX12_isWell 20 = .ok (.aload_n 0, 1) := by decide +kernel
theorem dX12_isWell_21 : decode cX12_isWell 21 = .ok (.getfield 214, 3) := by decide +kernel
theorem dX12_isWell_24 : decode cX12_isWell 24 = .ok (.putfield 32, 3) := by decide +kernel
theorem dX12_isWell_27 : decode cX12_isWell 27 = .ok (.aload_n 0, 1) := by decide +kernel
theorem dX12_isWell_28 : decode cX12_isWell 28 = .ok (.getfield 211, 3) := by decide +kernel
theorem dX12_isWell_31 : decode cX12_isWell 31 = .ok (.ifCond .eq 12, 3) := by decide +kernel
theorem dX12_isWell_34 : decode cX12_isWell 34 = .ok (.aload_n 0, 1) := by decide +kernel
theorem dX12_isWell_35 : decode cX12_isWell 35 = .ok (.bipush 10, 2) := by decide +kernel
theorem dX12_isWell_37 : decode cX12_isWell 37 = .ok (.invokevirtual 86, 3) := by decide +kernel
theorem dX12_isWell_40 : decode cX12_isWell 40 = .ok (.ifCond .eq 7, 3) := by decide +kernel
theorem dX12_isWell_43 : decode cX12_isWell 43 = .ok (.iconst 1, 1) := by decide +kernel
theorem dX12_isWell_44 : decode cX12_isWell 44 = .ok (.goto 4, 3) := by decide +kernel
theorem dX12_isWell_47 : decode cX12_isWell 47 = .ok (.iconst 0, 1) := by decide +kernel
theorem dX12_isWell_48 : decode cX12_isWell 48 = .ok (.ireturn, 1) := by decide +kernel
theorem dX12_fault_0 : decode cX12_fault 0 = .ok (.aload_n 0, 1) := by decide +kernel
theorem dX12_fault_1 : decode cX12_fault 1 = .ok (.iconst 0, 1) := by decide +kernel
theorem dX12_fault_2 : decode cX12_fault 2 = .ok (.putfield 71, 3) := by decide +kernel
theorem dX12_fault_5 : decode cX12_fault 5 = .ok (.iload_n 1, 1) := by decide +kernel
theorem dX12_fault_6 : decode cX12_fault 6 = .ok (.ifCond .ne 10, 3) := by decide +kernel
theorem dX12_fault_9 : decode cX12_fault 9 = .ok (.aload_n 0, 1) := by decide +kernel
theorem dX12_fault_10 : decode cX12_fault 10 = .ok (.getfield 28, 3) := by decide +kernel
theorem dX12_fault_13 : decode cX12_fault 13 = .ok (.goto 16, 3) := by decide +kernel
theorem dX12_fault_16 : decode cX12_fault 16 = .ok (.iload_n 1, 1) := by decide +kernel
theorem dX12_fault_17 : decode cX12_fault 17 = .ok (.iconst 1, 1) := by decide +kernel
theorem dX12_fault_18 : decode cX12_fault 18 = .ok (.if_icmp .ne 10, 3) := by decide +kernel
theorem dX12_fault_21 : decode cX12_fault 21 = .ok (.aload_n 0, 1) := by decide +kernel
theorem dX12_fault_22 : decode cX12_fault 22 = .ok (.getfield 32, 3) := by decide +kernel
theorem dX12_fault_25 : decode cX12_fault 25 = .ok (.goto 4, 3) := by decide +kernel
theorem dX12_fault_28 : decode cX12_fault 28 = .ok (.iconst (-1), 1) := by decide +kernel
theorem dX12_fault_29 : decode cX12_fault 29 = .ok (.ireturn, 1) := by decide +kernel
theorem dX12_fromOf_0 : decode cX12_fromOf 0 = .ok (.iload_n 0, 1) := by decide +kernel
theorem dX12_fromOf_1 : decode cX12_fromOf 1 = .ok (.ifCond .ne 7, 3) := by decide +kernel
theorem dX12_fromOf_4 : decode cX12_fromOf 4 = .ok (.iconst 0, 1) := by decide +kernel
theorem dX12_fromOf_5 : decode cX12_fromOf 5 = .ok (.goto 15, 3) := by decide +kernel
theorem dX12_fromOf_8 : decode cX12_fromOf 8 = .ok (.iload_n 0, 1) := by decide +kernel
theorem dX12_fromOf_9 : decode cX12_fromOf 9 = .ok (.iconst 1, 1) := by decide +kernel
theorem dX12_fromOf_10 : decode cX12_fromOf 10 = .ok (.if_icmp .ne 8, 3) := by decide +kernel
theorem dX12_fromOf_13 : decode cX12_fromOf 13 = .ok (.bipush 8, 2) := by decide +kernel
theorem dX12_fromOf_15 : decode cX12_fromOf 15 = .ok (.goto 5, 3) := by decide +kernel
theorem dX12_fromOf_18 : decode cX12_fromOf 18 = .ok (.bipush 14, 2) := by decide +kernel
theorem dX12_fromOf_20 : decode cX12_fromOf 20 = .ok (.ireturn, 1) := by decide +kernel
theorem dX12_named_0 : decode cX12_named 0 = .ok (.iconst 0, 1) := by decide +kernel
theorem dX12_named_1 : decode cX12_named 1 = .ok (.istore_n 3, 1) := by decide +kernel
theorem dX12_named_2 : decode cX12_named 2 = .ok (.iload_n 3, 1) := by decide +kernel
theorem dX12_named_3 : decode cX12_named 3 = .ok (.aload_n 0, 1) := by decide +kernel
theorem dX12_named_4 : decode cX12_named 4 = .ok (.getfield 35, 3) := by decide +kernel
theorem dX12_named_7 : decode cX12_named 7 = .ok (.sipush 390, 3) := by decide +kernel
theorem dX12_named_10 : decode cX12_named 10 = .ok (.iload_n 1, 1) := by decide +kernel
theorem dX12_named_11 : decode cX12_named 11 = .ok (.imul, 1) := by decide +kernel
theorem dX12_named_12 : decode cX12_named 12 = .ok (.iload_n 2, 1) := by decide +kernel
theorem dX12_named_13 : decode cX12_named 13 = .ok (.iadd, 1) := by decide +kernel
theorem dX12_named_14 : decode cX12_named 14 = .ok (.iaload, 1) := by decide +kernel
theorem dX12_named_15 : decode cX12_named 15 = .ok (.if_icmp .ge 35, 3) := by decide +kernel
theorem dX12_named_18 : decode cX12_named 18 = .ok (.aload_n 0, 1) := by decide +kernel
theorem dX12_named_19 : decode cX12_named 19 = .ok (.getfield 41, 3) := by decide +kernel
theorem dX12_named_22 : decode cX12_named 22 = .ok (.bipush 20, 2) := by decide +kernel
theorem dX12_named_24 : decode cX12_named 24 = .ok (.iload_n 1, 1) := by decide +kernel
theorem dX12_named_25 : decode cX12_named 25 = .ok (.imul, 1) := by decide +kernel
theorem dX12_named_26 : decode cX12_named 26 = .ok (.iload_n 2, 1) := by decide +kernel
theorem dX12_named_27 : decode cX12_named 27 = .ok (.invokestatic 241, 3) := by decide +kernel
theorem dX12_named_30 : decode cX12_named 30 = .ok (.iadd, 1) := by decide +kernel
theorem dX12_named_31 : decode cX12_named 31 = .ok (.iload_n 3, 1) := by decide +kernel
theorem dX12_named_32 : decode cX12_named 32 = .ok (.iadd, 1) := by decide +kernel
theorem dX12_named_33 : decode cX12_named 33 = .ok (.laload, 1) := by decide +kernel
theorem dX12_named_34 : decode cX12_named 34 = .ok (.aload_n 0, 1) := by decide +kernel
theorem dX12_named_35 : decode cX12_named 35 = .ok (.getfield 132, 3) := by decide +kernel
theorem dX12_named_38 : decode cX12_named 38 = .ok (.lcmp, 1) := by decide +kernel
theorem dX12_named_39 : decode cX12_named 39 = .ok (.ifCond .ne 5, 3) := by decide +kernel
theorem dX12_named_42 : decode cX12_named 42 = .ok (.iload_n 3, 1) := by decide +kernel
theorem dX12_named_43 : decode cX12_named 43 = .ok (.ireturn, 1) := by decide +kernel
theorem dX12_named_44 : decode cX12_named 44 = .ok (.iinc 3 1, 3) := by decide +kernel
theorem dX12_named_47 : decode cX12_named 47 = .ok (.goto (-45), 3) := by decide +kernel
theorem dX12_named_50 : decode cX12_named 50 = .ok (.iconst (-1), 1) := by decide +kernel
theorem dX12_named_51 : decode cX12_named 51 = .ok (.ireturn, 1) := by decide +kernel
theorem dX12_readNew_0 : decode cX12_readNew 0 = .ok (.aload_n 0, 1) := by decide +kernel
theorem dX12_readNew_1 : decode cX12_readNew 1 = .ok (.getfield 35, 3) := by decide +kernel
theorem dX12_readNew_4 : decode cX12_readNew 4 = .ok (.sipush 1560, 3) := by decide +kernel
theorem dX12_readNew_7 : decode cX12_readNew 7 = .ok (.iload_n 1, 1) := by decide +kernel
theorem dX12_readNew_8 : decode cX12_readNew 8 = .ok (.iadd, 1) := by decide +kernel
theorem dX12_readNew_9 : decode cX12_readNew 9 = .ok (.iaload, 1) := by decide +kernel
theorem dX12_readNew_10 : decode cX12_readNew 10 = .ok (.istore_n 3, 1) := by decide +kernel
theorem dX12_readNew_11 : decode cX12_readNew 11 = .ok (.iload_n 3, 1) := by decide +kernel
theorem dX12_readNew_12 : decode cX12_readNew 12 = .ok (.iload_n 2, 1) := by decide +kernel
theorem dX12_readNew_13 : decode cX12_readNew 13 = .ok (.if_icmp .ne 13, 3) := by decide +kernel
theorem dX12_readNew_16 : decode cX12_readNew 16 = .ok (.aload_n 0, 1) := by decide +kernel
theorem dX12_readNew_17 : decode cX12_readNew 17 = .ok (.bipush 6, 2) := by decide +kernel
theorem dX12_readNew_19 : decode cX12_readNew 19 = .ok (.aload_n 0, 1) := by decide +kernel
theorem dX12_readNew_20 : decode cX12_readNew 20 = .ok (.getfield 120, 3) := by decide +kernel
theorem dX12_readNew_23 : decode cX12_readNew 23 = .ok (.invokevirtual 217, 3) := by decide +kernel
theorem dX12_readNew_26 : decode cX12_readNew 26 = .ok (.aload_n 0, 1) := by decide +kernel
theorem dX12_readNew_27 : decode cX12_readNew 27 = .ok (.getfield 211, 3) := by decide +kernel
theorem dX12_readNew_30 : decode cX12_readNew 30 = .ok (.ifCond .le 5, 3) := by decide +kernel
theorem dX12_readNew_33 : decode cX12_readNew 33 = .ok (.iconst 0, 1) := by decide +kernel
theorem dX12_readNew_34 : decode cX12_readNew 34 = .ok (.ireturn, 1) := by decide +kernel
theorem dX12_readNew_35 : decode cX12_readNew 35 = .ok (.aload_n 0, 1) := by decide +kernel
theorem dX12_readNew_36 : decode cX12_readNew 36 = .ok (.invokevirtual 221, 3) := by decide +kernel
theorem dX12_readNew_39 : decode cX12_readNew 39 = .ok (.aload_n 0, 1) := by decide +kernel
theorem dX12_readNew_40 : decode cX12_readNew 40 = .ok (.invokevirtual 244, 3) := by decide +kernel
theorem dX12_readNew_43 : decode cX12_readNew 43 = .ok (.ifCond .ne 7, 3) := by decide +kernel
theorem dX12_readNew_46 : decode cX12_readNew 46 = .ok (.aload_n 0, 1) := by decide +kernel
theorem dX12_readNew_47 : decode cX12_readNew 47 = .ok (.invokevirtual 224, 3) := by decide +kernel
theorem dX12_readNew_50 : decode cX12_readNew 50 = .ok (.aload_n 0, 1) := by decide +kernel
theorem dX12_readNew_51 : decode cX12_readNew 51 = .ok (.getfield 211, 3) := by decide +kernel
theorem dX12_readNew_54 : decode cX12_readNew 54 = .ok (.ifCond .ne 39, 3) := by decide +kernel
theorem dX12_readNew_57 : decode cX12_readNew 57 = .ok (.aload_n 0, 1) := by decide +kernel
theorem dX12_readNew_58 : decode cX12_readNew 58 = .ok (.iconst 4, 1) := by decide +kernel
theorem dX12_readNew_59 : decode cX12_readNew 59 = .ok (.iconst 0, 1) := by decide +kernel
theorem dX12_readNew_60 : decode cX12_readNew 60 = .ok (.invokevirtual 247, 3) := by decide +kernel
theorem dX12_readNew_63 : decode cX12_readNew 63 = .ok (.ifCond .ge 21, 3) := by decide +kernel
theorem dX12_readNew_66 : decode cX12_readNew 66 = .ok (.aload_n 0, 1) := by decide +kernel
theorem dX12_readNew_67 : decode cX12_readNew 67 = .ok (.iconst 4, 1) := by decide +kernel
theorem dX12_readNew_68 : decode cX12_readNew 68 = .ok (.iconst 1, 1) := by decide +kernel
theorem dX12_readNew_69 : decode cX12_readNew 69 = .ok (.invokevirtual 247, 3) := by decide +kernel
theorem dX12_readNew_72 : decode cX12_readNew 72 = .ok (.ifCond .ge 12, 3) := by decide +kernel
theorem dX12_readNew_75 : decode cX12_readNew 75 = .ok (.aload_n 0, 1) := by decide +kernel
theorem dX12_readNew_76 : decode cX12_readNew 76 = .ok (.iconst 4, 1) := by decide +kernel
theorem dX12_readNew_77 : decode cX12_readNew 77 = .ok (.iconst 2, 1) := by decide +kernel
theorem dX12_readNew_78 : decode cX12_readNew 78 = .ok (.invokevirtual 247, 3) := by decide +kernel
theorem dX12_readNew_81 : decode cX12_readNew 81 = .ok (.ifCond .lt 12, 3) := by decide +kernel
theorem dX12_readNew_84 : decode cX12_readNew 84 = .ok (.aload_n 0, 1) := by decide +kernel
theorem dX12_readNew_85 : decode cX12_readNew 85 = .ok (.iconst 3, 1) := by decide +kernel
theorem dX12_readNew_86 : decode cX12_readNew 86 = .ok (.aload_n 0, 1) := by decide +kernel
theorem dX12_readNew_87 : decode cX12_readNew 87 = .ok (.getfield 120, 3) := by decide +kernel
theorem dX12_readNew_90 : decode cX12_readNew 90 = .ok (.invokevirtual 217, 3) := by decide +kernel
theorem dX12_readNew_93 : decode cX12_readNew 93 = .ok (.aload_n 0, 1) := by decide +kernel
theorem dX12_readNew_94 : decode cX12_readNew 94 = .ok (.getfield 211, 3) := by decide +kernel
theorem dX12_readNew_97 : decode cX12_readNew 97 = .ok (.ifCond .le 5, 3) := by decide +kernel
theorem dX12_readNew_100 : decode cX12_readNew 100 = .ok (.iconst 0, 1) := by decide +kernel
theorem dX12_readNew_101 : decode cX12_readNew 101 = .ok (.ireturn, 1) := by decide +kernel
theorem dX12_readNew_102 : decode cX12_readNew 102 = .ok (.aload_n 0, 1) := by decide +kernel
theorem dX12_readNew_103 : decode cX12_readNew 103 = .ok (.getfield 41, 3) := by decide +kernel
theorem dX12_readNew_106 : decode cX12_readNew 106 = .ok (.bipush 80, 2) := by decide +kernel
theorem dX12_readNew_108 : decode cX12_readNew 108 = .ok (.iload_n 1, 1) := by decide +kernel
theorem dX12_readNew_109 : decode cX12_readNew 109 = .ok (.invokestatic 241, 3) := by decide +kernel
theorem dX12_readNew_112 : decode cX12_readNew 112 = .ok (.iadd, 1) := by decide +kernel
theorem dX12_readNew_113 : decode cX12_readNew 113 = .ok (.iload_n 3, 1) := by decide +kernel
theorem dX12_readNew_114 : decode cX12_readNew 114 = .ok (.iadd, 1) := by decide +kernel
theorem dX12_readNew_115 : decode cX12_readNew 115 = .ok (.aload_n 0, 1) := by decide +kernel
theorem dX12_readNew_116 : decode cX12_readNew 116 = .ok (.getfield 132, 3) := by decide +kernel
theorem dX12_readNew_119 : decode cX12_readNew 119 = .ok (.lastore, 1) := by decide +kernel
theorem dX12_readNew_120 : decode cX12_readNew 120 = .ok (.aload_n 0, 1) := by decide +kernel
theorem dX12_readNew_121 : decode cX12_readNew 121 = .ok (.invokevirtual 221, 3) := by decide +kernel
theorem dX12_readNew_124 : decode cX12_readNew 124 = .ok (.iload_n 3, 1) := by decide +kernel
theorem dX12_readNew_125 : decode cX12_readNew 125 = .ok (.ireturn, 1) := by decide +kernel
theorem dX12_told_0 : decode cX12_told 0 = .ok (.aload_n 0, 1) := by decide +kernel
theorem dX12_told_1 : decode cX12_told 1 = .ok (.getfield 211, 3) := by decide +kernel
theorem dX12_told_4 : decode cX12_told 4 = .ok (.ifCond .ne 14, 3) := by decide +kernel
theorem dX12_told_7 : decode cX12_told 7 = .ok (.aload_n 0, 1) := by decide +kernel
theorem dX12_told_8 : decode cX12_told 8 = .ok (.invokevirtual 244, 3) := by decide +kernel
theorem dX12_told_11 : decode cX12_told 11 = .ok (.ifCond .ne 7, 3) := by decide +kernel
theorem dX12_told_14 : decode cX12_told 14 = .ok (.aload_n 0, 1) := by decide +kernel
theorem dX12_told_15 : decode cX12_told 15 = .ok (.invokevirtual 224, 3) := by decide +kernel
theorem dX12_told_18 : decode cX12_told 18 = .ok (.aload_n 0, 1) := by decide +kernel
theorem dX12_told_19 : decode cX12_told 19 = .ok (.getfield 211, 3) := by decide +kernel
theorem dX12_told_22 : decode cX12_told 22 = .ok (.ifCond .le 5, 3) := by decide +kernel
theorem dX12_told_25 : decode cX12_told 25 = .ok (.iconst 0, 1) := by decide +kernel
theorem dX12_told_26 : decode cX12_told 26 = .ok (.ireturn, 1) := by decide +kernel
theorem dX12_told_27 : decode cX12_told 27 = .ok (.aload_n 0, 1) := by decide +kernel
theorem dX12_told_28 : decode cX12_told 28 = .ok (.iload_n 1, 1) := by decide +kernel
theorem dX12_told_29 : decode cX12_told 29 = .ok (.iload_n 2, 1) := by decide +kernel
theorem dX12_told_30 : decode cX12_told 30 = .ok (.invokevirtual 247, 3) := by decide +kernel
theorem dX12_told_33 : decode cX12_told 33 = .ok (.istore_n 3, 1) := by decide +kernel
theorem dX12_told_34 : decode cX12_told 34 = .ok (.iload_n 3, 1) := by decide +kernel
theorem dX12_told_35 : decode cX12_told 35 = .ok (.ifCond .ge 12, 3) := by decide +kernel
theorem dX12_told_38 : decode cX12_told 38 = .ok (.aload_n 0, 1) := by decide +kernel
theorem dX12_told_39 : decode cX12_told 39 = .ok (.iconst 3, 1) := by decide +kernel
theorem dX12_told_40 : decode cX12_told 40 = .ok (.aload_n 0, 1) := by decide +kernel
theorem dX12_told_41 : decode cX12_told 41 = .ok (.getfield 120, 3) := by decide +kernel
theorem dX12_told_44 : decode cX12_told 44 = .ok (.invokevirtual 217, 3) := by decide +kernel
theorem dX12_told_47 : decode cX12_told 47 = .ok (.iconst 0, 1) := by decide +kernel
theorem dX12_told_48 : decode cX12_told 48 = .ok (.iload_n 3, 1) := by decide +kernel
theorem dX12_told_49 : decode cX12_told 49 = .ok (.invokestatic 250, 3) := by decide +kernel
theorem dX12_told_52 : decode cX12_told 52 = .ok (.ireturn, 1) := by decide +kernel
theorem dX12_readTold_0 : decode cX12_readTold 0 = .ok (.aload_n 0, 1) := by decide +kernel
theorem dX12_readTold_1 : decode cX12_readTold 1 = .ok (.iload_n 1, 1) := by decide +kernel
theorem dX12_readTold_2 : decode cX12_readTold 2 = .ok (.iload_n 2, 1) := by decide +kernel
theorem dX12_readTold_3 : decode cX12_readTold 3 = .ok (.invokevirtual 253, 3) := by decide +kernel
theorem dX12_readTold_6 : decode cX12_readTold 6 = .ok (.istore_n 3, 1) := by decide +kernel
theorem dX12_readTold_7 : decode cX12_readTold 7 = .ok (.aload_n 0, 1) := by decide +kernel
theorem dX12_readTold_8 : decode cX12_readTold 8 = .ok (.iconst 1, 1) := by decide +kernel
theorem dX12_readTold_9 : decode cX12_readTold 9 = .ok (.invokevirtual 227, 3) := by decide +kernel
theorem dX12_readTold_12 : decode cX12_readTold 12 = .ok (.iload_n 3, 1) := by decide +kernel
theorem dX12_readTold_13 : decode cX12_readTold 13 = .ok (.ireturn, 1) := by decide +kernel
theorem dX12_readCell_0 : decode cX12_readCell 0 = .ok (.aload_n 0, 1) := by decide +kernel
theorem dX12_readCell_1 : decode cX12_readCell 1 = .ok (.iconst 0, 1) := by decide +kernel
theorem dX12_readCell_2 : decode cX12_readCell 2 = .ok (.bipush 8, 2) := by decide +kernel
theorem dX12_readCell_4 : decode cX12_readCell 4 = .ok (.invokevirtual 256, 3) := by decide +kernel
theorem dX12_readCell_7 : decode cX12_readCell 7 = .ok (.istore_n 1, 1) := by decide +kernel
theorem dX12_readCell_8 : decode cX12_readCell 8 = .ok (.aload_n 0, 1) := by decide +kernel
theorem dX12_readCell_9 : decode cX12_readCell 9 = .ok (.getfield 35, 3) := by decide +kernel
theorem dX12_readCell_12 : decode cX12_readCell 12 = .ok (.sipush 1569, 3) := by decide +kernel
theorem dX12_readCell_15 : decode cX12_readCell 15 = .ok (.iload_n 1, 1) := by decide +kernel
theorem dX12_readCell_16 : decode cX12_readCell 16 = .ok (.iadd, 1) := by decide +kernel
theorem dX12_readCell_17 : decode cX12_readCell 17 = .ok (.aload_n 0, 1) := by decide +kernel
theorem dX12_readCell_18 : decode cX12_readCell 18 = .ok (.aload_n 0, 1) := by decide +kernel
theorem dX12_readCell_19 : decode cX12_readCell 19 = .ok (.invokevirtual 168, 3) := by decide +kernel
theorem dX12_readCell_22 : decode cX12_readCell 22 = .ok (.invokevirtual 259, 3) := by decide +kernel
theorem dX12_readCell_25 : decode cX12_readCell 25 = .ok (.ifCond .eq 13, 3) := by decide +kernel
theorem dX12_readCell_28 : decode cX12_readCell 28 = .ok (.aload_n 0, 1) := by decide +kernel
theorem dX12_readCell_29 : decode cX12_readCell 29 = .ok (.iconst 0, 1) := by decide +kernel
theorem dX12_readCell_30 : decode cX12_readCell 30 = .ok (.bipush 20, 2) := by decide +kernel
theorem dX12_readCell_32 : decode cX12_readCell 32 = .ok (.invokevirtual 231, 3) := by decide +kernel
theorem dX12_readCell_35 : decode cX12_readCell 35 = .ok (.goto 4, 3) := by decide +kernel
theorem dX12_readCell_38 : decode cX12_readCell 38 = .ok (.iconst 5, 1) := by decide +kernel
theorem dX12_readCell_39 : decode cX12_readCell 39 = .ok (.iastore, 1) := by decide +kernel
theorem dX12_readCell_40 : decode cX12_readCell 40 = .ok (.aload_n 0, 1) := by decide +kernel
theorem dX12_readCell_41 : decode cX12_readCell 41 = .ok (.getfield 35, 3) := by decide +kernel
theorem dX12_readCell_44 : decode cX12_readCell 44 = .ok (.sipush 1577, 3) := by decide +kernel
theorem dX12_readCell_47 : decode cX12_readCell 47 = .ok (.iload_n 1, 1) := by decide +kernel
theorem dX12_readCell_48 : decode cX12_readCell 48 = .ok (.iadd, 1) := by decide +kernel
theorem dX12_readCell_49 : decode cX12_readCell 49 = .ok (.aload_n 0, 1) := by decide +kernel
theorem dX12_readCell_50 : decode cX12_readCell 50 = .ok (.aload_n 0, 1) := by decide +kernel
theorem dX12_readCell_51 : decode cX12_readCell 51 = .ok (.invokevirtual 171, 3) := by decide +kernel
theorem dX12_readCell_54 : decode cX12_readCell 54 = .ok (.invokevirtual 259, 3) := by decide +kernel
theorem dX12_readCell_57 : decode cX12_readCell 57 = .ok (.ifCond .eq 7, 3) := by decide +kernel
theorem dX12_readCell_60 : decode cX12_readCell 60 = .ok (.iconst 1, 1) := by decide +kernel
theorem dX12_readCell_61 : decode cX12_readCell 61 = .ok (.goto 4, 3) := by decide +kernel
theorem dX12_readCell_64 : decode cX12_readCell 64 = .ok (.iconst 0, 1) := by decide +kernel
theorem dX12_readCell_65 : decode cX12_readCell 65 = .ok (.iastore, 1) := by decide +kernel
theorem dX12_readCell_66 : decode cX12_readCell 66 = .ok (.aload_n 0, 1) := by decide +kernel
theorem dX12_readCell_67 : decode cX12_readCell 67 = .ok (.getfield 35, 3) := by decide +kernel
theorem dX12_readCell_70 : decode cX12_readCell 70 = .ok (.sipush 1585, 3) := by decide +kernel
theorem dX12_readCell_73 : decode cX12_readCell 73 = .ok (.iload_n 1, 1) := by decide +kernel
theorem dX12_readCell_74 : decode cX12_readCell 74 = .ok (.iadd, 1) := by decide +kernel
theorem dX12_readCell_75 : decode cX12_readCell 75 = .ok (.aload_n 0, 1) := by decide +kernel
theorem dX12_readCell_76 : decode cX12_readCell 76 = .ok (.aload_n 0, 1) := by decide +kernel
theorem dX12_readCell_77 : decode cX12_readCell 77 = .ok (.invokevirtual 174, 3) := by decide +kernel
theorem dX12_readCell_80 : decode cX12_readCell 80 = .ok (.invokevirtual 259, 3) := by decide +kernel
theorem dX12_readCell_83 : decode cX12_readCell 83 = .ok (.ifCond .eq 7, 3) := by decide +kernel
theorem dX12_readCell_86 : decode cX12_readCell 86 = .ok (.iconst 1, 1) := by decide +kernel
theorem dX12_readCell_87 : decode cX12_readCell 87 = .ok (.goto 4, 3) := by decide +kernel
theorem dX12_readCell_90 : decode cX12_readCell 90 = .ok (.iconst 0, 1) := by decide +kernel
theorem dX12_readCell_91 : decode cX12_readCell 91 = .ok (.iastore, 1) := by decide +kernel
theorem dX12_readCell_92 : decode cX12_readCell 92 = .ok (.aload_n 0, 1) := by decide +kernel
theorem dX12_readCell_93 : decode cX12_readCell 93 = .ok (.getfield 211, 3) := by decide +kernel
theorem dX12_readCell_96 : decode cX12_readCell 96 = .ok (.ifCond .ne 15, 3) := by decide +kernel
theorem dX12_readCell_99 : decode cX12_readCell 99 = .ok (.aload_n 0, 1) := by decide +kernel
theorem dX12_readCell_100 : decode cX12_readCell 100 = .ok (.getfield 35, 3) := by decide +kernel
theorem dX12_readCell_103 : decode cX12_readCell 103 = .ok (.sipush 1560, 3) := by decide +kernel
theorem dX12_readCell_106 : decode cX12_readCell 106 = .ok (.dup2, 1) := by decide +kernel
theorem dX12_readCell_107 : decode cX12_readCell 107 = .ok (.iaload, 1) := by decide +kernel
theorem dX12_readCell_108 : decode cX12_readCell 108 = .ok (.iconst 1, 1) := by decide +kernel
theorem dX12_readCell_109 : decode cX12_readCell 109 = .ok (.iadd, 1) := by decide +kernel
theorem dX12_readCell_110 : decode cX12_readCell 110 = .ok (.iastore, 1) := by decide +kernel
theorem dX12_readCell_111 : decode cX12_readCell 111 = .ok (.return_, 1) := by decide +kernel
theorem dX12_readSecret_0 : decode cX12_readSecret 0 = .ok (.aload_n 0, 1) := by decide +kernel
theorem dX12_readSecret_1 : decode cX12_readSecret 1 = .ok (.iconst 1, 1) := by decide +kernel
theorem dX12_readSecret_2 : decode cX12_readSecret 2 = .ok (.bipush 6, 2) := by decide +kernel
theorem dX12_readSecret_4 : decode cX12_readSecret 4 = .ok (.invokevirtual 256, 3) := by decide +kernel
theorem dX12_readSecret_7 : decode cX12_readSecret 7 = .ok (.istore_n 1, 1) := by decide +kernel
theorem dX12_readSecret_8 : decode cX12_readSecret 8 = .ok (.aload_n 0, 1) := by decide +kernel
theorem dX12_readSecret_9 : decode cX12_readSecret 9 = .ok (.getfield 35, 3) := by decide +kernel
theorem dX12_readSecret_12 : decode cX12_readSecret 12 = .ok (.sipush 1609, 3) := by decide +kernel
theorem dX12_readSecret_15 : decode cX12_readSecret 15 = .ok (.iload_n 1, 1) := by decide +kernel
theorem dX12_readSecret_16 : decode cX12_readSecret 16 = .ok (.iadd, 1) := by decide +kernel
theorem dX12_readSecret_17 : decode cX12_readSecret 17 = .ok (.aload_n 0, 1) := by decide +kernel
theorem dX12_readSecret_18 : decode cX12_readSecret 18 = .ok (.aload_n 0, 1) := by decide +kernel
theorem dX12_readSecret_19 : decode cX12_readSecret 19 = .ok (.invokevirtual 180, 3) := by decide +kernel
theorem dX12_readSecret_22 : decode cX12_readSecret 22 = .ok (.iconst 1, 1) := by decide +kernel
theorem dX12_readSecret_23 : decode cX12_readSecret 23 = .ok (.bipush 20, 2) := by decide +kernel
theorem dX12_readSecret_25 : decode cX12_readSecret 25 = .ok (.invokevirtual 263, 3) := by decide +kernel
theorem dX12_readSecret_28 : decode cX12_readSecret 28 = .ok (.iastore, 1) := by decide +kernel
theorem dX12_readSecret_29 : decode cX12_readSecret 29 = .ok (.aload_n 0, 1) := by decide +kernel
theorem dX12_readSecret_30 : decode cX12_readSecret 30 = .ok (.getfield 211, 3) := by decide +kernel
theorem dX12_readSecret_33 : decode cX12_readSecret 33 = .ok (.ifCond .ne 15, 3) := by decide +kernel
theorem dX12_readSecret_36 : decode cX12_readSecret 36 = .ok (.aload_n 0, 1) := by decide +kernel
theorem dX12_readSecret_37 : decode cX12_readSecret 37 = .ok (.getfield 35, 3) := by decide +kernel
theorem dX12_readSecret_40 : decode cX12_readSecret 40 = .ok (.sipush 1561, 3) := by decide +kernel
theorem dX12_readSecret_43 : decode cX12_readSecret 43 = .ok (.dup2, 1) := by decide +kernel
theorem dX12_readSecret_44 : decode cX12_readSecret 44 = .ok (.iaload, 1) := by decide +kernel
theorem dX12_readSecret_45 : decode cX12_readSecret 45 = .ok (.iconst 1, 1) := by decide +kernel
theorem dX12_readSecret_46 : decode cX12_readSecret 46 = .ok (.iadd, 1) := by decide +kernel
theorem dX12_readSecret_47 : decode cX12_readSecret 47 = .ok (.iastore, 1) := by decide +kernel
theorem dX12_readSecret_48 : decode cX12_readSecret 48 = .ok (.return_, 1) := by decide +kernel
theorem dX12_readPage_0 : decode cX12_readPage 0 = .ok (.aload_n 0, 1) := by decide +kernel
theorem dX12_readPage_1 : decode cX12_readPage 1 = .ok (.iconst 2, 1) := by decide +kernel
theorem dX12_readPage_2 : decode cX12_readPage 2 = .ok (.bipush 6, 2) := by decide +kernel
theorem dX12_readPage_4 : decode cX12_readPage 4 = .ok (.invokevirtual 256, 3) := by decide +kernel
theorem dX12_readPage_7 : decode cX12_readPage 7 = .ok (.istore_n 1, 1) := by decide +kernel
theorem dX12_readPage_8 : decode cX12_readPage 8 = .ok (.aload_n 0, 1) := by decide +kernel
theorem dX12_readPage_9 : decode cX12_readPage 9 = .ok (.getfield 35, 3) := by decide +kernel
theorem dX12_readPage_12 : decode cX12_readPage 12 = .ok (.sipush 1615, 3) := by decide +kernel
theorem dX12_readPage_15 : decode cX12_readPage 15 = .ok (.iload_n 1, 1) := by decide +kernel
theorem dX12_readPage_16 : decode cX12_readPage 16 = .ok (.iadd, 1) := by decide +kernel
theorem dX12_readPage_17 : decode cX12_readPage 17 = .ok (.aload_n 0, 1) := by decide +kernel
theorem dX12_readPage_18 : decode cX12_readPage 18 = .ok (.aload_n 0, 1) := by decide +kernel
theorem dX12_readPage_19 : decode cX12_readPage 19 = .ok (.invokevirtual 186, 3) := by decide +kernel
theorem dX12_readPage_22 : decode cX12_readPage 22 = .ok (.iconst 0, 1) := by decide +kernel
theorem dX12_readPage_23 : decode cX12_readPage 23 = .ok (.bipush 60, 2) := by decide +kernel
theorem dX12_readPage_25 : decode cX12_readPage 25 = .ok (.invokevirtual 263, 3) := by decide +kernel
theorem dX12_readPage_28 : decode cX12_readPage 28 = .ok (.iastore, 1) := by decide +kernel
theorem dX12_readPage_29 : decode cX12_readPage 29 = .ok (.aload_n 0, 1) := by decide +kernel
theorem dX12_readPage_30 : decode cX12_readPage 30 = .ok (.getfield 211, 3) := by decide +kernel
theorem dX12_readPage_33 : decode cX12_readPage 33 = .ok (.ifCond .ne 15, 3) := by decide +kernel
theorem dX12_readPage_36 : decode cX12_readPage 36 = .ok (.aload_n 0, 1) := by decide +kernel
theorem dX12_readPage_37 : decode cX12_readPage 37 = .ok (.getfield 35, 3) := by decide +kernel
theorem dX12_readPage_40 : decode cX12_readPage 40 = .ok (.sipush 1562, 3) := by decide +kernel
theorem dX12_readPage_43 : decode cX12_readPage 43 = .ok (.dup2, 1) := by decide +kernel
theorem dX12_readPage_44 : decode cX12_readPage 44 = .ok (.iaload, 1) := by decide +kernel
theorem dX12_readPage_45 : decode cX12_readPage 45 = .ok (.iconst 1, 1) := by decide +kernel
theorem dX12_readPage_46 : decode cX12_readPage 46 = .ok (.iadd, 1) := by decide +kernel
theorem dX12_readPage_47 : decode cX12_readPage 47 = .ok (.iastore, 1) := by decide +kernel
theorem dX12_readPage_48 : decode cX12_readPage 48 = .ok (.return_, 1) := by decide +kernel
theorem dX12_readKnows_0 : decode cX12_readKnows 0 = .ok (.aload_n 0, 1) := by decide +kernel
theorem dX12_readKnows_1 : decode cX12_readKnows 1 = .ok (.invokevirtual 221, 3) := by decide +kernel
theorem dX12_readKnows_4 : decode cX12_readKnows 4 = .ok (.aload_n 0, 1) := by decide +kernel
theorem dX12_readKnows_5 : decode cX12_readKnows 5 = .ok (.iconst 4, 1) := by decide +kernel
theorem dX12_readKnows_6 : decode cX12_readKnows 6 = .ok (.iconst 0, 1) := by decide +kernel
theorem dX12_readKnows_7 : decode cX12_readKnows 7 = .ok (.invokevirtual 267, 3) := by decide +kernel
theorem dX12_readKnows_10 : decode cX12_readKnows 10 = .ok (.istore_n 1, 1) := by decide +kernel
theorem dX12_readKnows_11 : decode cX12_readKnows 11 = .ok (.aload_n 0, 1) := by decide +kernel
theorem dX12_readKnows_12 : decode cX12_readKnows 12 = .ok (.iconst 4, 1) := by decide +kernel
theorem dX12_readKnows_13 : decode cX12_readKnows 13 = .ok (.iconst 1, 1) := by decide +kernel
theorem dX12_readKnows_14 : decode cX12_readKnows 14 = .ok (.invokevirtual 267, 3) := by decide +kernel
theorem dX12_readKnows_17 : decode cX12_readKnows 17 = .ok (.istore_n 2, 1) := by decide +kernel
theorem dX12_readKnows_18 : decode cX12_readKnows 18 = .ok (.aload_n 0, 1) := by decide +kernel
theorem dX12_readKnows_19 : decode cX12_readKnows 19 = .ok (.getfield 211, 3) := by decide +kernel
theorem dX12_readKnows_22 : decode cX12_readKnows 22 = .ok (.ifCond .ne 19, 3) := by decide +kernel
theorem dX12_readKnows_25 : decode cX12_readKnows 25 = .ok (.aload_n 0, 1) := by decide +kernel
theorem dX12_readKnows_26 : decode cX12_readKnows 26 = .ok (.getfield 35, 3) := by decide +kernel
theorem dX12_readKnows_29 : decode cX12_readKnows 29 = .ok (.sipush 1593, 3) := by decide +kernel
theorem dX12_readKnows_32 : decode cX12_readKnows 32 = .ok (.iload_n 1, 1) := by decide +kernel
theorem dX12_readKnows_33 : decode cX12_readKnows 33 = .ok (.iadd, 1) := by decide +kernel
theorem dX12_readKnows_34 : decode cX12_readKnows 34 = .ok (.dup2, 1) := by decide +kernel
theorem dX12_readKnows_35 : decode cX12_readKnows 35 = .ok (.iaload, 1) := by decide +kernel
theorem dX12_readKnows_36 : decode cX12_readKnows 36 = .ok (.iconst 1, 1) := by decide +kernel
theorem dX12_readKnows_37 : decode cX12_readKnows 37 = .ok (.iload_n 2, 1) := by decide +kernel
theorem dX12_readKnows_38 : decode cX12_readKnows 38 = .ok (.ishl, 1) := by decide +kernel
theorem dX12_readKnows_39 : decode cX12_readKnows 39 = .ok (.ior, 1) := by decide +kernel
theorem dX12_readKnows_40 : decode cX12_readKnows 40 = .ok (.iastore, 1) := by decide +kernel
theorem dX12_readKnows_41 : decode cX12_readKnows 41 = .ok (.return_, 1) := by decide +kernel
theorem dX12_readOrder_0 : decode cX12_readOrder 0 = .ok (.aload_n 0, 1) := by decide +kernel
theorem dX12_readOrder_1 : decode cX12_readOrder 1 = .ok (.invokevirtual 221, 3) := by decide +kernel
theorem dX12_readOrder_4 : decode cX12_readOrder 4 = .ok (.iconst 0, 1) := by decide +kernel
theorem dX12_readOrder_5 : decode cX12_readOrder 5 = .ok (.istore_n 1, 1) := by decide +kernel
theorem dX12_readOrder_6 : decode cX12_readOrder 6 = .ok (.iconst 0, 1) := by decide +kernel
theorem dX12_readOrder_7 : decode cX12_readOrder 7 = .ok (.istore_n 2, 1) := by decide +kernel
theorem dX12_readOrder_8 : decode cX12_readOrder 8 = .ok (.iconst 1, 1) := by decide +kernel
theorem dX12_readOrder_9 : decode cX12_readOrder 9 = .ok (.istore_n 3, 1) := by decide +kernel
theorem dX12_readOrder_10 : decode cX12_readOrder 10 = .ok (.aload_n 0, 1) := by decide +kernel
theorem dX12_readOrder_11 : decode cX12_readOrder 11 = .ok (.getfield 211, 3) := by decide +kernel
theorem dX12_readOrder_14 : decode cX12_readOrder 14 = .ok (.ifCond .ne 92, 3) := by decide +kernel
theorem dX12_readOrder_17 : decode cX12_readOrder 17 = .ok (.iload_n 3, 1) := by decide +kernel
theorem dX12_readOrder_18 : decode cX12_readOrder 18 = .ok (.ifCond .eq 88, 3) := by decide +kernel
theorem dX12_readOrder_21 : decode cX12_readOrder 21 = .ok (.aload_n 0, 1) := by decide +kernel
theorem dX12_readOrder_22 : decode cX12_readOrder 22 = .ok (.iconst 4, 1) := by decide +kernel
theorem dX12_readOrder_23 : decode cX12_readOrder 23 = .ok (.iconst 0, 1) := by decide +kernel
theorem dX12_readOrder_24 : decode cX12_readOrder 24 = .ok (.invokevirtual 253, 3) := by decide +kernel
theorem dX12_readOrder_27 : decode cX12_readOrder 27 = .ok (.istore 4, 2) := by decide +kernel
theorem dX12_readOrder_29 : decode cX12_readOrder 29 = .ok (.aload_n 0, 1) := by decide +kernel
theorem dX12_readOrder_30 : decode cX12_readOrder 30 = .ok (.getfield 211, 3) := by decide +kernel
theorem dX12_readOrder_33 : decode cX12_readOrder 33 = .ok (.ifCond .ne 21, 3) := by decide +kernel
theorem dX12_readOrder_36 : decode cX12_readOrder 36 = .ok (.iload_n 2, 1) := by decide +kernel
theorem dX12_readOrder_37 : decode cX12_readOrder 37 = .ok (.iload 4, 2) := by decide +kernel
theorem dX12_readOrder_39 : decode cX12_readOrder 39 = .ok (.invokestatic 110, 3) := by decide +kernel
theorem dX12_readOrder_42 : decode cX12_readOrder 42 = .ok (.ifCond .eq 12, 3) := by decide +kernel
theorem dX12_readOrder_45 : decode cX12_readOrder 45 = .ok (.aload_n 0, 1) := by decide +kernel
theorem dX12_readOrder_46 : decode cX12_readOrder 46 = .ok (.iconst 5, 1) := by decide +kernel
theorem dX12_readOrder_47 : decode cX12_readOrder 47 = .ok (.aload_n 0, 1) := by decide +kernel
theorem dX12_readOrder_48 : decode cX12_readOrder 48 = .ok (.getfield 120, 3) := by decide +kernel
theorem dX12_readOrder_51 : decode cX12_readOrder 51 = .ok (.invokevirtual 217, 3) := by decide +kernel
theorem dX12_readOrder_54 : decode cX12_readOrder 54 = .ok (.aload_n 0, 1) := by decide +kernel
theorem dX12_readOrder_55 : decode cX12_readOrder 55 = .ok (.iconst 1, 1) := by decide +kernel
theorem dX12_readOrder_56 : decode cX12_readOrder 56 = .ok (.invokevirtual 227, 3) := by decide +kernel
theorem dX12_readOrder_59 : decode cX12_readOrder 59 = .ok (.aload_n 0, 1) := by decide +kernel
theorem dX12_readOrder_60 : decode cX12_readOrder 60 = .ok (.getfield 211, 3) := by decide +kernel
theorem dX12_readOrder_63 : decode cX12_readOrder 63 = .ok (.ifCond .le 4, 3) := by decide +kernel
theorem dX12_readOrder_66 : decode cX12_readOrder 66 = .ok (.return_, 1) := by decide +kernel
theorem dX12_readOrder_67 : decode cX12_readOrder 67 = .ok (.aload_n 0, 1) := by decide +kernel
theorem dX12_readOrder_68 : decode cX12_readOrder 68 = .ok (.getfield 35, 3) := by decide +kernel
theorem dX12_readOrder_71 : decode cX12_readOrder 71 = .ok (.sipush 1627, 3) := by decide +kernel
theorem dX12_readOrder_74 : decode cX12_readOrder 74 = .ok (.iload_n 1, 1) := by decide +kernel
theorem dX12_readOrder_75 : decode cX12_readOrder 75 = .ok (.iadd, 1) := by decide +kernel
theorem dX12_readOrder_76 : decode cX12_readOrder 76 = .ok (.iload 4, 2) := by decide +kernel
theorem dX12_readOrder_78 : decode cX12_readOrder 78 = .ok (.iastore, 1) := by decide +kernel
theorem dX12_readOrder_79 : decode cX12_readOrder 79 = .ok (.iload_n 2, 1) := by decide +kernel
theorem dX12_readOrder_80 : decode cX12_readOrder 80 = .ok (.iconst 1, 1) := by decide +kernel
theorem dX12_readOrder_81 : decode cX12_readOrder 81 = .ok (.iload 4, 2) := by decide +kernel
theorem dX12_readOrder_83 : decode cX12_readOrder 83 = .ok (.ishl, 1) := by decide +kernel
theorem dX12_readOrder_84 : decode cX12_readOrder 84 = .ok (.ior, 1) := by decide +kernel
theorem dX12_readOrder_85 : decode cX12_readOrder 85 = .ok (.istore_n 2, 1) := by decide +kernel
theorem dX12_readOrder_86 : decode cX12_readOrder 86 = .ok (.iinc 1 1, 3) := by decide +kernel
theorem dX12_readOrder_89 : decode cX12_readOrder 89 = .ok (.aload_n 0, 1) := by decide +kernel
theorem dX12_readOrder_90 : decode cX12_readOrder 90 = .ok (.getfield 126, 3) := by decide +kernel
theorem dX12_readOrder_93 : decode cX12_readOrder 93 = .ok (.iconst 1, 1) := by decide +kernel
theorem dX12_readOrder_94 : decode cX12_readOrder 94 = .ok (.if_icmp .ne 7, 3) := by decide +kernel
theorem dX12_readOrder_97 : decode cX12_readOrder 97 = .ok (.iconst 1, 1) := by decide +kernel
theorem dX12_readOrder_98 : decode cX12_readOrder 98 = .ok (.goto 4, 3) := by decide +kernel
theorem dX12_readOrder_101 : decode cX12_readOrder 101 = .ok (.iconst 0, 1) := by decide +kernel
theorem dX12_readOrder_102 : decode cX12_readOrder 102 = .ok (.istore_n 3, 1) := by decide +kernel
theorem dX12_readOrder_103 : decode cX12_readOrder 103 = .ok (.goto (-93), 3) := by decide +kernel
theorem dX12_readOrder_106 : decode cX12_readOrder 106 = .ok (.aload_n 0, 1) := by decide +kernel
theorem dX12_readOrder_107 : decode cX12_readOrder 107 = .ok (.iconst 1, 1) := by decide +kernel
theorem dX12_readOrder_108 : decode cX12_readOrder 108 = .ok (.putfield 270, 3) := by decide +kernel
theorem dX12_readOrder_111 : decode cX12_readOrder 111 = .ok (.aload_n 0, 1) := by decide +kernel
theorem dX12_readOrder_112 : decode cX12_readOrder 112 = .ok (.getfield 35, 3) := by decide +kernel
theorem dX12_readOrder_115 : decode cX12_readOrder 115 = .ok (.sipush 1563, 3) := by decide +kernel
theorem dX12_readOrder_118 : decode cX12_readOrder 118 = .ok (.iload_n 1, 1) := by decide +kernel
theorem dX12_readOrder_119 : decode cX12_readOrder 119 = .ok (.iastore, 1) := by decide +kernel
theorem dX12_readOrder_120 : decode cX12_readOrder 120 = .ok (.return_, 1) := by decide +kernel
theorem dX12_readRead_0 : decode cX12_readRead 0 = .ok (.aload_n 0, 1) := by decide +kernel
theorem dX12_readRead_1 : decode cX12_readRead 1 = .ok (.invokevirtual 221, 3) := by decide +kernel
theorem dX12_readRead_4 : decode cX12_readRead 4 = .ok (.aload_n 0, 1) := by decide +kernel
theorem dX12_readRead_5 : decode cX12_readRead 5 = .ok (.iconst 4, 1) := by decide +kernel
theorem dX12_readRead_6 : decode cX12_readRead 6 = .ok (.iconst 2, 1) := by decide +kernel
theorem dX12_readRead_7 : decode cX12_readRead 7 = .ok (.invokevirtual 267, 3) := by decide +kernel
theorem dX12_readRead_10 : decode cX12_readRead 10 = .ok (.istore_n 1, 1) := by decide +kernel
theorem dX12_readRead_11 : decode cX12_readRead 11 = .ok (.aload_n 0, 1) := by decide +kernel
theorem dX12_readRead_12 : decode cX12_readRead 12 = .ok (.aload_n 0, 1) := by decide +kernel
theorem dX12_readRead_13 : decode cX12_readRead 13 = .ok (.invokevirtual 195, 3) := by decide +kernel
theorem dX12_readRead_16 : decode cX12_readRead 16 = .ok (.iconst 0, 1) := by decide +kernel
theorem dX12_readRead_17 : decode cX12_readRead 17 = .ok (.bipush 16, 2) := by decide +kernel
theorem dX12_readRead_19 : decode cX12_readRead 19 = .ok (.invokevirtual 263, 3) := by decide +kernel
theorem dX12_readRead_22 : decode cX12_readRead 22 = .ok (.istore_n 2, 1) := by decide +kernel
theorem dX12_readRead_23 : decode cX12_readRead 23 = .ok (.aload_n 0, 1) := by decide +kernel
theorem dX12_readRead_24 : decode cX12_readRead 24 = .ok (.getfield 211, 3) := by decide +kernel
theorem dX12_readRead_27 : decode cX12_readRead 27 = .ok (.ifCond .ne 14, 3) := by decide +kernel
theorem dX12_readRead_30 : decode cX12_readRead 30 = .ok (.aload_n 0, 1) := by decide +kernel
theorem dX12_readRead_31 : decode cX12_readRead 31 = .ok (.getfield 35, 3) := by decide +kernel
theorem dX12_readRead_34 : decode cX12_readRead 34 = .ok (.sipush 1621, 3) := by decide +kernel
theorem dX12_readRead_37 : decode cX12_readRead 37 = .ok (.iload_n 1, 1) := by decide +kernel
theorem dX12_readRead_38 : decode cX12_readRead 38 = .ok (.iadd, 1) := by decide +kernel
theorem dX12_readRead_39 : decode cX12_readRead 39 = .ok (.iload_n 2, 1) := by decide +kernel
theorem dX12_readRead_40 : decode cX12_readRead 40 = .ok (.iastore, 1) := by decide +kernel
theorem dX12_readRead_41 : decode cX12_readRead 41 = .ok (.return_, 1) := by decide +kernel
theorem dX12_book_0 : decode cX12_book 0 = .ok (.aload_n 0, 1) := by decide +kernel
theorem dX12_book_1 : decode cX12_book 1 = .ok (.iconst 0, 1) := by decide +kernel
theorem dX12_book_2 : decode cX12_book 2 = .ok (.putfield 71, 3) := by decide +kernel
theorem dX12_book_5 : decode cX12_book 5 = .ok (.aload_n 0, 1) := by decide +kernel
theorem dX12_book_6 : decode cX12_book 6 = .ok (.iconst 0, 1) := by decide +kernel
theorem dX12_book_7 : decode cX12_book 7 = .ok (.putfield 74, 3) := by decide +kernel
theorem dX12_book_10 : decode cX12_book 10 = .ok (.aload_n 0, 1) := by decide +kernel
theorem dX12_book_11 : decode cX12_book 11 = .ok (.iload_n 1, 1) := by decide +kernel
theorem dX12_book_12 : decode cX12_book 12 = .ok (.sipush 900, 3) := by decide +kernel
theorem dX12_book_15 : decode cX12_book 15 = .ok (.invokevirtual 274, 3) := by decide +kernel
theorem dX12_book_18 : decode cX12_book 18 = .ok (.ifCond .ne 5, 3) := by decide +kernel
theorem dX12_book_21 : decode cX12_book 21 = .ok (.iconst (-1), 1) := by decide +kernel
theorem dX12_book_22 : decode cX12_book 22 = .ok (.ireturn, 1) := by decide +kernel
theorem dX12_book_23 : decode cX12_book 23 = .ok (.iconst 0, 1) := by decide +kernel
theorem dX12_book_24 : decode cX12_book 24 = .ok (.istore_n 2, 1) := by decide +kernel
theorem dX12_book_25 : decode cX12_book 25 = .ok (.iload_n 2, 1) := by decide +kernel
theorem dX12_book_26 : decode cX12_book 26 = .ok (.sipush 390, 3) := by decide +kernel
theorem dX12_book_29 : decode cX12_book 29 = .ok (.if_icmp .ge 20, 3) := by decide +kernel
theorem dX12_book_32 : decode cX12_book 32 = .ok (.aload_n 0, 1) := by decide +kernel
theorem dX12_book_33 : decode cX12_book 33 = .ok (.getfield 35, 3) := by decide +kernel
theorem dX12_book_36 : decode cX12_book 36 = .ok (.sipush 1560, 3) := by decide +kernel
theorem dX12_book_39 : decode cX12_book 39 = .ok (.iload_n 2, 1) := by decide +kernel
theorem dX12_book_40 : decode cX12_book 40 = .ok (.iadd, 1) := by decide +kernel
theorem dX12_book_41 : decode cX12_book 41 = .ok (.iconst 0, 1) := by decide +kernel
theorem dX12_book_42 : decode cX12_book 42 = .ok (.iastore, 1) := by decide +kernel
theorem dX12_book_43 : decode cX12_book 43 = .ok (.iinc 2 1, 3) := by decide +kernel
theorem dX12_book_46 : decode cX12_book 46 = .ok (.goto (-21), 3) := by decide +kernel
theorem dX12_book_49 : decode cX12_book 49 = .ok (.aload_n 0, 1) := by decide +kernel
theorem dX12_book_50 : decode cX12_book 50 = .ok (.iconst 0, 1) := by decide +kernel
theorem dX12_book_51 : decode cX12_book 51 = .ok (.putfield 270, 3) := by decide +kernel
theorem dX12_book_54 : decode cX12_book 54 = .ok (.aload_n 0, 1) := by decide +kernel
theorem dX12_book_55 : decode cX12_book 55 = .ok (.getfield 211, 3) := by decide +kernel
theorem dX12_book_58 : decode cX12_book 58 = .ok (.ifCond .ne 111, 3) := by decide +kernel
theorem dX12_book_61 : decode cX12_book 61 = .ok (.aload_n 0, 1) := by decide +kernel
theorem dX12_book_62 : decode cX12_book 62 = .ok (.getfield 126, 3) := by decide +kernel
theorem dX12_book_65 : decode cX12_book 65 = .ok (.ifCond .eq 104, 3) := by decide +kernel
theorem dX12_book_68 : decode cX12_book 68 = .ok (.aload_n 0, 1) := by decide +kernel
theorem dX12_book_69 : decode cX12_book 69 = .ok (.invokevirtual 165, 3) := by decide +kernel
theorem dX12_book_72 : decode cX12_book 72 = .ok (.ifCond .eq 10, 3) := by decide +kernel
theorem dX12_book_75 : decode cX12_book 75 = .ok (.aload_n 0, 1) := by decide +kernel
theorem dX12_book_76 : decode cX12_book 76 = .ok (.invokevirtual 277, 3) := by decide +kernel
theorem dX12_book_79 : decode cX12_book 79 = .ok (.goto 77, 3) := by decide +kernel
theorem dX12_book_82 : decode cX12_book 82 = .ok (.aload_n 0, 1) := by decide +kernel
theorem dX12_book_83 : decode cX12_book 83 = .ok (.invokevirtual 177, 3) := by decide +kernel
theorem dX12_book_86 : decode cX12_book 86 = .ok (.ifCond .eq 10, 3) := by decide +kernel
theorem dX12_book_89 : decode cX12_book 89 = .ok (.aload_n 0, 1) := by decide +kernel
theorem dX12_book_90 : decode cX12_book 90 = .ok (.invokevirtual 280, 3) := by decide +kernel
theorem dX12_book_93 : decode cX12_book 93 = .ok (.goto 63, 3) := by decide +kernel
theorem dX12_book_96 : decode cX12_book 96 = .ok (.aload_n 0, 1) := by decide +kernel
theorem dX12_book_97 : decode cX12_book 97 = .ok (.invokevirtual 183, 3) := by decide +kernel
theorem dX12_book_100 : decode cX12_book 100 = .ok (.ifCond .eq 10, 3) := by decide +kernel
theorem dX12_book_103 : decode cX12_book 103 = .ok (.aload_n 0, 1) := by decide +kernel
theorem dX12_book_104 : decode cX12_book 104 = .ok (.invokevirtual 283, 3) := by decide +kernel
theorem dX12_book_107 : decode cX12_book 107 = .ok (.goto 49, 3) := by decide +kernel
theorem dX12_book_110 : decode cX12_book 110 = .ok (.aload_n 0, 1) := by decide +kernel
theorem dX12_book_111 : decode cX12_book 111 = .ok (.invokevirtual 161, 3) := by decide +kernel
theorem dX12_book_114 : decode cX12_book 114 = .ok (.ifCond .eq 10, 3) := by decide +kernel
theorem dX12_book_117 : decode cX12_book 117 = .ok (.aload_n 0, 1) := by decide +kernel
theorem dX12_book_118 : decode cX12_book 118 = .ok (.invokevirtual 286, 3) := by decide +kernel
theorem dX12_book_121 : decode cX12_book 121 = .ok (.goto 35, 3) := by decide +kernel
theorem dX12_book_124 : decode cX12_book 124 = .ok (.aload_n 0, 1) := by decide +kernel
theorem dX12_book_125 : decode cX12_book 125 = .ok (.invokevirtual 189, 3) := by decide +kernel
theorem dX12_book_128 : decode cX12_book 128 = .ok (.ifCond .eq 10, 3) := by decide +kernel
theorem dX12_book_131 : decode cX12_book 131 = .ok (.aload_n 0, 1) := by decide +kernel
theorem dX12_book_132 : decode cX12_book 132 = .ok (.invokevirtual 289, 3) := by decide +kernel
theorem dX12_book_135 : decode cX12_book 135 = .ok (.goto 21, 3) := by decide +kernel
theorem dX12_book_138 : decode cX12_book 138 = .ok (.aload_n 0, 1) := by decide +kernel
theorem dX12_book_139 : decode cX12_book 139 = .ok (.invokevirtual 192, 3) := by decide +kernel
theorem dX12_book_142 : decode cX12_book 142 = .ok (.ifCond .eq 10, 3) := by decide +kernel
theorem dX12_book_145 : decode cX12_book 145 = .ok (.aload_n 0, 1) := by decide +kernel
theorem dX12_book_146 : decode cX12_book 146 = .ok (.invokevirtual 292, 3) := by decide +kernel
theorem dX12_book_149 : decode cX12_book 149 = .ok (.goto 7, 3) := by decide +kernel
theorem dX12_book_152 : decode cX12_book 152 = .ok (.aload_n 0, 1) := by decide +kernel
theorem dX12_book_153 : decode cX12_book 153 = .ok (.invokevirtual 224, 3) := by decide +kernel
theorem dX12_book_156 : decode cX12_book 156 = .ok (.aload_n 0, 1) := by decide +kernel
theorem dX12_book_157 : decode cX12_book 157 = .ok (.aload_n 0, 1) := by decide +kernel
theorem dX12_book_158 : decode cX12_book 158 = .ok (.bipush 59, 2) := by decide +kernel
theorem dX12_book_160 : decode cX12_book 160 = .ok (.invokevirtual 295, 3) := by decide +kernel
theorem dX12_book_163 : decode cX12_book 163 = .ok (.invokevirtual 227, 3) := by decide +kernel
theorem dX12_book_166 : decode cX12_book 166 = .ok (.goto (-112), 3) := by decide +kernel
theorem dX12_book_169 : decode cX12_book 169 = .ok (.aload_n 0, 1) := by decide +kernel
theorem dX12_book_170 : decode cX12_book 170 = .ok (.invokevirtual 298, 3) := by decide +kernel
theorem dX12_book_173 : decode cX12_book 173 = .ok (.ifCond .ne 5, 3) := by decide +kernel
theorem dX12_book_176 : decode cX12_book 176 = .ok (.iconst (-1), 1) := by decide +kernel
theorem dX12_book_177 : decode cX12_book 177 = .ok (.ireturn, 1) := by decide +kernel
theorem dX12_book_178 : decode cX12_book 178 = .ok (.iconst 0, 1) := by decide +kernel
theorem dX12_book_179 : decode cX12_book 179 = .ok (.istore_n 2, 1) := by decide +kernel
theorem dX12_book_180 : decode cX12_book 180 = .ok (.iload_n 2, 1) := by decide +kernel
theorem dX12_book_181 : decode cX12_book 181 = .ok (.aload_n 0, 1) := by decide +kernel
theorem dX12_book_182 : decode cX12_book 182 = .ok (.getfield 35, 3) := by decide +kernel
theorem dX12_book_185 : decode cX12_book 185 = .ok (.sipush 1560, 3) := by decide +kernel
theorem dX12_book_188 : decode cX12_book 188 = .ok (.iaload, 1) := by decide +kernel
theorem dX12_book_189 : decode cX12_book 189 = .ok (.if_icmp .ge 27, 3) := by decide +kernel
theorem dX12_book_192 : decode cX12_book 192 = .ok (.aload_n 0, 1) := by decide +kernel
theorem dX12_book_193 : decode cX12_book 193 = .ok (.getfield 270, 3) := by decide +kernel
theorem dX12_book_196 : decode cX12_book 196 = .ok (.ifCond .ne 20, 3) := by decide +kernel
theorem dX12_book_199 : decode cX12_book 199 = .ok (.aload_n 0, 1) := by decide +kernel
theorem dX12_book_200 : decode cX12_book 200 = .ok (.getfield 35, 3) := by decide +kernel
theorem dX12_book_203 : decode cX12_book 203 = .ok (.sipush 1627, 3) := by decide +kernel
theorem dX12_book_206 : decode cX12_book 206 = .ok (.iload_n 2, 1) := by decide +kernel
theorem dX12_book_207 : decode cX12_book 207 = .ok (.iadd, 1) := by decide +kernel
theorem dX12_book_208 : decode cX12_book 208 = .ok (.iload_n 2, 1) := by decide +kernel
theorem dX12_book_209 : decode cX12_book 209 = .ok (.iastore, 1) := by decide +kernel
theorem dX12_book_210 : decode cX12_book 210 = .ok (.iinc 2 1, 3) := by decide +kernel
theorem dX12_book_213 : decode cX12_book 213 = .ok (.goto (-33), 3) := by decide +kernel
theorem dX12_book_216 : decode cX12_book 216 = .ok (.aload_n 0, 1) := by decide +kernel
theorem dX12_book_217 : decode cX12_book 217 = .ok (.getfield 270, 3) := by decide +kernel
theorem dX12_book_220 : decode cX12_book 220 = .ok (.ifCond .ne 19, 3) := by decide +kernel
theorem dX12_book_223 : decode cX12_book 223 = .ok (.aload_n 0, 1) := by decide +kernel
theorem dX12_book_224 : decode cX12_book 224 = .ok (.getfield 35, 3) := by decide +kernel
theorem dX12_book_227 : decode cX12_book 227 = .ok (.sipush 1563, 3) := by decide +kernel
theorem dX12_book_230 : decode cX12_book 230 = .ok (.aload_n 0, 1) := by decide +kernel
theorem dX12_book_231 : decode cX12_book 231 = .ok (.getfield 35, 3) := by decide +kernel
theorem dX12_book_234 : decode cX12_book 234 = .ok (.sipush 1560, 3) := by decide +kernel
theorem dX12_book_237 : decode cX12_book 237 = .ok (.iaload, 1) := by decide +kernel
theorem dX12_book_238 : decode cX12_book 238 = .ok (.iastore, 1) := by decide +kernel
theorem dX12_book_239 : decode cX12_book 239 = .ok (.aload_n 0, 1) := by decide +kernel
theorem dX12_book_240 : decode cX12_book 240 = .ok (.iconst 4, 1) := by decide +kernel
theorem dX12_book_241 : decode cX12_book 241 = .ok (.iconst 0, 1) := by decide +kernel
theorem dX12_book_242 : decode cX12_book 242 = .ok (.invokevirtual 301, 3) := by decide +kernel
theorem dX12_book_245 : decode cX12_book 245 = .ok (.aload_n 0, 1) := by decide +kernel
theorem dX12_book_246 : decode cX12_book 246 = .ok (.getfield 35, 3) := by decide +kernel
theorem dX12_book_249 : decode cX12_book 249 = .ok (.iconst 0, 1) := by decide +kernel
theorem dX12_book_250 : decode cX12_book 250 = .ok (.iaload, 1) := by decide +kernel
theorem dX12_book_251 : decode cX12_book 251 = .ok (.ireturn, 1) := by decide +kernel
theorem dX12_readTest_0 : decode cX12_readTest 0 = .ok (.aload_n 0, 1) := by decide +kernel
theorem dX12_readTest_1 : decode cX12_readTest 1 = .ok (.invokevirtual 202, 3) := by decide +kernel
theorem dX12_readTest_4 : decode cX12_readTest 4 = .ok (.istore_n 2, 1) := by decide +kernel
theorem dX12_readTest_5 : decode cX12_readTest 5 = .ok (.aload_n 0, 1) := by decide +kernel
theorem dX12_readTest_6 : decode cX12_readTest 6 = .ok (.iload_n 2, 1) := by decide +kernel
theorem dX12_readTest_7 : decode cX12_readTest 7 = .ok (.ifCond .lt 7, 3) := by decide +kernel
theorem dX12_readTest_10 : decode cX12_readTest 10 = .ok (.iconst 1, 1) := by decide +kernel
theorem dX12_readTest_11 : decode cX12_readTest 11 = .ok (.goto 4, 3) := by decide +kernel
theorem dX12_readTest_14 : decode cX12_readTest 14 = .ok (.iconst 0, 1) := by decide +kernel
theorem dX12_readTest_15 : decode cX12_readTest 15 = .ok (.invokevirtual 227, 3) := by decide +kernel
theorem dX12_readTest_18 : decode cX12_readTest 18 = .ok (.aload_n 0, 1) := by decide +kernel
theorem dX12_readTest_19 : decode cX12_readTest 19 = .ok (.getfield 35, 3) := by decide +kernel
theorem dX12_readTest_22 : decode cX12_readTest 22 = .ok (.iload_n 1, 1) := by decide +kernel
theorem dX12_readTest_23 : decode cX12_readTest 23 = .ok (.bipush 6, 2) := by decide +kernel
theorem dX12_readTest_25 : decode cX12_readTest 25 = .ok (.iadd, 1) := by decide +kernel
theorem dX12_readTest_26 : decode cX12_readTest 26 = .ok (.iload_n 2, 1) := by decide +kernel
theorem dX12_readTest_27 : decode cX12_readTest 27 = .ok (.iastore, 1) := by decide +kernel
theorem dX12_readTest_28 : decode cX12_readTest 28 = .ok (.aload_n 0, 1) := by decide +kernel
theorem dX12_readTest_29 : decode cX12_readTest 29 = .ok (.getfield 35, 3) := by decide +kernel
theorem dX12_readTest_32 : decode cX12_readTest 32 = .ok (.iload_n 1, 1) := by decide +kernel
theorem dX12_readTest_33 : decode cX12_readTest 33 = .ok (.iconst 1, 1) := by decide +kernel
theorem dX12_readTest_34 : decode cX12_readTest 34 = .ok (.iadd, 1) := by decide +kernel
theorem dX12_readTest_35 : decode cX12_readTest 35 = .ok (.aload_n 0, 1) := by decide +kernel
theorem dX12_readTest_36 : decode cX12_readTest 36 = .ok (.iconst 0, 1) := by decide +kernel
theorem dX12_readTest_37 : decode cX12_readTest 37 = .ok (.iload_n 2, 1) := by decide +kernel
theorem dX12_readTest_38 : decode cX12_readTest 38 = .ok (.ifCond .ne 7, 3) := by decide +kernel
theorem dX12_readTest_41 : decode cX12_readTest 41 = .ok (.iconst 0, 1) := by decide +kernel
theorem dX12_readTest_42 : decode cX12_readTest 42 = .ok (.goto 13, 3) := by decide +kernel
theorem dX12_readTest_45 : decode cX12_readTest 45 = .ok (.iload_n 2, 1) := by decide +kernel
theorem dX12_readTest_46 : decode cX12_readTest 46 = .ok (.iconst 1, 1) := by decide +kernel
theorem dX12_readTest_47 : decode cX12_readTest 47 = .ok (.if_icmp .ne 7, 3) := by decide +kernel
theorem dX12_readTest_50 : decode cX12_readTest 50 = .ok (.iconst 2, 1) := by decide +kernel
theorem dX12_readTest_51 : decode cX12_readTest 51 = .ok (.goto 4, 3) := by decide +kernel
theorem dX12_readTest_54 : decode cX12_readTest 54 = .ok (.iconst 1, 1) := by decide +kernel
theorem dX12_readTest_55 : decode cX12_readTest 55 = .ok (.invokevirtual 267, 3) := by decide +kernel
theorem dX12_readTest_58 : decode cX12_readTest 58 = .ok (.iastore, 1) := by decide +kernel
theorem dX12_readTest_59 : decode cX12_readTest 59 = .ok (.iload_n 2, 1) := by decide +kernel
theorem dX12_readTest_60 : decode cX12_readTest 60 = .ok (.ifCond .ne 17, 3) := by decide +kernel
theorem dX12_readTest_63 : decode cX12_readTest 63 = .ok (.aload_n 0, 1) := by decide +kernel
theorem dX12_readTest_64 : decode cX12_readTest 64 = .ok (.getfield 35, 3) := by decide +kernel
theorem dX12_readTest_67 : decode cX12_readTest 67 = .ok (.iload_n 1, 1) := by decide +kernel
theorem dX12_readTest_68 : decode cX12_readTest 68 = .ok (.iconst 2, 1) := by decide +kernel
theorem dX12_readTest_69 : decode cX12_readTest 69 = .ok (.iadd, 1) := by decide +kernel
theorem dX12_readTest_70 : decode cX12_readTest 70 = .ok (.aload_n 0, 1) := by decide +kernel
theorem dX12_readTest_71 : decode cX12_readTest 71 = .ok (.iconst 0, 1) := by decide +kernel
theorem dX12_readTest_72 : decode cX12_readTest 72 = .ok (.iconst 1, 1) := by decide +kernel
theorem dX12_readTest_73 : decode cX12_readTest 73 = .ok (.invokevirtual 267, 3) := by decide +kernel
theorem dX12_readTest_76 : decode cX12_readTest 76 = .ok (.iastore, 1) := by decide +kernel
theorem dX12_readTest_77 : decode cX12_readTest 77 = .ok (.return_, 1) := by decide +kernel
theorem dX12_readRest_0 : decode cX12_readRest 0 = .ok (.aload_n 0, 1) := by decide +kernel
theorem dX12_readRest_1 : decode cX12_readRest 1 = .ok (.getfield 35, 3) := by decide +kernel
theorem dX12_readRest_4 : decode cX12_readRest 4 = .ok (.iload_n 1, 1) := by decide +kernel
theorem dX12_readRest_5 : decode cX12_readRest 5 = .ok (.iaload, 1) := by decide +kernel
theorem dX12_readRest_6 : decode cX12_readRest 6 = .ok (.istore_n 2, 1) := by decide +kernel
theorem dX12_readRest_7 : decode cX12_readRest 7 = .ok (.iload_n 2, 1) := by decide +kernel
theorem dX12_readRest_8 : decode cX12_readRest 8 = .ok (.ifCond .eq 9, 3) := by decide +kernel
theorem dX12_readRest_11 : decode cX12_readRest 11 = .ok (.iload_n 2, 1) := by decide +kernel
theorem dX12_readRest_12 : decode cX12_readRest 12 = .ok (.bipush 7, 2) := by decide +kernel
theorem dX12_readRest_14 : decode cX12_readRest 14 = .ok (.if_icmp .ne 21, 3) := by decide +kernel
theorem dX12_readRest_17 : decode cX12_readRest 17 = .ok (.aload_n 0, 1) := by decide +kernel
theorem dX12_readRest_18 : decode cX12_readRest 18 = .ok (.getfield 35, 3) := by decide +kernel
theorem dX12_readRest_21 : decode cX12_readRest 21 = .ok (.iload_n 1, 1) := by decide +kernel
theorem dX12_readRest_22 : decode cX12_readRest 22 = .ok (.iconst 1, 1) := by decide +kernel
theorem dX12_readRest_23 : decode cX12_readRest 23 = .ok (.iadd, 1) := by decide +kernel
theorem dX12_readRest_24 : decode cX12_readRest 24 = .ok (.aload_n 0, 1) := by decide +kernel
theorem dX12_readRest_25 : decode cX12_readRest 25 = .ok (.iconst 1, 1) := by decide +kernel
theorem dX12_readRest_26 : decode cX12_readRest 26 = .ok (.bipush 99, 2) := by decide +kernel
theorem dX12_readRest_28 : decode cX12_readRest 28 = .ok (.invokevirtual 231, 3) := by decide +kernel
theorem dX12_readRest_31 : decode cX12_readRest 31 = .ok (.iastore, 1) := by decide +kernel
theorem dX12_readRest_32 : decode cX12_readRest 32 = .ok (.goto 87, 3) := by decide +kernel
theorem dX12_readRest_35 : decode cX12_readRest 35 = .ok (.iload_n 2, 1) := by decide +kernel
theorem dX12_readRest_36 : decode cX12_readRest 36 = .ok (.bipush 6, 2) := by decide +kernel
theorem dX12_readRest_38 : decode cX12_readRest 38 = .ok (.if_icmp .ne 11, 3) := by decide +kernel
theorem dX12_readRest_41 : decode cX12_readRest 41 = .ok (.aload_n 0, 1) := by decide +kernel
theorem dX12_readRest_42 : decode cX12_readRest 42 = .ok (.iload_n 1, 1) := by decide +kernel
theorem dX12_readRest_43 : decode cX12_readRest 43 = .ok (.invokevirtual 304, 3) := by decide +kernel
theorem dX12_readRest_46 : decode cX12_readRest 46 = .ok (.goto 73, 3) := by decide +kernel
theorem dX12_readRest_49 : decode cX12_readRest 49 = .ok (.iload_n 2, 1) := by decide +kernel
theorem dX12_readRest_50 : decode cX12_readRest 50 = .ok (.iconst 1, 1) := by decide +kernel
theorem dX12_readRest_51 : decode cX12_readRest 51 = .ok (.if_icmp .eq 8, 3) := by decide +kernel
theorem dX12_readRest_54 : decode cX12_readRest 54 = .ok (.iload_n 2, 1) := by decide +kernel
theorem dX12_readRest_55 : decode cX12_readRest 55 = .ok (.iconst 2, 1) := by decide +kernel
theorem dX12_readRest_56 : decode cX12_readRest 56 = .ok (.if_icmp .ne 39, 3) := by decide +kernel
theorem dX12_readRest_59 : decode cX12_readRest 59 = .ok (.aload_n 0, 1) := by decide +kernel
theorem dX12_readRest_60 : decode cX12_readRest 60 = .ok (.getfield 35, 3) := by decide +kernel
theorem dX12_readRest_63 : decode cX12_readRest 63 = .ok (.iload_n 1, 1) := by decide +kernel
theorem dX12_readRest_64 : decode cX12_readRest 64 = .ok (.iconst 1, 1) := by decide +kernel
theorem dX12_readRest_65 : decode cX12_readRest 65 = .ok (.iadd, 1) := by decide +kernel
theorem dX12_readRest_66 : decode cX12_readRest 66 = .ok (.aload_n 0, 1) := by decide +kernel
theorem dX12_readRest_67 : decode cX12_readRest 67 = .ok (.iconst 0, 1) := by decide +kernel
theorem dX12_readRest_68 : decode cX12_readRest 68 = .ok (.iconst 0, 1) := by decide +kernel
theorem dX12_readRest_69 : decode cX12_readRest 69 = .ok (.invokevirtual 267, 3) := by decide +kernel
theorem dX12_readRest_72 : decode cX12_readRest 72 = .ok (.iastore, 1) := by decide +kernel
theorem dX12_readRest_73 : decode cX12_readRest 73 = .ok (.iload_n 2, 1) := by decide +kernel
theorem dX12_readRest_74 : decode cX12_readRest 74 = .ok (.iconst 2, 1) := by decide +kernel
theorem dX12_readRest_75 : decode cX12_readRest 75 = .ok (.if_icmp .ne 44, 3) := by decide +kernel
theorem dX12_readRest_78 : decode cX12_readRest 78 = .ok (.aload_n 0, 1) := by decide +kernel
theorem dX12_readRest_79 : decode cX12_readRest 79 = .ok (.getfield 35, 3) := by decide +kernel
theorem dX12_readRest_82 : decode cX12_readRest 82 = .ok (.iload_n 1, 1) := by decide +kernel
theorem dX12_readRest_83 : decode cX12_readRest 83 = .ok (.iconst 2, 1) := by decide +kernel
theorem dX12_readRest_84 : decode cX12_readRest 84 = .ok (.iadd, 1) := by decide +kernel
theorem dX12_readRest_85 : decode cX12_readRest 85 = .ok (.aload_n 0, 1) := by decide +kernel
theorem dX12_readRest_86 : decode cX12_readRest 86 = .ok (.iconst 0, 1) := by decide +kernel
theorem dX12_readRest_87 : decode cX12_readRest 87 = .ok (.iconst 0, 1) := by decide +kernel
theorem dX12_readRest_88 : decode cX12_readRest 88 = .ok (.invokevirtual 267, 3) := by decide +kernel
theorem dX12_readRest_91 : decode cX12_readRest 91 = .ok (.iastore, 1) := by decide +kernel
theorem dX12_readRest_92 : decode cX12_readRest 92 = .ok (.goto 27, 3) := by decide +kernel
theorem dX12_readRest_95 : decode cX12_readRest 95 = .ok (.iload_n 2, 1) := by decide +kernel
theorem dX12_readRest_96 : decode cX12_readRest 96 = .ok (.iconst 3, 1) := by decide +kernel
theorem dX12_readRest_97 : decode cX12_readRest 97 = .ok (.if_icmp .eq 8, 3) := by decide +kernel
theorem dX12_readRest_100 : decode cX12_readRest 100 = .ok (.iload_n 2, 1) := by decide +kernel
theorem dX12_readRest_101 : decode cX12_readRest 101 = .ok (.iconst 4, 1) := by decide +kernel
theorem dX12_readRest_102 : decode cX12_readRest 102 = .ok (.if_icmp .ne 17, 3) := by decide +kernel
theorem dX12_readRest_105 : decode cX12_readRest 105 = .ok (.aload_n 0, 1) := by decide +kernel
theorem dX12_readRest_106 : decode cX12_readRest 106 = .ok (.getfield 35, 3) := by decide +kernel
theorem dX12_readRest_109 : decode cX12_readRest 109 = .ok (.iload_n 1, 1) := by decide +kernel
theorem dX12_readRest_110 : decode cX12_readRest 110 = .ok (.iconst 1, 1) := by decide +kernel
theorem dX12_readRest_111 : decode cX12_readRest 111 = .ok (.iadd, 1) := by decide +kernel
theorem dX12_readRest_112 : decode cX12_readRest 112 = .ok (.aload_n 0, 1) := by decide +kernel
theorem dX12_readRest_113 : decode cX12_readRest 113 = .ok (.iconst 0, 1) := by decide +kernel
theorem dX12_readRest_114 : decode cX12_readRest 114 = .ok (.iconst 2, 1) := by decide +kernel
theorem dX12_readRest_115 : decode cX12_readRest 115 = .ok (.invokevirtual 267, 3) := by decide +kernel
theorem dX12_readRest_118 : decode cX12_readRest 118 = .ok (.iastore, 1) := by decide +kernel
theorem dX12_readRest_119 : decode cX12_readRest 119 = .ok (.return_, 1) := by decide +kernel
theorem dX12_readStep_0 : decode cX12_readStep 0 = .ok (.aload_n 0, 1) := by decide +kernel
theorem dX12_readStep_1 : decode cX12_readStep 1 = .ok (.invokevirtual 198, 3) := by decide +kernel
theorem dX12_readStep_4 : decode cX12_readStep 4 = .ok (.istore_n 2, 1) := by decide +kernel
theorem dX12_readStep_5 : decode cX12_readStep 5 = .ok (.iload_n 2, 1) := by decide +kernel
theorem dX12_readStep_6 : decode cX12_readStep 6 = .ok (.bipush 6, 2) := by decide +kernel
theorem dX12_readStep_8 : decode cX12_readStep 8 = .ok (.if_icmp .eq 9, 3) := by decide +kernel
theorem dX12_readStep_11 : decode cX12_readStep 11 = .ok (.iload_n 2, 1) := by decide +kernel
theorem dX12_readStep_12 : decode cX12_readStep 12 = .ok (.bipush 7, 2) := by decide +kernel
theorem dX12_readStep_14 : decode cX12_readStep 14 = .ok (.if_icmp .ne 7, 3) := by decide +kernel
theorem dX12_readStep_17 : decode cX12_readStep 17 = .ok (.iconst 1, 1) := by decide +kernel
theorem dX12_readStep_18 : decode cX12_readStep 18 = .ok (.goto 4, 3) := by decide +kernel
theorem dX12_readStep_21 : decode cX12_readStep 21 = .ok (.iconst 0, 1) := by decide +kernel
theorem dX12_readStep_22 : decode cX12_readStep 22 = .ok (.istore_n 3, 1) := by decide +kernel
theorem dX12_readStep_23 : decode cX12_readStep 23 = .ok (.iload_n 2, 1) := by decide +kernel
theorem dX12_readStep_24 : decode cX12_readStep 24 = .ok (.ifCond .ge 7, 3) := by decide +kernel
theorem dX12_readStep_27 : decode cX12_readStep 27 = .ok (.aload_n 0, 1) := by decide +kernel
theorem dX12_readStep_28 : decode cX12_readStep 28 = .ok (.invokevirtual 224, 3) := by decide +kernel
theorem dX12_readStep_31 : decode cX12_readStep 31 = .ok (.aload_n 0, 1) := by decide +kernel
theorem dX12_readStep_32 : decode cX12_readStep 32 = .ok (.getfield 211, 3) := by decide +kernel
theorem dX12_readStep_35 : decode cX12_readStep 35 = .ok (.ifCond .ne 22, 3) := by decide +kernel
theorem dX12_readStep_38 : decode cX12_readStep 38 = .ok (.aload_n 0, 1) := by decide +kernel
theorem dX12_readStep_39 : decode cX12_readStep 39 = .ok (.getfield 307, 3) := by decide +kernel
theorem dX12_readStep_42 : decode cX12_readStep 42 = .ok (.bipush 30, 2) := by decide +kernel
theorem dX12_readStep_44 : decode cX12_readStep 44 = .ok (.if_icmp .ne 13, 3) := by decide +kernel
theorem dX12_readStep_47 : decode cX12_readStep 47 = .ok (.aload_n 0, 1) := by decide +kernel
theorem dX12_readStep_48 : decode cX12_readStep 48 = .ok (.bipush 6, 2) := by decide +kernel
theorem dX12_readStep_50 : decode cX12_readStep 50 = .ok (.aload_n 0, 1) := by decide +kernel
theorem dX12_readStep_51 : decode cX12_readStep 51 = .ok (.getfield 120, 3) := by decide +kernel
theorem dX12_readStep_54 : decode cX12_readStep 54 = .ok (.invokevirtual 217, 3) := by decide +kernel
theorem dX12_readStep_57 : decode cX12_readStep 57 = .ok (.aload_n 0, 1) := by decide +kernel
theorem dX12_readStep_58 : decode cX12_readStep 58 = .ok (.getfield 211, 3) := by decide +kernel
theorem dX12_readStep_61 : decode cX12_readStep 61 = .ok (.ifCond .ne 22, 3) := by decide +kernel
theorem dX12_readStep_64 : decode cX12_readStep 64 = .ok (.iload_n 3, 1) := by decide +kernel
theorem dX12_readStep_65 : decode cX12_readStep 65 = .ok (.ifCond .eq 18, 3) := by decide +kernel
theorem dX12_readStep_68 : decode cX12_readStep 68 = .ok (.iload_n 1, 1) := by decide +kernel
theorem dX12_readStep_69 : decode cX12_readStep 69 = .ok (.iconst 3, 1) := by decide +kernel
theorem dX12_readStep_70 : decode cX12_readStep 70 = .ok (.if_icmp .ne 13, 3) := by decide +kernel
theorem dX12_readStep_73 : decode cX12_readStep 73 = .ok (.aload_n 0, 1) := by decide +kernel
theorem dX12_readStep_74 : decode cX12_readStep 74 = .ok (.bipush 7, 2) := by decide +kernel
theorem dX12_readStep_76 : decode cX12_readStep 76 = .ok (.aload_n 0, 1) := by decide +kernel
theorem dX12_readStep_77 : decode cX12_readStep 77 = .ok (.getfield 120, 3) := by decide +kernel
theorem dX12_readStep_80 : decode cX12_readStep 80 = .ok (.invokevirtual 217, 3) := by decide +kernel
theorem dX12_readStep_83 : decode cX12_readStep 83 = .ok (.aload_n 0, 1) := by decide +kernel
theorem dX12_readStep_84 : decode cX12_readStep 84 = .ok (.getfield 211, 3) := by decide +kernel
theorem dX12_readStep_87 : decode cX12_readStep 87 = .ok (.ifCond .le 4, 3) := by decide +kernel
theorem dX12_readStep_90 : decode cX12_readStep 90 = .ok (.return_, 1) := by decide +kernel
theorem dX12_readStep_91 : decode cX12_readStep 91 = .ok (.sipush 1673, 3) := by decide +kernel
theorem dX12_readStep_94 : decode cX12_readStep 94 = .ok (.bipush 9, 2) := by decide +kernel
theorem dX12_readStep_96 : decode cX12_readStep 96 = .ok (.aload_n 0, 1) := by decide +kernel
theorem dX12_readStep_97 : decode cX12_readStep 97 = .ok (.getfield 307, 3) := by decide +kernel
theorem dX12_readStep_100 : decode cX12_readStep 100 = .ok (.imul, 1) := by decide +kernel
theorem dX12_readStep_101 : decode cX12_readStep 101 = .ok (.iadd, 1) := by decide +kernel
theorem dX12_readStep_102 : decode cX12_readStep 102 = .ok (.istore 4, 2) := by decide +kernel
theorem dX12_readStep_104 : decode cX12_readStep 104 = .ok (.aload_n 0, 1) := by decide +kernel
theorem dX12_readStep_105 : decode cX12_readStep 105 = .ok (.dup, 1) := by decide +kernel
theorem dX12_readStep_106 : decode cX12_readStep 106 = .ok (.getfield 307, 3) := by decide +kernel
theorem dX12_readStep_109 : decode cX12_readStep 109 = .ok (.iconst 1, 1) := by decide +kernel
theorem dX12_readStep_110 : decode cX12_readStep 110 = .ok (.iadd, 1) := by decide +kernel
theorem dX12_readStep_111 : decode cX12_readStep 111 = .ok (.putfield 307, 3) := by decide +kernel
theorem dX12_readStep_114 : decode cX12_readStep 114 = .ok (.aload_n 0, 1) := by decide +kernel
theorem dX12_readStep_115 : decode cX12_readStep 115 = .ok (.invokevirtual 221, 3) := by decide +kernel
theorem dX12_readStep_118 : decode cX12_readStep 118 = .ok (.aload_n 0, 1) := by decide +kernel
theorem dX12_readStep_119 : decode cX12_readStep 119 = .ok (.getfield 35, 3) := by decide +kernel
theorem dX12_readStep_122 : decode cX12_readStep 122 = .ok (.iload 4, 2) := by decide +kernel
theorem dX12_readStep_124 : decode cX12_readStep 124 = .ok (.iload_n 2, 1) := by decide +kernel
theorem dX12_readStep_125 : decode cX12_readStep 125 = .ok (.iastore, 1) := by decide +kernel
theorem dX12_readStep_126 : decode cX12_readStep 126 = .ok (.aload_n 0, 1) := by decide +kernel
theorem dX12_readStep_127 : decode cX12_readStep 127 = .ok (.iload 4, 2) := by decide +kernel
theorem dX12_readStep_129 : decode cX12_readStep 129 = .ok (.invokevirtual 310, 3) := by decide +kernel
theorem dX12_readStep_132 : decode cX12_readStep 132 = .ok (.aload_n 0, 1) := by decide +kernel
theorem dX12_readStep_133 : decode cX12_readStep 133 = .ok (.aload_n 0, 1) := by decide +kernel
theorem dX12_readStep_134 : decode cX12_readStep 134 = .ok (.bipush 59, 2) := by decide +kernel
theorem dX12_readStep_136 : decode cX12_readStep 136 = .ok (.invokevirtual 295, 3) := by decide +kernel
theorem dX12_readStep_139 : decode cX12_readStep 139 = .ok (.invokevirtual 227, 3) := by decide +kernel
theorem dX12_readStep_142 : decode cX12_readStep 142 = .ok (.iload_n 3, 1) := by decide +kernel
theorem dX12_readStep_143 : decode cX12_readStep 143 = .ok (.ifCond .eq 27, 3) := by decide +kernel
theorem dX12_readStep_146 : decode cX12_readStep 146 = .ok (.aload_n 0, 1) := by decide +kernel
theorem dX12_readStep_147 : decode cX12_readStep 147 = .ok (.getfield 211, 3) := by decide +kernel
theorem dX12_readStep_150 : decode cX12_readStep 150 = .ok (.ifCond .ne 20, 3) := by decide +kernel
theorem dX12_readStep_153 : decode cX12_readStep 153 = .ok (.aload_n 0, 1) := by decide +kernel
theorem dX12_readStep_154 : decode cX12_readStep 154 = .ok (.invokevirtual 205, 3) := by decide +kernel
theorem dX12_readStep_157 : decode cX12_readStep 157 = .ok (.ifCond .ne 13, 3) := by decide +kernel
theorem dX12_readStep_160 : decode cX12_readStep 160 = .ok (.aload_n 0, 1) := by decide +kernel
theorem dX12_readStep_161 : decode cX12_readStep 161 = .ok (.iload_n 1, 1) := by decide +kernel
theorem dX12_readStep_162 : decode cX12_readStep 162 = .ok (.iconst 1, 1) := by decide +kernel
theorem dX12_readStep_163 : decode cX12_readStep 163 = .ok (.iadd, 1) := by decide +kernel
theorem dX12_readStep_164 : decode cX12_readStep 164 = .ok (.invokevirtual 313, 3) := by decide +kernel
theorem dX12_readStep_167 : decode cX12_readStep 167 = .ok (.goto (-25), 3) := by decide +kernel
theorem dX12_readStep_170 : decode cX12_readStep 170 = .ok (.iload_n 3, 1) := by decide +kernel
theorem dX12_readStep_171 : decode cX12_readStep 171 = .ok (.ifCond .eq 21, 3) := by decide +kernel
theorem dX12_readStep_174 : decode cX12_readStep 174 = .ok (.aload_n 0, 1) := by decide +kernel
theorem dX12_readStep_175 : decode cX12_readStep 175 = .ok (.aload_n 0, 1) := by decide +kernel
theorem dX12_readStep_176 : decode cX12_readStep 176 = .ok (.invokevirtual 205, 3) := by decide +kernel
theorem dX12_readStep_179 : decode cX12_readStep 179 = .ok (.invokevirtual 227, 3) := by decide +kernel
theorem dX12_readStep_182 : decode cX12_readStep 182 = .ok (.aload_n 0, 1) := by decide +kernel
theorem dX12_readStep_183 : decode cX12_readStep 183 = .ok (.aload_n 0, 1) := by decide +kernel
theorem dX12_readStep_184 : decode cX12_readStep 184 = .ok (.bipush 59, 2) := by decide +kernel
theorem dX12_readStep_186 : decode cX12_readStep 186 = .ok (.invokevirtual 295, 3) := by decide +kernel
theorem dX12_readStep_189 : decode cX12_readStep 189 = .ok (.invokevirtual 227, 3) := by decide +kernel
theorem dX12_readStep_192 : decode cX12_readStep 192 = .ok (.aload_n 0, 1) := by decide +kernel
theorem dX12_readStep_193 : decode cX12_readStep 193 = .ok (.getfield 35, 3) := by decide +kernel
theorem dX12_readStep_196 : decode cX12_readStep 196 = .ok (.iload 4, 2) := by decide +kernel
theorem dX12_readStep_198 : decode cX12_readStep 198 = .ok (.bipush 8, 2) := by decide +kernel
theorem dX12_readStep_200 : decode cX12_readStep 200 = .ok (.iadd, 1) := by decide +kernel
theorem dX12_readStep_201 : decode cX12_readStep 201 = .ok (.aload_n 0, 1) := by decide +kernel
theorem dX12_readStep_202 : decode cX12_readStep 202 = .ok (.getfield 307, 3) := by decide +kernel
theorem dX12_readStep_205 : decode cX12_readStep 205 = .ok (.iastore, 1) := by decide +kernel
theorem dX12_readStep_206 : decode cX12_readStep 206 = .ok (.return_, 1) := by decide +kernel
theorem dX12_rounds_0 : decode cX12_rounds 0 = .ok (.aload_n 0, 1) := by decide +kernel
theorem dX12_rounds_1 : decode cX12_rounds 1 = .ok (.iconst 0, 1) := by decide +kernel
theorem dX12_rounds_2 : decode cX12_rounds 2 = .ok (.putfield 71, 3) := by decide +kernel
theorem dX12_rounds_5 : decode cX12_rounds 5 = .ok (.aload_n 0, 1) := by decide +kernel
theorem dX12_rounds_6 : decode cX12_rounds 6 = .ok (.iconst 0, 1) := by decide +kernel
theorem dX12_rounds_7 : decode cX12_rounds 7 = .ok (.putfield 74, 3) := by decide +kernel
theorem dX12_rounds_10 : decode cX12_rounds 10 = .ok (.aload_n 0, 1) := by decide +kernel
theorem dX12_rounds_11 : decode cX12_rounds 11 = .ok (.iload_n 1, 1) := by decide +kernel
theorem dX12_rounds_12 : decode cX12_rounds 12 = .ok (.sipush 300, 3) := by decide +kernel
theorem dX12_rounds_15 : decode cX12_rounds 15 = .ok (.invokevirtual 274, 3) := by decide +kernel
theorem dX12_rounds_18 : decode cX12_rounds 18 = .ok (.ifCond .ne 5, 3) := by decide +kernel
theorem dX12_rounds_21 : decode cX12_rounds 21 = .ok (.iconst (-1), 1) := by decide +kernel
theorem dX12_rounds_22 : decode cX12_rounds 22 = .ok (.ireturn, 1) := by decide +kernel
theorem dX12_rounds_23 : decode cX12_rounds 23 = .ok (.aload_n 0, 1) := by decide +kernel
theorem dX12_rounds_24 : decode cX12_rounds 24 = .ok (.iconst 0, 1) := by decide +kernel
theorem dX12_rounds_25 : decode cX12_rounds 25 = .ok (.putfield 307, 3) := by decide +kernel
theorem dX12_rounds_28 : decode cX12_rounds 28 = .ok (.aload_n 0, 1) := by decide +kernel
theorem dX12_rounds_29 : decode cX12_rounds 29 = .ok (.getfield 211, 3) := by decide +kernel
theorem dX12_rounds_32 : decode cX12_rounds 32 = .ok (.ifCond .ne 18, 3) := by decide +kernel
theorem dX12_rounds_35 : decode cX12_rounds 35 = .ok (.aload_n 0, 1) := by decide +kernel
theorem dX12_rounds_36 : decode cX12_rounds 36 = .ok (.getfield 126, 3) := by decide +kernel
theorem dX12_rounds_39 : decode cX12_rounds 39 = .ok (.ifCond .eq 11, 3) := by decide +kernel
theorem dX12_rounds_42 : decode cX12_rounds 42 = .ok (.aload_n 0, 1) := by decide +kernel
theorem dX12_rounds_43 : decode cX12_rounds 43 = .ok (.iconst 0, 1) := by decide +kernel
theorem dX12_rounds_44 : decode cX12_rounds 44 = .ok (.invokevirtual 313, 3) := by decide +kernel
theorem dX12_rounds_47 : decode cX12_rounds 47 = .ok (.goto (-19), 3) := by decide +kernel
theorem dX12_rounds_50 : decode cX12_rounds 50 = .ok (.aload_n 0, 1) := by decide +kernel
theorem dX12_rounds_51 : decode cX12_rounds 51 = .ok (.invokevirtual 298, 3) := by decide +kernel
theorem dX12_rounds_54 : decode cX12_rounds 54 = .ok (.ifCond .ne 5, 3) := by decide +kernel
theorem dX12_rounds_57 : decode cX12_rounds 57 = .ok (.iconst (-1), 1) := by decide +kernel
theorem dX12_rounds_58 : decode cX12_rounds 58 = .ok (.ireturn, 1) := by decide +kernel
theorem dX12_rounds_59 : decode cX12_rounds 59 = .ok (.aload_n 0, 1) := by decide +kernel
theorem dX12_rounds_60 : decode cX12_rounds 60 = .ok (.getfield 35, 3) := by decide +kernel
theorem dX12_rounds_63 : decode cX12_rounds 63 = .ok (.bipush 111, 2) := by decide +kernel
theorem dX12_rounds_65 : decode cX12_rounds 65 = .ok (.iconst 1, 1) := by decide +kernel
theorem dX12_rounds_66 : decode cX12_rounds 66 = .ok (.iastore, 1) := by decide +kernel
theorem dX12_rounds_67 : decode cX12_rounds 67 = .ok (.aload_n 0, 1) := by decide +kernel
theorem dX12_rounds_68 : decode cX12_rounds 68 = .ok (.getfield 35, 3) := by decide +kernel
theorem dX12_rounds_71 : decode cX12_rounds 71 = .ok (.bipush 112, 2) := by decide +kernel
theorem dX12_rounds_73 : decode cX12_rounds 73 = .ok (.aload_n 0, 1) := by decide +kernel
theorem dX12_rounds_74 : decode cX12_rounds 74 = .ok (.getfield 307, 3) := by decide +kernel
theorem dX12_rounds_77 : decode cX12_rounds 77 = .ok (.iastore, 1) := by decide +kernel
theorem dX12_rounds_78 : decode cX12_rounds 78 = .ok (.iconst 0, 1) := by decide +kernel
theorem dX12_rounds_79 : decode cX12_rounds 79 = .ok (.istore_n 2, 1) := by decide +kernel
theorem dX12_rounds_80 : decode cX12_rounds 80 = .ok (.iload_n 2, 1) := by decide +kernel
theorem dX12_rounds_81 : decode cX12_rounds 81 = .ok (.bipush 9, 2) := by decide +kernel
theorem dX12_rounds_83 : decode cX12_rounds 83 = .ok (.aload_n 0, 1) := by decide +kernel
theorem dX12_rounds_84 : decode cX12_rounds 84 = .ok (.getfield 307, 3) := by decide +kernel
theorem dX12_rounds_87 : decode cX12_rounds 87 = .ok (.imul, 1) := by decide +kernel
theorem dX12_rounds_88 : decode cX12_rounds 88 = .ok (.if_icmp .ge 28, 3) := by decide +kernel
theorem dX12_rounds_91 : decode cX12_rounds 91 = .ok (.aload_n 0, 1) := by decide +kernel
theorem dX12_rounds_92 : decode cX12_rounds 92 = .ok (.getfield 35, 3) := by decide +kernel
theorem dX12_rounds_95 : decode cX12_rounds 95 = .ok (.bipush 113, 2) := by decide +kernel
theorem dX12_rounds_97 : decode cX12_rounds 97 = .ok (.iload_n 2, 1) := by decide +kernel
theorem dX12_rounds_98 : decode cX12_rounds 98 = .ok (.iadd, 1) := by decide +kernel
theorem dX12_rounds_99 : decode cX12_rounds 99 = .ok (.aload_n 0, 1) := by decide +kernel
theorem dX12_rounds_100 : decode cX12_rounds 100 = .ok (.getfield 35, 3) := by decide +kernel
theorem dX12_rounds_103 : decode cX12_rounds 103 = .ok (.sipush 1673, 3) := by decide +kernel
theorem dX12_rounds_106 : decode cX12_rounds 106 = .ok (.iload_n 2, 1) := by decide +kernel
theorem dX12_rounds_107 : decode cX12_rounds 107 = .ok (.iadd, 1) := by decide +kernel
theorem dX12_rounds_108 : decode cX12_rounds 108 = .ok (.iaload, 1) := by decide +kernel
theorem dX12_rounds_109 : decode cX12_rounds 109 = .ok (.iastore, 1) := by decide +kernel
theorem dX12_rounds_110 : decode cX12_rounds 110 = .ok (.iinc 2 1, 3) := by decide +kernel
theorem dX12_rounds_113 : decode cX12_rounds 113 = .ok (.goto (-33), 3) := by decide +kernel
theorem dX12_rounds_116 : decode cX12_rounds 116 = .ok (.aload_n 0, 1) := by decide +kernel
theorem dX12_rounds_117 : decode cX12_rounds 117 = .ok (.getfield 307, 3) := by decide +kernel
theorem dX12_rounds_120 : decode cX12_rounds 120 = .ok (.ireturn, 1) := by decide +kernel
theorem dX12_isCellAt_0 : decode cX12_isCellAt 0 = .ok (.iload_n 1, 1) := by decide +kernel
theorem dX12_isCellAt_1 : decode cX12_isCellAt 1 = .ok (.i2l, 1) := by decide +kernel
theorem dX12_isCellAt_2 : decode cX12_isCellAt 2 = .ok (.lconst 0, 1) := by decide +kernel
theorem dX12_isCellAt_3 : decode cX12_isCellAt 3 = .ok (.aload_n 0, 1) := by decide +kernel
theorem dX12_isCellAt_4 : decode cX12_isCellAt 4 = .ok (.getfield 35, 3) := by decide +kernel
theorem dX12_isCellAt_7 : decode cX12_isCellAt 7 = .ok (.iconst 0, 1) := by decide +kernel
theorem dX12_isCellAt_8 : decode cX12_isCellAt 8 = .ok (.iaload, 1) := by decide +kernel
theorem dX12_isCellAt_9 : decode cX12_isCellAt 9 = .ok (.iconst 1, 1) := by decide +kernel
theorem dX12_isCellAt_10 : decode cX12_isCellAt 10 = .ok (.isub, 1) := by decide +kernel
theorem dX12_isCellAt_11 : decode cX12_isCellAt 11 = .ok (.i2l, 1) := by decide +kernel
theorem dX12_isCellAt_12 : decode cX12_isCellAt 12 = .ok (.invokestatic 106, 3) := by decide +kernel
theorem dX12_isCellAt_15 : decode cX12_isCellAt 15 = .ok (.ireturn, 1) := by decide +kernel
theorem dX12_isSecretAt_0 : decode cX12_isSecretAt 0 = .ok (.iload_n 1, 1) := by decide +kernel
theorem dX12_isSecretAt_1 : decode cX12_isSecretAt 1 = .ok (.i2l, 1) := by decide +kernel
theorem dX12_isSecretAt_2 : decode cX12_isSecretAt 2 = .ok (.lconst 0, 1) := by decide +kernel
theorem dX12_isSecretAt_3 : decode cX12_isSecretAt 3 = .ok (.aload_n 0, 1) := by decide +kernel
theorem dX12_isSecretAt_4 : decode cX12_isSecretAt 4 = .ok (.getfield 35, 3) := by decide +kernel
theorem dX12_isSecretAt_7 : decode cX12_isSecretAt 7 = .ok (.iconst 1, 1) := by decide +kernel
theorem dX12_isSecretAt_8 : decode cX12_isSecretAt 8 = .ok (.iaload, 1) := by decide +kernel
theorem dX12_isSecretAt_9 : decode cX12_isSecretAt 9 = .ok (.iconst 1, 1) := by decide +kernel
theorem dX12_isSecretAt_10 : decode cX12_isSecretAt 10 = .ok (.isub, 1) := by decide +kernel
theorem dX12_isSecretAt_11 : decode cX12_isSecretAt 11 = .ok (.i2l, 1) := by decide +kernel
theorem dX12_isSecretAt_12 : decode cX12_isSecretAt 12 = .ok (.invokestatic 106, 3) := by decide +kernel
theorem dX12_isSecretAt_15 : decode cX12_isSecretAt 15 = .ok (.ireturn, 1) := by decide +kernel
theorem dX12_isPageAt_0 : decode cX12_isPageAt 0 = .ok (.iload_n 1, 1) := by decide +kernel
theorem dX12_isPageAt_1 : decode cX12_isPageAt 1 = .ok (.i2l, 1) := by decide +kernel
theorem dX12_isPageAt_2 : decode cX12_isPageAt 2 = .ok (.lconst 0, 1) := by decide +kernel
theorem dX12_isPageAt_3 : decode cX12_isPageAt 3 = .ok (.aload_n 0, 1) := by decide +kernel
theorem dX12_isPageAt_4 : decode cX12_isPageAt 4 = .ok (.getfield 35, 3) := by decide +kernel
theorem dX12_isPageAt_7 : decode cX12_isPageAt 7 = .ok (.iconst 2, 1) := by decide +kernel
theorem dX12_isPageAt_8 : decode cX12_isPageAt 8 = .ok (.iaload, 1) := by decide +kernel
theorem dX12_isPageAt_9 : decode cX12_isPageAt 9 = .ok (.iconst 1, 1) := by decide +kernel
theorem dX12_isPageAt_10 : decode cX12_isPageAt 10 = .ok (.isub, 1) := by decide +kernel
theorem dX12_isPageAt_11 : decode cX12_isPageAt 11 = .ok (.i2l, 1) := by decide +kernel
theorem dX12_isPageAt_12 : decode cX12_isPageAt 12 = .ok (.invokestatic 106, 3) := by decide +kernel
theorem dX12_isPageAt_15 : decode cX12_isPageAt 15 = .ok (.ireturn, 1) := by decide +kernel
theorem dX12_isShut_0 : decode cX12_isShut 0 = .ok (.aload_n 0, 1) := by decide +kernel
theorem dX12_isShut_1 : decode cX12_isShut 1 = .ok (.getfield 35, 3) := by decide +kernel
theorem dX12_isShut_4 : decode cX12_isShut 4 = .ok (.bipush 7, 2) := by decide +kernel
theorem dX12_isShut_6 : decode cX12_isShut 6 = .ok (.iaload, 1) := by decide +kernel
theorem dX12_isShut_7 : decode cX12_isShut 7 = .ok (.iload_n 1, 1) := by decide +kernel
theorem dX12_isShut_8 : decode cX12_isShut 8 = .ok (.invokestatic 110, 3) := by decide +kernel
theorem dX12_isShut_11 : decode cX12_isShut 11 = .ok (.ireturn, 1) := by decide +kernel
theorem dX12_pricksOn_0 : decode cX12_pricksOn 0 = .ok (.iconst 0, 1) := by decide +kernel
theorem dX12_pricksOn_1 : decode cX12_pricksOn 1 = .ok (.istore_n 2, 1) := by decide +kernel
theorem dX12_pricksOn_2 : decode cX12_pricksOn 2 = .ok (.iconst 0, 1) := by decide +kernel
theorem dX12_pricksOn_3 : decode cX12_pricksOn 3 = .ok (.istore_n 3, 1) := by decide +kernel
theorem dX12_pricksOn_4 : decode cX12_pricksOn 4 = .ok (.iload_n 3, 1) := by decide +kernel
theorem dX12_pricksOn_5 : decode cX12_pricksOn 5 = .ok (.bipush 6, 2) := by decide +kernel
theorem dX12_pricksOn_7 : decode cX12_pricksOn 7 = .ok (.if_icmp .ge 26, 3) := by decide +kernel
theorem dX12_pricksOn_10 : decode cX12_pricksOn 10 = .ok (.iload_n 2, 1) := by decide +kernel
theorem dX12_pricksOn_11 : decode cX12_pricksOn 11 = .ok (.aload_n 0, 1) := by decide +kernel
theorem dX12_pricksOn_12 : decode cX12_pricksOn 12 = .ok (.getfield 35, 3) := by decide +kernel
theorem dX12_pricksOn_15 : decode cX12_pricksOn 15 = .ok (.bipush 75, 2) := by decide +kernel
theorem dX12_pricksOn_17 : decode cX12_pricksOn 17 = .ok (.bipush 6, 2) := by decide +kernel
theorem dX12_pricksOn_19 : decode cX12_pricksOn 19 = .ok (.iload_n 1, 1) := by decide +kernel
theorem dX12_pricksOn_20 : decode cX12_pricksOn 20 = .ok (.imul, 1) := by decide +kernel
theorem dX12_pricksOn_21 : decode cX12_pricksOn 21 = .ok (.iadd, 1) := by decide +kernel
theorem dX12_pricksOn_22 : decode cX12_pricksOn 22 = .ok (.iload_n 3, 1) := by decide +kernel
theorem dX12_pricksOn_23 : decode cX12_pricksOn 23 = .ok (.iadd, 1) := by decide +kernel
theorem dX12_pricksOn_24 : decode cX12_pricksOn 24 = .ok (.iaload, 1) := by decide +kernel
theorem dX12_pricksOn_25 : decode cX12_pricksOn 25 = .ok (.iadd, 1) := by decide +kernel
theorem dX12_pricksOn_26 : decode cX12_pricksOn 26 = .ok (.istore_n 2, 1) := by decide +kernel
theorem dX12_pricksOn_27 : decode cX12_pricksOn 27 = .ok (.iinc 3 1, 3) := by decide +kernel
theorem dX12_pricksOn_30 : decode cX12_pricksOn 30 = .ok (.goto (-26), 3) := by decide +kernel
theorem dX12_pricksOn_33 : decode cX12_pricksOn 33 = .ok (.iload_n 2, 1) := by decide +kernel
theorem dX12_pricksOn_34 : decode cX12_pricksOn 34 = .ok (.ireturn, 1) := by decide +kernel
theorem dX12_freeOf_0 : decode cX12_freeOf 0 = .ok (.aload_n 0, 1) := by decide +kernel
theorem dX12_freeOf_1 : decode cX12_freeOf 1 = .ok (.getfield 35, 3) := by decide +kernel
theorem dX12_freeOf_4 : decode cX12_freeOf 4 = .ok (.bipush 55, 2) := by decide +kernel
theorem dX12_freeOf_6 : decode cX12_freeOf 6 = .ok (.iload_n 1, 1) := by decide +kernel
theorem dX12_freeOf_7 : decode cX12_freeOf 7 = .ok (.iadd, 1) := by decide +kernel
theorem dX12_freeOf_8 : decode cX12_freeOf 8 = .ok (.iaload, 1) := by decide +kernel
theorem dX12_freeOf_9 : decode cX12_freeOf 9 = .ok (.aload_n 0, 1) := by decide +kernel
theorem dX12_freeOf_10 : decode cX12_freeOf 10 = .ok (.iload_n 1, 1) := by decide +kernel
theorem dX12_freeOf_11 : decode cX12_freeOf 11 = .ok (.invokevirtual 316, 3) := by decide +kernel
theorem dX12_freeOf_14 : decode cX12_freeOf 14 = .ok (.isub, 1) := by decide +kernel
theorem dX12_freeOf_15 : decode cX12_freeOf 15 = .ok (.ireturn, 1) := by decide +kernel
theorem dX12_stands_0 : decode cX12_stands 0 = .ok (.aload_n 0, 1) := by decide +kernel
theorem dX12_stands_1 : decode cX12_stands 1 = .ok (.getfield 35, 3) := by decide +kernel
theorem dX12_stands_4 : decode cX12_stands 4 = .ok (.bipush 75, 2) := by decide +kernel
theorem dX12_stands_6 : decode cX12_stands 6 = .ok (.bipush 6, 2) := by decide +kernel
theorem dX12_stands_8 : decode cX12_stands 8 = .ok (.iload_n 1, 1) := by decide +kernel
theorem dX12_stands_9 : decode cX12_stands 9 = .ok (.imul, 1) := by decide +kernel
theorem dX12_stands_10 : decode cX12_stands 10 = .ok (.iadd, 1) := by decide +kernel
theorem dX12_stands_11 : decode cX12_stands 11 = .ok (.iload_n 2, 1) := by decide +kernel
theorem dX12_stands_12 : decode cX12_stands 12 = .ok (.iadd, 1) := by decide +kernel
theorem dX12_stands_13 : decode cX12_stands 13 = .ok (.iaload, 1) := by decide +kernel
theorem dX12_stands_14 : decode cX12_stands 14 = .ok (.aload_n 0, 1) := by decide +kernel
theorem dX12_stands_15 : decode cX12_stands 15 = .ok (.getfield 35, 3) := by decide +kernel
theorem dX12_stands_18 : decode cX12_stands 18 = .ok (.bipush 49, 2) := by decide +kernel
theorem dX12_stands_20 : decode cX12_stands 20 = .ok (.iload_n 2, 1) := by decide +kernel
theorem dX12_stands_21 : decode cX12_stands 21 = .ok (.iadd, 1) := by decide +kernel
theorem dX12_stands_22 : decode cX12_stands 22 = .ok (.iaload, 1) := by decide +kernel
theorem dX12_stands_23 : decode cX12_stands 23 = .ok (.if_icmp .ne 7, 3) := by decide +kernel
theorem dX12_stands_26 : decode cX12_stands 26 = .ok (.iconst 1, 1) := by decide +kernel
theorem dX12_stands_27 : decode cX12_stands 27 = .ok (.goto 4, 3) := by decide +kernel
theorem dX12_stands_30 : decode cX12_stands 30 = .ok (.iconst 0, 1) := by decide +kernel
theorem dX12_stands_31 : decode cX12_stands 31 = .ok (.ireturn, 1) := by decide +kernel
theorem dX12_standing_0 : decode cX12_standing 0 = .ok (.iconst 0, 1) := by decide +kernel
theorem dX12_standing_1 : decode cX12_standing 1 = .ok (.istore_n 2, 1) := by decide +kernel
theorem dX12_standing_2 : decode cX12_standing 2 = .ok (.iconst 0, 1) := by decide +kernel
theorem dX12_standing_3 : decode cX12_standing 3 = .ok (.istore_n 3, 1) := by decide +kernel
theorem dX12_standing_4 : decode cX12_standing 4 = .ok (.iload_n 3, 1) := by decide +kernel
theorem dX12_standing_5 : decode cX12_standing 5 = .ok (.aload_n 0, 1) := by decide +kernel
theorem dX12_standing_6 : decode cX12_standing 6 = .ok (.getfield 35, 3) := by decide +kernel
theorem dX12_standing_9 : decode cX12_standing 9 = .ok (.iconst 1, 1) := by decide +kernel
theorem dX12_standing_10 : decode cX12_standing 10 = .ok (.iaload, 1) := by decide +kernel
theorem dX12_standing_11 : decode cX12_standing 11 = .ok (.if_icmp .ge 28, 3) := by decide +kernel
theorem dX12_standing_14 : decode cX12_standing 14 = .ok (.iload_n 2, 1) := by decide +kernel
theorem dX12_standing_15 : decode cX12_standing 15 = .ok (.aload_n 0, 1) := by decide +kernel
theorem dX12_standing_16 : decode cX12_standing 16 = .ok (.iload_n 1, 1) := by decide +kernel
theorem dX12_standing_17 : decode cX12_standing 17 = .ok (.iload_n 3, 1) := by decide +kernel
theorem dX12_standing_18 : decode cX12_standing 18 = .ok (.invokevirtual 319, 3) := by decide +kernel
theorem dX12_standing_21 : decode cX12_standing 21 = .ok (.ifCond .eq 9, 3) := by decide +kernel
theorem dX12_standing_24 : decode cX12_standing 24 = .ok (.iconst 1, 1) := by decide +kernel
theorem dX12_standing_25 : decode cX12_standing 25 = .ok (.iload_n 3, 1) := by decide +kernel
theorem dX12_standing_26 : decode cX12_standing 26 = .ok (.ishl, 1) := by decide +kernel
theorem dX12_standing_27 : decode cX12_standing 27 = .ok (.goto 4, 3) := by decide +kernel
theorem dX12_standing_30 : decode cX12_standing 30 = .ok (.iconst 0, 1) := by decide +kernel
theorem dX12_standing_31 : decode cX12_standing 31 = .ok (.ior, 1) := by decide +kernel
theorem dX12_standing_32 : decode cX12_standing 32 = .ok (.istore_n 2, 1) := by decide +kernel
theorem dX12_standing_33 : decode cX12_standing 33 = .ok (.iinc 3 1, 3) := by decide +kernel
theorem dX12_standing_36 : decode cX12_standing 36 = .ok (.goto (-32), 3) := by decide +kernel
theorem dX12_standing_39 : decode cX12_standing 39 = .ok (.iload_n 2, 1) := by decide +kernel
theorem dX12_standing_40 : decode cX12_standing 40 = .ok (.ireturn, 1) := by decide +kernel
theorem dX12_allPricks_0 : decode cX12_allPricks 0 = .ok (.iconst 0, 1) := by decide +kernel
theorem dX12_allPricks_1 : decode cX12_allPricks 1 = .ok (.istore_n 1, 1) := by decide +kernel
theorem dX12_allPricks_2 : decode cX12_allPricks 2 = .ok (.iconst 0, 1) := by decide +kernel
theorem dX12_allPricks_3 : decode cX12_allPricks 3 = .ok (.istore_n 2, 1) := by decide +kernel
theorem dX12_allPricks_4 : decode cX12_allPricks 4 = .ok (.iload_n 2, 1) := by decide +kernel
theorem dX12_allPricks_5 : decode cX12_allPricks 5 = .ok (.aload_n 0, 1) := by decide +kernel
theorem dX12_allPricks_6 : decode cX12_allPricks 6 = .ok (.getfield 35, 3) := by decide +kernel
theorem dX12_allPricks_9 : decode cX12_allPricks 9 = .ok (.iconst 2, 1) := by decide +kernel
theorem dX12_allPricks_10 : decode cX12_allPricks 10 = .ok (.iaload, 1) := by decide +kernel
theorem dX12_allPricks_11 : decode cX12_allPricks 11 = .ok (.if_icmp .ge 17, 3) := by decide +kernel
theorem dX12_allPricks_14 : decode cX12_allPricks 14 = .ok (.iload_n 1, 1) := by decide +kernel
theorem dX12_allPricks_15 : decode cX12_allPricks 15 = .ok (.aload_n 0, 1) := by decide +kernel
theorem dX12_allPricks_16 : decode cX12_allPricks 16 = .ok (.iload_n 2, 1) := by decide +kernel
theorem dX12_allPricks_17 : decode cX12_allPricks 17 = .ok (.invokevirtual 316, 3) := by decide +kernel
theorem dX12_allPricks_20 : decode cX12_allPricks 20 = .ok (.iadd, 1) := by decide +kernel
theorem dX12_allPricks_21 : decode cX12_allPricks 21 = .ok (.istore_n 1, 1) := by decide +kernel
theorem dX12_allPricks_22 : decode cX12_allPricks 22 = .ok (.iinc 2 1, 3) := by decide +kernel
theorem dX12_allPricks_25 : decode cX12_allPricks 25 = .ok (.goto (-21), 3) := by decide +kernel
theorem dX12_allPricks_28 : decode cX12_allPricks 28 = .ok (.iload_n 1, 1) := by decide +kernel
theorem dX12_allPricks_29 : decode cX12_allPricks 29 = .ok (.ireturn, 1) := by decide +kernel
theorem dX12_many_0 : decode cX12_many 0 = .ok (.aload_n 0, 1) := by decide +kernel
theorem dX12_many_1 : decode cX12_many 1 = .ok (.iconst 0, 1) := by decide +kernel
theorem dX12_many_2 : decode cX12_many 2 = .ok (.putfield 71, 3) := by decide +kernel
theorem dX12_many_5 : decode cX12_many 5 = .ok (.aload_n 0, 1) := by decide +kernel
theorem dX12_many_6 : decode cX12_many 6 = .ok (.iconst 0, 1) := by decide +kernel
theorem dX12_many_7 : decode cX12_many 7 = .ok (.putfield 74, 3) := by decide +kernel
theorem dX12_many_10 : decode cX12_many 10 = .ok (.iload_n 1, 1) := by decide +kernel
theorem dX12_many_11 : decode cX12_many 11 = .ok (.i2l, 1) := by decide +kernel
theorem dX12_many_12 : decode cX12_many 12 = .ok (.lconst 0, 1) := by decide +kernel
theorem dX12_many_13 : decode cX12_many 13 = .ok (.ldc2_w 322, 3) := by decide +kernel
theorem dX12_many_16 : decode cX12_many 16 = .ok (.invokestatic 106, 3) := by decide +kernel
theorem dX12_many_19 : decode cX12_many 19 = .ok (.ifCond .ne 9, 3) := by decide +kernel
theorem dX12_many_22 : decode cX12_many 22 = .ok (.aload_n 0, 1) := by decide +kernel
theorem dX12_many_23 : decode cX12_many 23 = .ok (.iconst 5, 1) := by decide +kernel
theorem dX12_many_24 : decode cX12_many 24 = .ok (.invokevirtual 324, 3) := by decide +kernel
theorem dX12_many_27 : decode cX12_many 27 = .ok (.ireturn, 1) := by decide +kernel
theorem dX12_many_28 : decode cX12_many 28 = .ok (.iload_n 1, 1) := by decide +kernel
theorem dX12_many_29 : decode cX12_many 29 = .ok (.iconst 5, 1) := by decide +kernel
theorem dX12_many_30 : decode cX12_many 30 = .ok (.if_icmp .ge 12, 3) := by decide +kernel
theorem dX12_many_33 : decode cX12_many 33 = .ok (.aload_n 0, 1) := by decide +kernel
theorem dX12_many_34 : decode cX12_many 34 = .ok (.getfield 35, 3) := by decide +kernel
theorem dX12_many_37 : decode cX12_many 37 = .ok (.iload_n 1, 1) := by decide +kernel
theorem dX12_many_38 : decode cX12_many 38 = .ok (.iaload, 1) := by decide +kernel
theorem dX12_many_39 : decode cX12_many 39 = .ok (.goto 23, 3) := by decide +kernel
theorem dX12_many_42 : decode cX12_many 42 = .ok (.iload_n 1, 1) := by decide +kernel
theorem dX12_many_43 : decode cX12_many 43 = .ok (.iconst 5, 1) := by decide +kernel
theorem dX12_many_44 : decode cX12_many 44 = .ok (.if_icmp .ne 10, 3) := by decide +kernel
theorem dX12_many_47 : decode cX12_many 47 = .ok (.aload_n 0, 1) := by decide +kernel
theorem dX12_many_48 : decode cX12_many 48 = .ok (.invokevirtual 327, 3) := by decide +kernel
theorem dX12_many_51 : decode cX12_many 51 = .ok (.goto 11, 3) := by decide +kernel
theorem dX12_many_54 : decode cX12_many 54 = .ok (.aload_n 0, 1) := by decide +kernel
theorem dX12_many_55 : decode cX12_many 55 = .ok (.getfield 35, 3) := by decide +kernel
theorem dX12_many_58 : decode cX12_many 58 = .ok (.iload_n 1, 1) := by decide +kernel
theorem dX12_many_59 : decode cX12_many 59 = .ok (.iconst 1, 1) := by decide +kernel
theorem dX12_many_60 : decode cX12_many 60 = .ok (.isub, 1) := by decide +kernel
theorem dX12_many_61 : decode cX12_many 61 = .ok (.iaload, 1) := by decide +kernel
theorem dX12_many_62 : decode cX12_many 62 = .ok (.ireturn, 1) := by decide +kernel
theorem dX12_placeOf_0 : decode cX12_placeOf 0 = .ok (.iconst 0, 1) := by decide +kernel
theorem dX12_placeOf_1 : decode cX12_placeOf 1 = .ok (.istore_n 2, 1) := by decide +kernel
theorem dX12_placeOf_2 : decode cX12_placeOf 2 = .ok (.iload_n 2, 1) := by decide +kernel
theorem dX12_placeOf_3 : decode cX12_placeOf 3 = .ok (.aload_n 0, 1) := by decide +kernel
theorem dX12_placeOf_4 : decode cX12_placeOf 4 = .ok (.getfield 35, 3) := by decide +kernel
theorem dX12_placeOf_7 : decode cX12_placeOf 7 = .ok (.iconst 3, 1) := by decide +kernel
theorem dX12_placeOf_8 : decode cX12_placeOf 8 = .ok (.iaload, 1) := by decide +kernel
theorem dX12_placeOf_9 : decode cX12_placeOf 9 = .ok (.if_icmp .ge 24, 3) := by decide +kernel
theorem dX12_placeOf_12 : decode cX12_placeOf 12 = .ok (.aload_n 0, 1) := by decide +kernel
theorem dX12_placeOf_13 : decode cX12_placeOf 13 = .ok (.getfield 35, 3) := by decide +kernel
theorem dX12_placeOf_16 : decode cX12_placeOf 16 = .ok (.bipush 67, 2) := by decide +kernel
theorem dX12_placeOf_18 : decode cX12_placeOf 18 = .ok (.iload_n 2, 1) := by decide +kernel
theorem dX12_placeOf_19 : decode cX12_placeOf 19 = .ok (.iadd, 1) := by decide +kernel
theorem dX12_placeOf_20 : decode cX12_placeOf 20 = .ok (.iaload, 1) := by decide +kernel
theorem dX12_placeOf_21 : decode cX12_placeOf 21 = .ok (.iload_n 1, 1) := by decide +kernel
theorem dX12_placeOf_22 : decode cX12_placeOf 22 = .ok (.if_icmp .ne 5, 3) := by decide +kernel
theorem dX12_placeOf_25 : decode cX12_placeOf 25 = .ok (.iload_n 2, 1) := by decide +kernel
theorem dX12_placeOf_26 : decode cX12_placeOf 26 = .ok (.ireturn, 1) := by decide +kernel
theorem dX12_placeOf_27 : decode cX12_placeOf 27 = .ok (.iinc 2 1, 3) := by decide +kernel
theorem dX12_placeOf_30 : decode cX12_placeOf 30 = .ok (.goto (-28), 3) := by decide +kernel
theorem dX12_placeOf_33 : decode cX12_placeOf 33 = .ok (.iconst (-1), 1) := by decide +kernel
theorem dX12_placeOf_34 : decode cX12_placeOf 34 = .ok (.ireturn, 1) := by decide +kernel
theorem dX12_cell_0 : decode cX12_cell 0 = .ok (.aload_n 0, 1) := by decide +kernel
theorem dX12_cell_1 : decode cX12_cell 1 = .ok (.iconst 0, 1) := by decide +kernel
theorem dX12_cell_2 : decode cX12_cell 2 = .ok (.putfield 71, 3) := by decide +kernel
theorem dX12_cell_5 : decode cX12_cell 5 = .ok (.aload_n 0, 1) := by decide +kernel
theorem dX12_cell_6 : decode cX12_cell 6 = .ok (.iconst 0, 1) := by decide +kernel
theorem dX12_cell_7 : decode cX12_cell 7 = .ok (.putfield 74, 3) := by decide +kernel
theorem dX12_cell_10 : decode cX12_cell 10 = .ok (.aload_n 0, 1) := by decide +kernel
theorem dX12_cell_11 : decode cX12_cell 11 = .ok (.iload_n 1, 1) := by decide +kernel
theorem dX12_cell_12 : decode cX12_cell 12 = .ok (.invokevirtual 330, 3) := by decide +kernel
theorem dX12_cell_15 : decode cX12_cell 15 = .ok (.ifCond .ne 9, 3) := by decide +kernel
theorem dX12_cell_18 : decode cX12_cell 18 = .ok (.aload_n 0, 1) := by decide +kernel
theorem dX12_cell_19 : decode cX12_cell 19 = .ok (.iconst 2, 1) := by decide +kernel
theorem dX12_cell_20 : decode cX12_cell 20 = .ok (.invokevirtual 324, 3) := by decide +kernel
theorem dX12_cell_23 : decode cX12_cell 23 = .ok (.ireturn, 1) := by decide +kernel
theorem dX12_cell_24 : decode cX12_cell 24 = .ok (.iload_n 2, 1) := by decide +kernel
theorem dX12_cell_25 : decode cX12_cell 25 = .ok (.i2l, 1) := by decide +kernel
theorem dX12_cell_26 : decode cX12_cell 26 = .ok (.lconst 0, 1) := by decide +kernel
theorem dX12_cell_27 : decode cX12_cell 27 = .ok (.ldc2_w 333, 3) := by decide +kernel
theorem dX12_cell_30 : decode cX12_cell 30 = .ok (.invokestatic 106, 3) := by decide +kernel
theorem dX12_cell_33 : decode cX12_cell 33 = .ok (.ifCond .ne 9, 3) := by decide +kernel
theorem dX12_cell_36 : decode cX12_cell 36 = .ok (.aload_n 0, 1) := by decide +kernel
theorem dX12_cell_37 : decode cX12_cell 37 = .ok (.iconst 5, 1) := by decide +kernel
theorem dX12_cell_38 : decode cX12_cell 38 = .ok (.invokevirtual 324, 3) := by decide +kernel
theorem dX12_cell_41 : decode cX12_cell 41 = .ok (.ireturn, 1) := by decide +kernel
theorem dX12_cell_42 : decode cX12_cell 42 = .ok (.iload_n 2, 1) := by decide +kernel
theorem dX12_cell_43 : decode cX12_cell 43 = .ok (.iconst 4, 1) := by decide +kernel
theorem dX12_cell_44 : decode cX12_cell 44 = .ok (.if_icmp .ne 26, 3) := by decide +kernel
theorem dX12_cell_47 : decode cX12_cell 47 = .ok (.aload_n 0, 1) := by decide +kernel
theorem dX12_cell_48 : decode cX12_cell 48 = .ok (.iload_n 1, 1) := by decide +kernel
theorem dX12_cell_49 : decode cX12_cell 49 = .ok (.invokevirtual 335, 3) := by decide +kernel
theorem dX12_cell_52 : decode cX12_cell 52 = .ok (.ifCond .ge 12, 3) := by decide +kernel
theorem dX12_cell_55 : decode cX12_cell 55 = .ok (.aload_n 0, 1) := by decide +kernel
theorem dX12_cell_56 : decode cX12_cell 56 = .ok (.bipush 8, 2) := by decide +kernel
theorem dX12_cell_58 : decode cX12_cell 58 = .ok (.invokevirtual 324, 3) := by decide +kernel
theorem dX12_cell_61 : decode cX12_cell 61 = .ok (.goto 8, 3) := by decide +kernel
theorem dX12_cell_64 : decode cX12_cell 64 = .ok (.aload_n 0, 1) := by decide +kernel
theorem dX12_cell_65 : decode cX12_cell 65 = .ok (.iload_n 1, 1) := by decide +kernel
theorem dX12_cell_66 : decode cX12_cell 66 = .ok (.invokevirtual 335, 3) := by decide +kernel
theorem dX12_cell_69 : decode cX12_cell 69 = .ok (.ireturn, 1) := by decide +kernel
theorem dX12_cell_70 : decode cX12_cell 70 = .ok (.iload_n 2, 1) := by decide +kernel
theorem dX12_cell_71 : decode cX12_cell 71 = .ok (.iconst 5, 1) := by decide +kernel
theorem dX12_cell_72 : decode cX12_cell 72 = .ok (.if_icmp .ne 15, 3) := by decide +kernel
theorem dX12_cell_75 : decode cX12_cell 75 = .ok (.aload_n 0, 1) := by decide +kernel
theorem dX12_cell_76 : decode cX12_cell 76 = .ok (.getfield 35, 3) := by decide +kernel
theorem dX12_cell_79 : decode cX12_cell 79 = .ok (.bipush 41, 2) := by decide +kernel
theorem dX12_cell_81 : decode cX12_cell 81 = .ok (.iload_n 1, 1) := by decide +kernel
theorem dX12_cell_82 : decode cX12_cell 82 = .ok (.iadd, 1) := by decide +kernel
theorem dX12_cell_83 : decode cX12_cell 83 = .ok (.iaload, 1) := by decide +kernel
theorem dX12_cell_84 : decode cX12_cell 84 = .ok (.goto 17, 3) := by decide +kernel
theorem dX12_cell_87 : decode cX12_cell 87 = .ok (.aload_n 0, 1) := by decide +kernel
theorem dX12_cell_88 : decode cX12_cell 88 = .ok (.getfield 35, 3) := by decide +kernel
theorem dX12_cell_91 : decode cX12_cell 91 = .ok (.bipush 9, 2) := by decide +kernel
theorem dX12_cell_93 : decode cX12_cell 93 = .ok (.bipush 8, 2) := by decide +kernel
theorem dX12_cell_95 : decode cX12_cell 95 = .ok (.iload_n 2, 1) := by decide +kernel
theorem dX12_cell_96 : decode cX12_cell 96 = .ok (.imul, 1) := by decide +kernel
theorem dX12_cell_97 : decode cX12_cell 97 = .ok (.iadd, 1) := by decide +kernel
theorem dX12_cell_98 : decode cX12_cell 98 = .ok (.iload_n 1, 1) := by decide +kernel
theorem dX12_cell_99 : decode cX12_cell 99 = .ok (.iadd, 1) := by decide +kernel
theorem dX12_cell_100 : decode cX12_cell 100 = .ok (.iaload, 1) := by decide +kernel
theorem dX12_cell_101 : decode cX12_cell 101 = .ok (.ireturn, 1) := by decide +kernel
theorem dX12_secret_0 : decode cX12_secret 0 = .ok (.aload_n 0, 1) := by decide +kernel
theorem dX12_secret_1 : decode cX12_secret 1 = .ok (.iconst 0, 1) := by decide +kernel
theorem dX12_secret_2 : decode cX12_secret 2 = .ok (.putfield 71, 3) := by decide +kernel
theorem dX12_secret_5 : decode cX12_secret 5 = .ok (.aload_n 0, 1) := by decide +kernel
theorem dX12_secret_6 : decode cX12_secret 6 = .ok (.iconst 0, 1) := by decide +kernel
theorem dX12_secret_7 : decode cX12_secret 7 = .ok (.putfield 74, 3) := by decide +kernel
theorem dX12_secret_10 : decode cX12_secret 10 = .ok (.aload_n 0, 1) := by decide +kernel
theorem dX12_secret_11 : decode cX12_secret 11 = .ok (.iload_n 1, 1) := by decide +kernel
theorem dX12_secret_12 : decode cX12_secret 12 = .ok (.invokevirtual 338, 3) := by decide +kernel
theorem dX12_secret_15 : decode cX12_secret 15 = .ok (.ifCond .eq 15, 3) := by decide +kernel
theorem dX12_secret_18 : decode cX12_secret 18 = .ok (.aload_n 0, 1) := by decide +kernel
theorem dX12_secret_19 : decode cX12_secret 19 = .ok (.getfield 35, 3) := by decide +kernel
theorem dX12_secret_22 : decode cX12_secret 22 = .ok (.bipush 49, 2) := by decide +kernel
theorem dX12_secret_24 : decode cX12_secret 24 = .ok (.iload_n 1, 1) := by decide +kernel
theorem dX12_secret_25 : decode cX12_secret 25 = .ok (.iadd, 1) := by decide +kernel
theorem dX12_secret_26 : decode cX12_secret 26 = .ok (.iaload, 1) := by decide +kernel
theorem dX12_secret_27 : decode cX12_secret 27 = .ok (.goto 8, 3) := by decide +kernel
theorem dX12_secret_30 : decode cX12_secret 30 = .ok (.aload_n 0, 1) := by decide +kernel
theorem dX12_secret_31 : decode cX12_secret 31 = .ok (.iconst 2, 1) := by decide +kernel
theorem dX12_secret_32 : decode cX12_secret 32 = .ok (.invokevirtual 324, 3) := by decide +kernel
theorem dX12_secret_35 : decode cX12_secret 35 = .ok (.ireturn, 1) := by decide +kernel
theorem dX12_page_0 : decode cX12_page 0 = .ok (.aload_n 0, 1) := by decide +kernel
theorem dX12_page_1 : decode cX12_page 1 = .ok (.iconst 0, 1) := by decide +kernel
theorem dX12_page_2 : decode cX12_page 2 = .ok (.putfield 71, 3) := by decide +kernel
theorem dX12_page_5 : decode cX12_page 5 = .ok (.aload_n 0, 1) := by decide +kernel
theorem dX12_page_6 : decode cX12_page 6 = .ok (.iconst 0, 1) := by decide +kernel
theorem dX12_page_7 : decode cX12_page 7 = .ok (.putfield 74, 3) := by decide +kernel
theorem dX12_page_10 : decode cX12_page 10 = .ok (.aload_n 0, 1) := by decide +kernel
theorem dX12_page_11 : decode cX12_page 11 = .ok (.iload_n 1, 1) := by decide +kernel
theorem dX12_page_12 : decode cX12_page 12 = .ok (.invokevirtual 341, 3) := by decide +kernel
theorem dX12_page_15 : decode cX12_page 15 = .ok (.ifCond .ne 9, 3) := by decide +kernel
theorem dX12_page_18 : decode cX12_page 18 = .ok (.aload_n 0, 1) := by decide +kernel
theorem dX12_page_19 : decode cX12_page 19 = .ok (.iconst 2, 1) := by decide +kernel
theorem dX12_page_20 : decode cX12_page 20 = .ok (.invokevirtual 324, 3) := by decide +kernel
theorem dX12_page_23 : decode cX12_page 23 = .ok (.ireturn, 1) := by decide +kernel
theorem dX12_page_24 : decode cX12_page 24 = .ok (.iload_n 2, 1) := by decide +kernel
theorem dX12_page_25 : decode cX12_page 25 = .ok (.i2l, 1) := by decide +kernel
theorem dX12_page_26 : decode cX12_page 26 = .ok (.lconst 0, 1) := by decide +kernel
theorem dX12_page_27 : decode cX12_page 27 = .ok (.ldc2_w 104, 3) := by decide +kernel
theorem dX12_page_30 : decode cX12_page 30 = .ok (.invokestatic 106, 3) := by decide +kernel
theorem dX12_page_33 : decode cX12_page 33 = .ok (.ifCond .ne 9, 3) := by decide +kernel
theorem dX12_page_36 : decode cX12_page 36 = .ok (.aload_n 0, 1) := by decide +kernel
theorem dX12_page_37 : decode cX12_page 37 = .ok (.iconst 5, 1) := by decide +kernel
theorem dX12_page_38 : decode cX12_page 38 = .ok (.invokevirtual 324, 3) := by decide +kernel
theorem dX12_page_41 : decode cX12_page 41 = .ok (.ireturn, 1) := by decide +kernel
theorem dX12_page_42 : decode cX12_page 42 = .ok (.iload_n 2, 1) := by decide +kernel
theorem dX12_page_43 : decode cX12_page 43 = .ok (.ifCond .ne 15, 3) := by decide +kernel
theorem dX12_page_46 : decode cX12_page 46 = .ok (.aload_n 0, 1) := by decide +kernel
theorem dX12_page_47 : decode cX12_page 47 = .ok (.getfield 35, 3) := by decide +kernel
theorem dX12_page_50 : decode cX12_page 50 = .ok (.bipush 55, 2) := by decide +kernel
theorem dX12_page_52 : decode cX12_page 52 = .ok (.iload_n 1, 1) := by decide +kernel
theorem dX12_page_53 : decode cX12_page 53 = .ok (.iadd, 1) := by decide +kernel
theorem dX12_page_54 : decode cX12_page 54 = .ok (.iaload, 1) := by decide +kernel
theorem dX12_page_55 : decode cX12_page 55 = .ok (.goto 38, 3) := by decide +kernel
theorem dX12_page_58 : decode cX12_page 58 = .ok (.iload_n 2, 1) := by decide +kernel
theorem dX12_page_59 : decode cX12_page 59 = .ok (.iconst 1, 1) := by decide +kernel
theorem dX12_page_60 : decode cX12_page 60 = .ok (.if_icmp .ne 15, 3) := by decide +kernel
theorem dX12_page_63 : decode cX12_page 63 = .ok (.aload_n 0, 1) := by decide +kernel
theorem dX12_page_64 : decode cX12_page 64 = .ok (.getfield 35, 3) := by decide +kernel
theorem dX12_page_67 : decode cX12_page 67 = .ok (.bipush 61, 2) := by decide +kernel
theorem dX12_page_69 : decode cX12_page 69 = .ok (.iload_n 1, 1) := by decide +kernel
theorem dX12_page_70 : decode cX12_page 70 = .ok (.iadd, 1) := by decide +kernel
theorem dX12_page_71 : decode cX12_page 71 = .ok (.iaload, 1) := by decide +kernel
theorem dX12_page_72 : decode cX12_page 72 = .ok (.goto 21, 3) := by decide +kernel
theorem dX12_page_75 : decode cX12_page 75 = .ok (.iload_n 2, 1) := by decide +kernel
theorem dX12_page_76 : decode cX12_page 76 = .ok (.iconst 2, 1) := by decide +kernel
theorem dX12_page_77 : decode cX12_page 77 = .ok (.if_icmp .ne 11, 3) := by decide +kernel
theorem dX12_page_80 : decode cX12_page 80 = .ok (.aload_n 0, 1) := by decide +kernel
theorem dX12_page_81 : decode cX12_page 81 = .ok (.iload_n 1, 1) := by decide +kernel
theorem dX12_page_82 : decode cX12_page 82 = .ok (.invokevirtual 344, 3) := by decide +kernel
theorem dX12_page_85 : decode cX12_page 85 = .ok (.goto 8, 3) := by decide +kernel
theorem dX12_page_88 : decode cX12_page 88 = .ok (.aload_n 0, 1) := by decide +kernel
theorem dX12_page_89 : decode cX12_page 89 = .ok (.iload_n 1, 1) := by decide +kernel
theorem dX12_page_90 : decode cX12_page 90 = .ok (.invokevirtual 347, 3) := by decide +kernel
theorem dX12_page_93 : decode cX12_page 93 = .ok (.ireturn, 1) := by decide +kernel
theorem dX12_pricks_0 : decode cX12_pricks 0 = .ok (.aload_n 0, 1) := by decide +kernel
theorem dX12_pricks_1 : decode cX12_pricks 1 = .ok (.iconst 0, 1) := by decide +kernel
theorem dX12_pricks_2 : decode cX12_pricks 2 = .ok (.putfield 71, 3) := by decide +kernel
theorem dX12_pricks_5 : decode cX12_pricks 5 = .ok (.aload_n 0, 1) := by decide +kernel
theorem dX12_pricks_6 : decode cX12_pricks 6 = .ok (.iconst 0, 1) := by decide +kernel
theorem dX12_pricks_7 : decode cX12_pricks 7 = .ok (.putfield 74, 3) := by decide +kernel
theorem dX12_pricks_10 : decode cX12_pricks 10 = .ok (.aload_n 0, 1) := by decide +kernel
theorem dX12_pricks_11 : decode cX12_pricks 11 = .ok (.iload_n 1, 1) := by decide +kernel
theorem dX12_pricks_12 : decode cX12_pricks 12 = .ok (.invokevirtual 341, 3) := by decide +kernel
theorem dX12_pricks_15 : decode cX12_pricks 15 = .ok (.ifCond .eq 28, 3) := by decide +kernel
theorem dX12_pricks_18 : decode cX12_pricks 18 = .ok (.aload_n 0, 1) := by decide +kernel
theorem dX12_pricks_19 : decode cX12_pricks 19 = .ok (.iload_n 2, 1) := by decide +kernel
theorem dX12_pricks_20 : decode cX12_pricks 20 = .ok (.invokevirtual 338, 3) := by decide +kernel
theorem dX12_pricks_23 : decode cX12_pricks 23 = .ok (.ifCond .eq 20, 3) := by decide +kernel
theorem dX12_pricks_26 : decode cX12_pricks 26 = .ok (.aload_n 0, 1) := by decide +kernel
theorem dX12_pricks_27 : decode cX12_pricks 27 = .ok (.getfield 35, 3) := by decide +kernel
theorem dX12_pricks_30 : decode cX12_pricks 30 = .ok (.bipush 75, 2) := by decide +kernel
theorem dX12_pricks_32 : decode cX12_pricks 32 = .ok (.bipush 6, 2) := by decide +kernel
theorem dX12_pricks_34 : decode cX12_pricks 34 = .ok (.iload_n 1, 1) := by decide +kernel
theorem dX12_pricks_35 : decode cX12_pricks 35 = .ok (.imul, 1) := by decide +kernel
theorem dX12_pricks_36 : decode cX12_pricks 36 = .ok (.iadd, 1) := by decide +kernel
theorem dX12_pricks_37 : decode cX12_pricks 37 = .ok (.iload_n 2, 1) := by decide +kernel
theorem dX12_pricks_38 : decode cX12_pricks 38 = .ok (.iadd, 1) := by decide +kernel
theorem dX12_pricks_39 : decode cX12_pricks 39 = .ok (.iaload, 1) := by decide +kernel
theorem dX12_pricks_40 : decode cX12_pricks 40 = .ok (.goto 8, 3) := by decide +kernel
theorem dX12_pricks_43 : decode cX12_pricks 43 = .ok (.aload_n 0, 1) := by decide +kernel
theorem dX12_pricks_44 : decode cX12_pricks 44 = .ok (.iconst 2, 1) := by decide +kernel
theorem dX12_pricks_45 : decode cX12_pricks 45 = .ok (.invokevirtual 324, 3) := by decide +kernel
theorem dX12_pricks_48 : decode cX12_pricks 48 = .ok (.ireturn, 1) := by decide +kernel
theorem dX12_orderAt_0 : decode cX12_orderAt 0 = .ok (.aload_n 0, 1) := by decide +kernel
theorem dX12_orderAt_1 : decode cX12_orderAt 1 = .ok (.iconst 0, 1) := by decide +kernel
theorem dX12_orderAt_2 : decode cX12_orderAt 2 = .ok (.putfield 71, 3) := by decide +kernel
theorem dX12_orderAt_5 : decode cX12_orderAt 5 = .ok (.aload_n 0, 1) := by decide +kernel
theorem dX12_orderAt_6 : decode cX12_orderAt 6 = .ok (.iconst 0, 1) := by decide +kernel
theorem dX12_orderAt_7 : decode cX12_orderAt 7 = .ok (.putfield 74, 3) := by decide +kernel
theorem dX12_orderAt_10 : decode cX12_orderAt 10 = .ok (.iload_n 1, 1) := by decide +kernel
theorem dX12_orderAt_11 : decode cX12_orderAt 11 = .ok (.i2l, 1) := by decide +kernel
theorem dX12_orderAt_12 : decode cX12_orderAt 12 = .ok (.lconst 0, 1) := by decide +kernel
theorem dX12_orderAt_13 : decode cX12_orderAt 13 = .ok (.aload_n 0, 1) := by decide +kernel
theorem dX12_orderAt_14 : decode cX12_orderAt 14 = .ok (.getfield 35, 3) := by decide +kernel
theorem dX12_orderAt_17 : decode cX12_orderAt 17 = .ok (.iconst 3, 1) := by decide +kernel
theorem dX12_orderAt_18 : decode cX12_orderAt 18 = .ok (.iaload, 1) := by decide +kernel
theorem dX12_orderAt_19 : decode cX12_orderAt 19 = .ok (.iconst 1, 1) := by decide +kernel
theorem dX12_orderAt_20 : decode cX12_orderAt 20 = .ok (.isub, 1) := by decide +kernel
theorem dX12_orderAt_21 : decode cX12_orderAt 21 = .ok (.i2l, 1) := by decide +kernel
theorem dX12_orderAt_22 : decode cX12_orderAt 22 = .ok (.invokestatic 106, 3) := by decide +kernel
theorem dX12_orderAt_25 : decode cX12_orderAt 25 = .ok (.ifCond .eq 15, 3) := by decide +kernel
theorem dX12_orderAt_28 : decode cX12_orderAt 28 = .ok (.aload_n 0, 1) := by decide +kernel
theorem dX12_orderAt_29 : decode cX12_orderAt 29 = .ok (.getfield 35, 3) := by decide +kernel
theorem dX12_orderAt_32 : decode cX12_orderAt 32 = .ok (.bipush 67, 2) := by decide +kernel
theorem dX12_orderAt_34 : decode cX12_orderAt 34 = .ok (.iload_n 1, 1) := by decide +kernel
theorem dX12_orderAt_35 : decode cX12_orderAt 35 = .ok (.iadd, 1) := by decide +kernel
theorem dX12_orderAt_36 : decode cX12_orderAt 36 = .ok (.iaload, 1) := by decide +kernel
theorem dX12_orderAt_37 : decode cX12_orderAt 37 = .ok (.goto 9, 3) := by decide +kernel
theorem dX12_orderAt_40 : decode cX12_orderAt 40 = .ok (.aload_n 0, 1) := by decide +kernel
theorem dX12_orderAt_41 : decode cX12_orderAt 41 = .ok (.bipush 8, 2) := by decide +kernel
theorem dX12_orderAt_43 : decode cX12_orderAt 43 = .ok (.invokevirtual 324, 3) := by decide +kernel
theorem dX12_orderAt_46 : decode cX12_orderAt 46 = .ok (.ireturn, 1) := by decide +kernel
theorem dX12_nextPlace_0 : decode cX12_nextPlace 0 = .ok (.iconst 0, 1) := by decide +kernel
theorem dX12_nextPlace_1 : decode cX12_nextPlace 1 = .ok (.istore_n 1, 1) := by decide +kernel
theorem dX12_nextPlace_2 : decode cX12_nextPlace 2 = .ok (.iload_n 1, 1) := by decide +kernel
theorem dX12_nextPlace_3 : decode cX12_nextPlace 3 = .ok (.aload_n 0, 1) := by decide +kernel
theorem dX12_nextPlace_4 : decode cX12_nextPlace 4 = .ok (.getfield 35, 3) := by decide +kernel
theorem dX12_nextPlace_7 : decode cX12_nextPlace 7 = .ok (.iconst 3, 1) := by decide +kernel
theorem dX12_nextPlace_8 : decode cX12_nextPlace 8 = .ok (.iaload, 1) := by decide +kernel
theorem dX12_nextPlace_9 : decode cX12_nextPlace 9 = .ok (.if_icmp .ge 50, 3) := by decide +kernel
theorem dX12_nextPlace_12 : decode cX12_nextPlace 12 = .ok (.aload_n 0, 1) := by decide +kernel
theorem dX12_nextPlace_13 : decode cX12_nextPlace 13 = .ok (.getfield 35, 3) := by decide +kernel
theorem dX12_nextPlace_16 : decode cX12_nextPlace 16 = .ok (.bipush 8, 2) := by decide +kernel
theorem dX12_nextPlace_18 : decode cX12_nextPlace 18 = .ok (.iaload, 1) := by decide +kernel
theorem dX12_nextPlace_19 : decode cX12_nextPlace 19 = .ok (.iload_n 1, 1) := by decide +kernel
theorem dX12_nextPlace_20 : decode cX12_nextPlace 20 = .ok (.iadd, 1) := by decide +kernel
theorem dX12_nextPlace_21 : decode cX12_nextPlace 21 = .ok (.aload_n 0, 1) := by decide +kernel
theorem dX12_nextPlace_22 : decode cX12_nextPlace 22 = .ok (.getfield 35, 3) := by decide +kernel
theorem dX12_nextPlace_25 : decode cX12_nextPlace 25 = .ok (.iconst 3, 1) := by decide +kernel
theorem dX12_nextPlace_26 : decode cX12_nextPlace 26 = .ok (.iaload, 1) := by decide +kernel
theorem dX12_nextPlace_27 : decode cX12_nextPlace 27 = .ok (.irem, 1) := by decide +kernel
theorem dX12_nextPlace_28 : decode cX12_nextPlace 28 = .ok (.istore_n 2, 1) := by decide +kernel
theorem dX12_nextPlace_29 : decode cX12_nextPlace 29 = .ok (.aload_n 0, 1) := by decide +kernel
theorem dX12_nextPlace_30 : decode cX12_nextPlace 30 = .ok (.getfield 35, 3) := by decide +kernel
theorem dX12_nextPlace_33 : decode cX12_nextPlace 33 = .ok (.bipush 6, 2) := by decide +kernel
theorem dX12_nextPlace_35 : decode cX12_nextPlace 35 = .ok (.iaload, 1) := by decide +kernel
theorem dX12_nextPlace_36 : decode cX12_nextPlace 36 = .ok (.aload_n 0, 1) := by decide +kernel
theorem dX12_nextPlace_37 : decode cX12_nextPlace 37 = .ok (.getfield 35, 3) := by decide +kernel
theorem dX12_nextPlace_40 : decode cX12_nextPlace 40 = .ok (.bipush 67, 2) := by decide +kernel
theorem dX12_nextPlace_42 : decode cX12_nextPlace 42 = .ok (.iload_n 2, 1) := by decide +kernel
theorem dX12_nextPlace_43 : decode cX12_nextPlace 43 = .ok (.iadd, 1) := by decide +kernel
theorem dX12_nextPlace_44 : decode cX12_nextPlace 44 = .ok (.iaload, 1) := by decide +kernel
theorem dX12_nextPlace_45 : decode cX12_nextPlace 45 = .ok (.invokestatic 110, 3) := by decide +kernel
theorem dX12_nextPlace_48 : decode cX12_nextPlace 48 = .ok (.ifCond .ne 5, 3) := by decide +kernel
theorem dX12_nextPlace_51 : decode cX12_nextPlace 51 = .ok (.iload_n 2, 1) := by decide +kernel
theorem dX12_nextPlace_52 : decode cX12_nextPlace 52 = .ok (.ireturn, 1) := by decide +kernel
theorem dX12_nextPlace_53 : decode cX12_nextPlace 53 = .ok (.iinc 1 1, 3) := by decide +kernel
theorem dX12_nextPlace_56 : decode cX12_nextPlace 56 = .ok (.goto (-54), 3) := by decide +kernel
theorem dX12_nextPlace_59 : decode cX12_nextPlace 59 = .ok (.iconst (-1), 1) := by decide +kernel
theorem dX12_nextPlace_60 : decode cX12_nextPlace 60 = .ok (.ireturn, 1) := by decide +kernel
theorem dX12_next_0 : decode cX12_next 0 = .ok (.aload_n 0, 1) := by decide +kernel
theorem dX12_next_1 : decode cX12_next 1 = .ok (.iconst 0, 1) := by decide +kernel
theorem dX12_next_2 : decode cX12_next 2 = .ok (.putfield 71, 3) := by decide +kernel
theorem dX12_next_5 : decode cX12_next 5 = .ok (.aload_n 0, 1) := by decide +kernel
theorem dX12_next_6 : decode cX12_next 6 = .ok (.iconst 0, 1) := by decide +kernel
theorem dX12_next_7 : decode cX12_next 7 = .ok (.putfield 74, 3) := by decide +kernel
theorem dX12_next_10 : decode cX12_next 10 = .ok (.aload_n 0, 1) := by decide +kernel
theorem dX12_next_11 : decode cX12_next 11 = .ok (.invokevirtual 350, 3) := by decide +kernel
theorem dX12_next_14 : decode cX12_next 14 = .ok (.istore_n 1, 1) := by decide +kernel
theorem dX12_next_15 : decode cX12_next 15 = .ok (.iload_n 1, 1) := by decide +kernel
theorem dX12_next_16 : decode cX12_next 16 = .ok (.ifCond .ge 12, 3) := by decide +kernel
theorem dX12_next_19 : decode cX12_next 19 = .ok (.aload_n 0, 1) := by decide +kernel
theorem dX12_next_20 : decode cX12_next 20 = .ok (.bipush 8, 2) := by decide +kernel
theorem dX12_next_22 : decode cX12_next 22 = .ok (.invokevirtual 324, 3) := by decide +kernel
theorem dX12_next_25 : decode cX12_next 25 = .ok (.goto 12, 3) := by decide +kernel
theorem dX12_next_28 : decode cX12_next 28 = .ok (.aload_n 0, 1) := by decide +kernel
theorem dX12_next_29 : decode cX12_next 29 = .ok (.getfield 35, 3) := by decide +kernel
theorem dX12_next_32 : decode cX12_next 32 = .ok (.bipush 67, 2) := by decide +kernel
theorem dX12_next_34 : decode cX12_next 34 = .ok (.iload_n 1, 1) := by decide +kernel
theorem dX12_next_35 : decode cX12_next 35 = .ok (.iadd, 1) := by decide +kernel
theorem dX12_next_36 : decode cX12_next 36 = .ok (.iaload, 1) := by decide +kernel
theorem dX12_next_37 : decode cX12_next 37 = .ok (.ireturn, 1) := by decide +kernel
theorem dX12_knowers_0 : decode cX12_knowers 0 = .ok (.aload_n 0, 1) := by decide +kernel
theorem dX12_knowers_1 : decode cX12_knowers 1 = .ok (.iconst 0, 1) := by decide +kernel
theorem dX12_knowers_2 : decode cX12_knowers 2 = .ok (.putfield 71, 3) := by decide +kernel
theorem dX12_knowers_5 : decode cX12_knowers 5 = .ok (.aload_n 0, 1) := by decide +kernel
theorem dX12_knowers_6 : decode cX12_knowers 6 = .ok (.iconst 0, 1) := by decide +kernel
theorem dX12_knowers_7 : decode cX12_knowers 7 = .ok (.putfield 74, 3) := by decide +kernel
theorem dX12_knowers_10 : decode cX12_knowers 10 = .ok (.aload_n 0, 1) := by decide +kernel
theorem dX12_knowers_11 : decode cX12_knowers 11 = .ok (.iload_n 1, 1) := by decide +kernel
theorem dX12_knowers_12 : decode cX12_knowers 12 = .ok (.invokevirtual 338, 3) := by decide +kernel
theorem dX12_knowers_15 : decode cX12_knowers 15 = .ok (.ifCond .ne 9, 3) := by decide +kernel
theorem dX12_knowers_18 : decode cX12_knowers 18 = .ok (.aload_n 0, 1) := by decide +kernel
theorem dX12_knowers_19 : decode cX12_knowers 19 = .ok (.iconst 2, 1) := by decide +kernel
theorem dX12_knowers_20 : decode cX12_knowers 20 = .ok (.invokevirtual 324, 3) := by decide +kernel
theorem dX12_knowers_23 : decode cX12_knowers 23 = .ok (.ireturn, 1) := by decide +kernel
theorem dX12_knowers_24 : decode cX12_knowers 24 = .ok (.iconst 0, 1) := by decide +kernel
theorem dX12_knowers_25 : decode cX12_knowers 25 = .ok (.istore_n 2, 1) := by decide +kernel
theorem dX12_knowers_26 : decode cX12_knowers 26 = .ok (.iconst 0, 1) := by decide +kernel
theorem dX12_knowers_27 : decode cX12_knowers 27 = .ok (.istore_n 3, 1) := by decide +kernel
theorem dX12_knowers_28 : decode cX12_knowers 28 = .ok (.iload_n 3, 1) := by decide +kernel
theorem dX12_knowers_29 : decode cX12_knowers 29 = .ok (.aload_n 0, 1) := by decide +kernel
theorem dX12_knowers_30 : decode cX12_knowers 30 = .ok (.getfield 35, 3) := by decide +kernel
theorem dX12_knowers_33 : decode cX12_knowers 33 = .ok (.iconst 0, 1) := by decide +kernel
theorem dX12_knowers_34 : decode cX12_knowers 34 = .ok (.iaload, 1) := by decide +kernel
theorem dX12_knowers_35 : decode cX12_knowers 35 = .ok (.if_icmp .ge 35, 3) := by decide +kernel
theorem dX12_knowers_38 : decode cX12_knowers 38 = .ok (.iload_n 2, 1) := by decide +kernel
theorem dX12_knowers_39 : decode cX12_knowers 39 = .ok (.aload_n 0, 1) := by decide +kernel
theorem dX12_knowers_40 : decode cX12_knowers 40 = .ok (.getfield 35, 3) := by decide +kernel
theorem dX12_knowers_43 : decode cX12_knowers 43 = .ok (.bipush 33, 2) := by decide +kernel
theorem dX12_knowers_45 : decode cX12_knowers 45 = .ok (.iload_n 3, 1) := by decide +kernel
theorem dX12_knowers_46 : decode cX12_knowers 46 = .ok (.iadd, 1) := by decide +kernel
theorem dX12_knowers_47 : decode cX12_knowers 47 = .ok (.iaload, 1) := by decide +kernel
theorem dX12_knowers_48 : decode cX12_knowers 48 = .ok (.iload_n 1, 1) := by decide +kernel
theorem dX12_knowers_49 : decode cX12_knowers 49 = .ok (.invokestatic 110, 3) := by decide +kernel
theorem dX12_knowers_52 : decode cX12_knowers 52 = .ok (.ifCond .eq 9, 3) := by decide +kernel
theorem dX12_knowers_55 : decode cX12_knowers 55 = .ok (.iconst 1, 1) := by decide +kernel
theorem dX12_knowers_56 : decode cX12_knowers 56 = .ok (.iload_n 3, 1) := by decide +kernel
theorem dX12_knowers_57 : decode cX12_knowers 57 = .ok (.ishl, 1) := by decide +kernel
theorem dX12_knowers_58 : decode cX12_knowers 58 = .ok (.goto 4, 3) := by decide +kernel
theorem dX12_knowers_61 : decode cX12_knowers 61 = .ok (.iconst 0, 1) := by decide +kernel
theorem dX12_knowers_62 : decode cX12_knowers 62 = .ok (.ior, 1) := by decide +kernel
theorem dX12_knowers_63 : decode cX12_knowers 63 = .ok (.istore_n 2, 1) := by decide +kernel
theorem dX12_knowers_64 : decode cX12_knowers 64 = .ok (.iinc 3 1, 3) := by decide +kernel
theorem dX12_knowers_67 : decode cX12_knowers 67 = .ok (.goto (-39), 3) := by decide +kernel
theorem dX12_knowers_70 : decode cX12_knowers 70 = .ok (.iload_n 2, 1) := by decide +kernel
theorem dX12_knowers_71 : decode cX12_knowers 71 = .ok (.ireturn, 1) := by decide +kernel
theorem dX12_copyPage_0 : decode cX12_copyPage 0 = .ok (.aload_n 0, 1) := by decide +kernel
theorem dX12_copyPage_1 : decode cX12_copyPage 1 = .ok (.iconst 0, 1) := by decide +kernel
theorem dX12_copyPage_2 : decode cX12_copyPage 2 = .ok (.putfield 71, 3) := by decide +kernel
theorem dX12_copyPage_5 : decode cX12_copyPage 5 = .ok (.aload_n 0, 1) := by decide +kernel
theorem dX12_copyPage_6 : decode cX12_copyPage 6 = .ok (.iconst 0, 1) := by decide +kernel
theorem dX12_copyPage_7 : decode cX12_copyPage 7 = .ok (.putfield 74, 3) := by decide +kernel
theorem dX12_copyPage_10 : decode cX12_copyPage 10 = .ok (.aload_n 0, 1) := by decide +kernel
theorem dX12_copyPage_11 : decode cX12_copyPage 11 = .ok (.iload_n 2, 1) := by decide +kernel
theorem dX12_copyPage_12 : decode cX12_copyPage 12 = .ok (.invokevirtual 353, 3) := by decide +kernel
theorem dX12_copyPage_15 : decode cX12_copyPage 15 = .ok (.ifCond .ne 9, 3) := by decide +kernel
theorem dX12_copyPage_18 : decode cX12_copyPage 18 = .ok (.aload_n 0, 1) := by decide +kernel
theorem dX12_copyPage_19 : decode cX12_copyPage 19 = .ok (.iconst 1, 1) := by decide +kernel
theorem dX12_copyPage_20 : decode cX12_copyPage 20 = .ok (.invokevirtual 324, 3) := by decide +kernel
theorem dX12_copyPage_23 : decode cX12_copyPage 23 = .ok (.ireturn, 1) := by decide +kernel
theorem dX12_copyPage_24 : decode cX12_copyPage 24 = .ok (.aload_n 0, 1) := by decide +kernel
theorem dX12_copyPage_25 : decode cX12_copyPage 25 = .ok (.iload_n 1, 1) := by decide +kernel
theorem dX12_copyPage_26 : decode cX12_copyPage 26 = .ok (.invokevirtual 341, 3) := by decide +kernel
theorem dX12_copyPage_29 : decode cX12_copyPage 29 = .ok (.ifCond .ne 9, 3) := by decide +kernel
theorem dX12_copyPage_32 : decode cX12_copyPage 32 = .ok (.aload_n 0, 1) := by decide +kernel
theorem dX12_copyPage_33 : decode cX12_copyPage 33 = .ok (.iconst 2, 1) := by decide +kernel
theorem dX12_copyPage_34 : decode cX12_copyPage 34 = .ok (.invokevirtual 324, 3) := by decide +kernel
theorem dX12_copyPage_37 : decode cX12_copyPage 37 = .ok (.ireturn, 1) := by decide +kernel
theorem dX12_copyPage_38 : decode cX12_copyPage 38 = .ok (.aload_n 0, 1) := by decide +kernel
theorem dX12_copyPage_39 : decode cX12_copyPage 39 = .ok (.getfield 17, 3) := by decide +kernel
theorem dX12_copyPage_42 : decode cX12_copyPage 42 = .ok (.iload_n 2, 1) := by decide +kernel
theorem dX12_copyPage_43 : decode cX12_copyPage 43 = .ok (.iaload, 1) := by decide +kernel
theorem dX12_copyPage_44 : decode cX12_copyPage 44 = .ok (.ifCond .ge 9, 3) := by decide +kernel
theorem dX12_copyPage_47 : decode cX12_copyPage 47 = .ok (.aload_n 0, 1) := by decide +kernel
theorem dX12_copyPage_48 : decode cX12_copyPage 48 = .ok (.iconst 3, 1) := by decide +kernel
theorem dX12_copyPage_49 : decode cX12_copyPage 49 = .ok (.invokevirtual 324, 3) := by decide +kernel
theorem dX12_copyPage_52 : decode cX12_copyPage 52 = .ok (.ireturn, 1) := by decide +kernel
theorem dX12_copyPage_53 : decode cX12_copyPage 53 = .ok (.aload_n 0, 1) := by decide +kernel
theorem dX12_copyPage_54 : decode cX12_copyPage 54 = .ok (.getfield 17, 3) := by decide +kernel
theorem dX12_copyPage_57 : decode cX12_copyPage 57 = .ok (.iload_n 2, 1) := by decide +kernel
theorem dX12_copyPage_58 : decode cX12_copyPage 58 = .ok (.iaload, 1) := by decide +kernel
theorem dX12_copyPage_59 : decode cX12_copyPage 59 = .ok (.aload_n 0, 1) := by decide +kernel
theorem dX12_copyPage_60 : decode cX12_copyPage 60 = .ok (.getfield 35, 3) := by decide +kernel
theorem dX12_copyPage_63 : decode cX12_copyPage 63 = .ok (.iconst 1, 1) := by decide +kernel
theorem dX12_copyPage_64 : decode cX12_copyPage 64 = .ok (.iaload, 1) := by decide +kernel
theorem dX12_copyPage_65 : decode cX12_copyPage 65 = .ok (.if_icmp .ge 9, 3) := by decide +kernel
theorem dX12_copyPage_68 : decode cX12_copyPage 68 = .ok (.aload_n 0, 1) := by decide +kernel
theorem dX12_copyPage_69 : decode cX12_copyPage 69 = .ok (.iconst 4, 1) := by decide +kernel
theorem dX12_copyPage_70 : decode cX12_copyPage 70 = .ok (.invokevirtual 324, 3) := by decide +kernel
theorem dX12_copyPage_73 : decode cX12_copyPage 73 = .ok (.ireturn, 1) := by decide +kernel
theorem dX12_copyPage_74 : decode cX12_copyPage 74 = .ok (.iconst 0, 1) := by decide +kernel
theorem dX12_copyPage_75 : decode cX12_copyPage 75 = .ok (.istore_n 3, 1) := by decide +kernel
theorem dX12_copyPage_76 : decode cX12_copyPage 76 = .ok (.iload_n 3, 1) := by decide +kernel
theorem dX12_copyPage_77 : decode cX12_copyPage 77 = .ok (.aload_n 0, 1) := by decide +kernel
theorem dX12_copyPage_78 : decode cX12_copyPage 78 = .ok (.getfield 35, 3) := by decide +kernel
theorem dX12_copyPage_81 : decode cX12_copyPage 81 = .ok (.iconst 1, 1) := by decide +kernel
theorem dX12_copyPage_82 : decode cX12_copyPage 82 = .ok (.iaload, 1) := by decide +kernel
theorem dX12_copyPage_83 : decode cX12_copyPage 83 = .ok (.if_icmp .ge 35, 3) := by decide +kernel
theorem dX12_copyPage_86 : decode cX12_copyPage 86 = .ok (.aload_n 0, 1) := by decide +kernel
theorem dX12_copyPage_87 : decode cX12_copyPage 87 = .ok (.getfield 20, 3) := by decide +kernel
theorem dX12_copyPage_90 : decode cX12_copyPage 90 = .ok (.bipush 60, 2) := by decide +kernel
theorem dX12_copyPage_92 : decode cX12_copyPage 92 = .ok (.iload_n 2, 1) := by decide +kernel
theorem dX12_copyPage_93 : decode cX12_copyPage 93 = .ok (.imul, 1) := by decide +kernel
theorem dX12_copyPage_94 : decode cX12_copyPage 94 = .ok (.iload_n 3, 1) := by decide +kernel
theorem dX12_copyPage_95 : decode cX12_copyPage 95 = .ok (.iadd, 1) := by decide +kernel
theorem dX12_copyPage_96 : decode cX12_copyPage 96 = .ok (.aload_n 0, 1) := by decide +kernel
theorem dX12_copyPage_97 : decode cX12_copyPage 97 = .ok (.getfield 35, 3) := by decide +kernel
theorem dX12_copyPage_100 : decode cX12_copyPage 100 = .ok (.bipush 75, 2) := by decide +kernel
theorem dX12_copyPage_102 : decode cX12_copyPage 102 = .ok (.bipush 6, 2) := by decide +kernel
theorem dX12_copyPage_104 : decode cX12_copyPage 104 = .ok (.iload_n 1, 1) := by decide +kernel
theorem dX12_copyPage_105 : decode cX12_copyPage 105 = .ok (.imul, 1) := by decide +kernel
theorem dX12_copyPage_106 : decode cX12_copyPage 106 = .ok (.iadd, 1) := by decide +kernel
theorem dX12_copyPage_107 : decode cX12_copyPage 107 = .ok (.iload_n 3, 1) := by decide +kernel
theorem dX12_copyPage_108 : decode cX12_copyPage 108 = .ok (.iadd, 1) := by decide +kernel
theorem dX12_copyPage_109 : decode cX12_copyPage 109 = .ok (.iaload, 1) := by decide +kernel
theorem dX12_copyPage_110 : decode cX12_copyPage 110 = .ok (.i2l, 1) := by decide +kernel
theorem dX12_copyPage_111 : decode cX12_copyPage 111 = .ok (.lastore, 1) := by decide +kernel
theorem dX12_copyPage_112 : decode cX12_copyPage 112 = .ok (.iinc 3 1, 3) := by decide +kernel
theorem dX12_copyPage_115 : decode cX12_copyPage 115 = .ok (.goto (-39), 3) := by decide +kernel
theorem dX12_copyPage_118 : decode cX12_copyPage 118 = .ok (.aload_n 0, 1) := by decide +kernel
theorem dX12_copyPage_119 : decode cX12_copyPage 119 = .ok (.getfield 35, 3) := by decide +kernel
theorem dX12_copyPage_122 : decode cX12_copyPage 122 = .ok (.iconst 1, 1) := by decide +kernel
theorem dX12_copyPage_123 : decode cX12_copyPage 123 = .ok (.iaload, 1) := by decide +kernel
theorem dX12_copyPage_124 : decode cX12_copyPage 124 = .ok (.ireturn, 1) := by decide +kernel
theorem dX12_standingOpen_0 : decode cX12_standingOpen 0 = .ok (.iconst 0, 1) := by decide +kernel
theorem dX12_standingOpen_1 : decode cX12_standingOpen 1 = .ok (.istore_n 1, 1) := by decide +kernel
theorem dX12_standingOpen_2 : decode cX12_standingOpen 2 = .ok (.iconst 0, 1) := by decide +kernel
theorem dX12_standingOpen_3 : decode cX12_standingOpen 3 = .ok (.istore_n 2, 1) := by decide +kernel
theorem dX12_standingOpen_4 : decode cX12_standingOpen 4 = .ok (.iload_n 2, 1) := by decide +kernel
theorem dX12_standingOpen_5 : decode cX12_standingOpen 5 = .ok (.aload_n 0, 1) := by decide +kernel
theorem dX12_standingOpen_6 : decode cX12_standingOpen 6 = .ok (.getfield 35, 3) := by decide +kernel
theorem dX12_standingOpen_9 : decode cX12_standingOpen 9 = .ok (.iconst 2, 1) := by decide +kernel
theorem dX12_standingOpen_10 : decode cX12_standingOpen 10 = .ok (.iaload, 1) := by decide +kernel
theorem dX12_standingOpen_11 : decode cX12_standingOpen 11 = .ok (.if_icmp .ge 29, 3) := by decide +kernel
theorem dX12_standingOpen_14 : decode cX12_standingOpen 14 = .ok (.iload_n 1, 1) := by decide +kernel
theorem dX12_standingOpen_15 : decode cX12_standingOpen 15 = .ok (.aload_n 0, 1) := by decide +kernel
theorem dX12_standingOpen_16 : decode cX12_standingOpen 16 = .ok (.iload_n 2, 1) := by decide +kernel
theorem dX12_standingOpen_17 : decode cX12_standingOpen 17 = .ok (.invokevirtual 356, 3) := by decide +kernel
theorem dX12_standingOpen_20 : decode cX12_standingOpen 20 = .ok (.ifCond .eq 7, 3) := by decide +kernel
theorem dX12_standingOpen_23 : decode cX12_standingOpen 23 = .ok (.iconst 0, 1) := by decide +kernel
theorem dX12_standingOpen_24 : decode cX12_standingOpen 24 = .ok (.goto 8, 3) := by decide +kernel
theorem dX12_standingOpen_27 : decode cX12_standingOpen 27 = .ok (.aload_n 0, 1) := by decide +kernel
theorem dX12_standingOpen_28 : decode cX12_standingOpen 28 = .ok (.iload_n 2, 1) := by decide +kernel
theorem dX12_standingOpen_29 : decode cX12_standingOpen 29 = .ok (.invokevirtual 347, 3) := by decide +kernel
theorem dX12_standingOpen_32 : decode cX12_standingOpen 32 = .ok (.ior, 1) := by decide +kernel
theorem dX12_standingOpen_33 : decode cX12_standingOpen 33 = .ok (.istore_n 1, 1) := by decide +kernel
theorem dX12_standingOpen_34 : decode cX12_standingOpen 34 = .ok (.iinc 2 1, 3) := by decide +kernel
theorem dX12_standingOpen_37 : decode cX12_standingOpen 37 = .ok (.goto (-33), 3) := by decide +kernel
theorem dX12_standingOpen_40 : decode cX12_standingOpen 40 = .ok (.iload_n 1, 1) := by decide +kernel
theorem dX12_standingOpen_41 : decode cX12_standingOpen 41 = .ok (.ireturn, 1) := by decide +kernel
theorem dX12_rubsOne_0 : decode cX12_rubsOne 0 = .ok (.iconst 0, 1) := by decide +kernel
theorem dX12_rubsOne_1 : decode cX12_rubsOne 1 = .ok (.istore_n 2, 1) := by decide +kernel
theorem dX12_rubsOne_2 : decode cX12_rubsOne 2 = .ok (.iload_n 2, 1) := by decide +kernel
theorem dX12_rubsOne_3 : decode cX12_rubsOne 3 = .ok (.aload_n 0, 1) := by decide +kernel
theorem dX12_rubsOne_4 : decode cX12_rubsOne 4 = .ok (.getfield 35, 3) := by decide +kernel
theorem dX12_rubsOne_7 : decode cX12_rubsOne 7 = .ok (.iconst 2, 1) := by decide +kernel
theorem dX12_rubsOne_8 : decode cX12_rubsOne 8 = .ok (.iaload, 1) := by decide +kernel
theorem dX12_rubsOne_9 : decode cX12_rubsOne 9 = .ok (.if_icmp .ge 72, 3) := by decide +kernel
theorem dX12_rubsOne_12 : decode cX12_rubsOne 12 = .ok (.aload_n 0, 1) := by decide +kernel
theorem dX12_rubsOne_13 : decode cX12_rubsOne 13 = .ok (.iload_n 2, 1) := by decide +kernel
theorem dX12_rubsOne_14 : decode cX12_rubsOne 14 = .ok (.invokevirtual 356, 3) := by decide +kernel
theorem dX12_rubsOne_17 : decode cX12_rubsOne 17 = .ok (.ifCond .ne 58, 3) := by decide +kernel
theorem dX12_rubsOne_20 : decode cX12_rubsOne 20 = .ok (.aload_n 0, 1) := by decide +kernel
theorem dX12_rubsOne_21 : decode cX12_rubsOne 21 = .ok (.iload_n 2, 1) := by decide +kernel
theorem dX12_rubsOne_22 : decode cX12_rubsOne 22 = .ok (.invokevirtual 347, 3) := by decide +kernel
theorem dX12_rubsOne_25 : decode cX12_rubsOne 25 = .ok (.iload_n 1, 1) := by decide +kernel
theorem dX12_rubsOne_26 : decode cX12_rubsOne 26 = .ok (.iconst (-1), 1) := by decide +kernel
theorem dX12_rubsOne_27 : decode cX12_rubsOne 27 = .ok (.ixor, 1) := by decide +kernel
theorem dX12_rubsOne_28 : decode cX12_rubsOne 28 = .ok (.iand, 1) := by decide +kernel
theorem dX12_rubsOne_29 : decode cX12_rubsOne 29 = .ok (.ifCond .ne 6, 3) := by decide +kernel
theorem dX12_rubsOne_32 : decode cX12_rubsOne 32 = .ok (.goto 43, 3) := by decide +kernel
theorem dX12_rubsOne_35 : decode cX12_rubsOne 35 = .ok (.iconst 0, 1) := by decide +kernel
theorem dX12_rubsOne_36 : decode cX12_rubsOne 36 = .ok (.istore_n 3, 1) := by decide +kernel
theorem dX12_rubsOne_37 : decode cX12_rubsOne 37 = .ok (.aload_n 0, 1) := by decide +kernel
theorem dX12_rubsOne_38 : decode cX12_rubsOne 38 = .ok (.iload_n 2, 1) := by decide +kernel
theorem dX12_rubsOne_39 : decode cX12_rubsOne 39 = .ok (.invokevirtual 347, 3) := by decide +kernel
theorem dX12_rubsOne_42 : decode cX12_rubsOne 42 = .ok (.iload_n 1, 1) := by decide +kernel
theorem dX12_rubsOne_43 : decode cX12_rubsOne 43 = .ok (.iconst (-1), 1) := by decide +kernel
theorem dX12_rubsOne_44 : decode cX12_rubsOne 44 = .ok (.ixor, 1) := by decide +kernel
theorem dX12_rubsOne_45 : decode cX12_rubsOne 45 = .ok (.iand, 1) := by decide +kernel
theorem dX12_rubsOne_46 : decode cX12_rubsOne 46 = .ok (.iload_n 3, 1) := by decide +kernel
theorem dX12_rubsOne_47 : decode cX12_rubsOne 47 = .ok (.invokestatic 110, 3) := by decide +kernel
theorem dX12_rubsOne_50 : decode cX12_rubsOne 50 = .ok (.ifCond .ne 9, 3) := by decide +kernel
theorem dX12_rubsOne_53 : decode cX12_rubsOne 53 = .ok (.iinc 3 1, 3) := by decide +kernel
theorem dX12_rubsOne_56 : decode cX12_rubsOne 56 = .ok (.goto (-19), 3) := by decide +kernel
theorem dX12_rubsOne_59 : decode cX12_rubsOne 59 = .ok (.aload_n 0, 1) := by decide +kernel
theorem dX12_rubsOne_60 : decode cX12_rubsOne 60 = .ok (.getfield 35, 3) := by decide +kernel
theorem dX12_rubsOne_63 : decode cX12_rubsOne 63 = .ok (.bipush 75, 2) := by decide +kernel
theorem dX12_rubsOne_65 : decode cX12_rubsOne 65 = .ok (.bipush 6, 2) := by decide +kernel
theorem dX12_rubsOne_67 : decode cX12_rubsOne 67 = .ok (.iload_n 2, 1) := by decide +kernel
theorem dX12_rubsOne_68 : decode cX12_rubsOne 68 = .ok (.imul, 1) := by decide +kernel
theorem dX12_rubsOne_69 : decode cX12_rubsOne 69 = .ok (.iadd, 1) := by decide +kernel
theorem dX12_rubsOne_70 : decode cX12_rubsOne 70 = .ok (.iload_n 3, 1) := by decide +kernel
theorem dX12_rubsOne_71 : decode cX12_rubsOne 71 = .ok (.iadd, 1) := by decide +kernel
theorem dX12_rubsOne_72 : decode cX12_rubsOne 72 = .ok (.iconst 0, 1) := by decide +kernel
theorem dX12_rubsOne_73 : decode cX12_rubsOne 73 = .ok (.iastore, 1) := by decide +kernel
theorem dX12_rubsOne_74 : decode cX12_rubsOne 74 = .ok (.return_, 1) := by decide +kernel
theorem dX12_rubsOne_75 : decode cX12_rubsOne 75 = .ok (.iinc 2 1, 3) := by decide +kernel
theorem dX12_rubsOne_78 : decode cX12_rubsOne 78 = .ok (.goto (-76), 3) := by decide +kernel
theorem dX12_rubsOne_81 : decode cX12_rubsOne 81 = .ok (.return_, 1) := by decide +kernel
theorem dX12_pageFor_0 : decode cX12_pageFor 0 = .ok (.iconst (-1), 1) := by decide +kernel
theorem dX12_pageFor_1 : decode cX12_pageFor 1 = .ok (.istore_n 2, 1) := by decide +kernel
theorem dX12_pageFor_2 : decode cX12_pageFor 2 = .ok (.iconst 0, 1) := by decide +kernel
theorem dX12_pageFor_3 : decode cX12_pageFor 3 = .ok (.istore_n 3, 1) := by decide +kernel
theorem dX12_pageFor_4 : decode cX12_pageFor 4 = .ok (.iload_n 3, 1) := by decide +kernel
theorem dX12_pageFor_5 : decode cX12_pageFor 5 = .ok (.aload_n 0, 1) := by decide +kernel
theorem dX12_pageFor_6 : decode cX12_pageFor 6 = .ok (.getfield 35, 3) := by decide +kernel
theorem dX12_pageFor_9 : decode cX12_pageFor 9 = .ok (.iconst 2, 1) := by decide +kernel
theorem dX12_pageFor_10 : decode cX12_pageFor 10 = .ok (.iaload, 1) := by decide +kernel
theorem dX12_pageFor_11 : decode cX12_pageFor 11 = .ok (.if_icmp .ge 65, 3) := by decide +kernel
theorem dX12_pageFor_14 : decode cX12_pageFor 14 = .ok (.aload_n 0, 1) := by decide +kernel
theorem dX12_pageFor_15 : decode cX12_pageFor 15 = .ok (.iload_n 3, 1) := by decide +kernel
theorem dX12_pageFor_16 : decode cX12_pageFor 16 = .ok (.invokevirtual 356, 3) := by decide +kernel
theorem dX12_pageFor_19 : decode cX12_pageFor 19 = .ok (.ifCond .ne 51, 3) := by decide +kernel
theorem dX12_pageFor_22 : decode cX12_pageFor 22 = .ok (.aload_n 0, 1) := by decide +kernel
theorem dX12_pageFor_23 : decode cX12_pageFor 23 = .ok (.iload_n 3, 1) := by decide +kernel
theorem dX12_pageFor_24 : decode cX12_pageFor 24 = .ok (.invokevirtual 344, 3) := by decide +kernel
theorem dX12_pageFor_27 : decode cX12_pageFor 27 = .ok (.ifCond .ne 6, 3) := by decide +kernel
theorem dX12_pageFor_30 : decode cX12_pageFor 30 = .ok (.goto 40, 3) := by decide +kernel
theorem dX12_pageFor_33 : decode cX12_pageFor 33 = .ok (.iload_n 2, 1) := by decide +kernel
theorem dX12_pageFor_34 : decode cX12_pageFor 34 = .ok (.ifCond .lt 34, 3) := by decide +kernel
theorem dX12_pageFor_37 : decode cX12_pageFor 37 = .ok (.aload_n 0, 1) := by decide +kernel
theorem dX12_pageFor_38 : decode cX12_pageFor 38 = .ok (.getfield 35, 3) := by decide +kernel
theorem dX12_pageFor_41 : decode cX12_pageFor 41 = .ok (.bipush 75, 2) := by decide +kernel
theorem dX12_pageFor_43 : decode cX12_pageFor 43 = .ok (.bipush 6, 2) := by decide +kernel
theorem dX12_pageFor_45 : decode cX12_pageFor 45 = .ok (.iload_n 3, 1) := by decide +kernel
theorem dX12_pageFor_46 : decode cX12_pageFor 46 = .ok (.imul, 1) := by decide +kernel
theorem dX12_pageFor_47 : decode cX12_pageFor 47 = .ok (.iadd, 1) := by decide +kernel
theorem dX12_pageFor_48 : decode cX12_pageFor 48 = .ok (.iload_n 1, 1) := by decide +kernel
theorem dX12_pageFor_49 : decode cX12_pageFor 49 = .ok (.iadd, 1) := by decide +kernel
theorem dX12_pageFor_50 : decode cX12_pageFor 50 = .ok (.iaload, 1) := by decide +kernel
theorem dX12_pageFor_51 : decode cX12_pageFor 51 = .ok (.aload_n 0, 1) := by decide +kernel
theorem dX12_pageFor_52 : decode cX12_pageFor 52 = .ok (.getfield 35, 3) := by decide +kernel
theorem dX12_pageFor_55 : decode cX12_pageFor 55 = .ok (.bipush 75, 2) := by decide +kernel
theorem dX12_pageFor_57 : decode cX12_pageFor 57 = .ok (.bipush 6, 2) := by decide +kernel
theorem dX12_pageFor_59 : decode cX12_pageFor 59 = .ok (.iload_n 2, 1) := by decide +kernel
theorem dX12_pageFor_60 : decode cX12_pageFor 60 = .ok (.imul, 1) := by decide +kernel
theorem dX12_pageFor_61 : decode cX12_pageFor 61 = .ok (.iadd, 1) := by decide +kernel
theorem dX12_pageFor_62 : decode cX12_pageFor 62 = .ok (.iload_n 1, 1) := by decide +kernel
theorem dX12_pageFor_63 : decode cX12_pageFor 63 = .ok (.iadd, 1) := by decide +kernel
theorem dX12_pageFor_64 : decode cX12_pageFor 64 = .ok (.iaload, 1) := by decide +kernel
theorem dX12_pageFor_65 : decode cX12_pageFor 65 = .ok (.if_icmp .le 5, 3) := by decide +kernel
theorem dX12_pageFor_68 : decode cX12_pageFor 68 = .ok (.iload_n 3, 1) := by decide +kernel
theorem dX12_pageFor_69 : decode cX12_pageFor 69 = .ok (.istore_n 2, 1) := by decide +kernel
theorem dX12_pageFor_70 : decode cX12_pageFor 70 = .ok (.iinc 3 1, 3) := by decide +kernel
theorem dX12_pageFor_73 : decode cX12_pageFor 73 = .ok (.goto (-69), 3) := by decide +kernel
theorem dX12_pageFor_76 : decode cX12_pageFor 76 = .ok (.iload_n 2, 1) := by decide +kernel
theorem dX12_pageFor_77 : decode cX12_pageFor 77 = .ok (.ireturn, 1) := by decide +kernel
theorem dX12_pricksAll_0 : decode cX12_pricksAll 0 = .ok (.aload_n 0, 1) := by decide +kernel
theorem dX12_pricksAll_1 : decode cX12_pricksAll 1 = .ok (.getfield 35, 3) := by decide +kernel
theorem dX12_pricksAll_4 : decode cX12_pricksAll 4 = .ok (.bipush 9, 2) := by decide +kernel
theorem dX12_pricksAll_6 : decode cX12_pricksAll 6 = .ok (.iload_n 1, 1) := by decide +kernel
theorem dX12_pricksAll_7 : decode cX12_pricksAll 7 = .ok (.iadd, 1) := by decide +kernel
theorem dX12_pricksAll_8 : decode cX12_pricksAll 8 = .ok (.iaload, 1) := by decide +kernel
theorem dX12_pricksAll_9 : decode cX12_pricksAll 9 = .ok (.istore_n 2, 1) := by decide +kernel
theorem dX12_pricksAll_10 : decode cX12_pricksAll 10 = .ok (.iconst 0, 1) := by decide +kernel
theorem dX12_pricksAll_11 : decode cX12_pricksAll 11 = .ok (.istore_n 3, 1) := by decide +kernel
theorem dX12_pricksAll_12 : decode cX12_pricksAll 12 = .ok (.iload_n 3, 1) := by decide +kernel
theorem dX12_pricksAll_13 : decode cX12_pricksAll 13 = .ok (.aload_n 0, 1) := by decide +kernel
theorem dX12_pricksAll_14 : decode cX12_pricksAll 14 = .ok (.getfield 35, 3) := by decide +kernel
theorem dX12_pricksAll_17 : decode cX12_pricksAll 17 = .ok (.iconst 1, 1) := by decide +kernel
theorem dX12_pricksAll_18 : decode cX12_pricksAll 18 = .ok (.iaload, 1) := by decide +kernel
theorem dX12_pricksAll_19 : decode cX12_pricksAll 19 = .ok (.if_icmp .ge 144, 3) := by decide +kernel
theorem dX12_pricksAll_22 : decode cX12_pricksAll 22 = .ok (.aload_n 0, 1) := by decide +kernel
theorem dX12_pricksAll_23 : decode cX12_pricksAll 23 = .ok (.getfield 35, 3) := by decide +kernel
theorem dX12_pricksAll_26 : decode cX12_pricksAll 26 = .ok (.bipush 33, 2) := by decide +kernel
theorem dX12_pricksAll_28 : decode cX12_pricksAll 28 = .ok (.iload_n 1, 1) := by decide +kernel
theorem dX12_pricksAll_29 : decode cX12_pricksAll 29 = .ok (.iadd, 1) := by decide +kernel
theorem dX12_pricksAll_30 : decode cX12_pricksAll 30 = .ok (.iaload, 1) := by decide +kernel
theorem dX12_pricksAll_31 : decode cX12_pricksAll 31 = .ok (.iload_n 3, 1) := by decide +kernel
theorem dX12_pricksAll_32 : decode cX12_pricksAll 32 = .ok (.invokestatic 110, 3) := by decide +kernel
theorem dX12_pricksAll_35 : decode cX12_pricksAll 35 = .ok (.ifCond .eq 122, 3) := by decide +kernel
theorem dX12_pricksAll_38 : decode cX12_pricksAll 38 = .ok (.aload_n 0, 1) := by decide +kernel
theorem dX12_pricksAll_39 : decode cX12_pricksAll 39 = .ok (.invokevirtual 359, 3) := by decide +kernel
theorem dX12_pricksAll_42 : decode cX12_pricksAll 42 = .ok (.iload_n 3, 1) := by decide +kernel
theorem dX12_pricksAll_43 : decode cX12_pricksAll 43 = .ok (.invokestatic 110, 3) := by decide +kernel
theorem dX12_pricksAll_46 : decode cX12_pricksAll 46 = .ok (.ifCond .eq 6, 3) := by decide +kernel
theorem dX12_pricksAll_49 : decode cX12_pricksAll 49 = .ok (.goto 108, 3) := by decide +kernel
theorem dX12_pricksAll_52 : decode cX12_pricksAll 52 = .ok (.aload_n 0, 1) := by decide +kernel
theorem dX12_pricksAll_53 : decode cX12_pricksAll 53 = .ok (.iload_n 3, 1) := by decide +kernel
theorem dX12_pricksAll_54 : decode cX12_pricksAll 54 = .ok (.invokevirtual 362, 3) := by decide +kernel
theorem dX12_pricksAll_57 : decode cX12_pricksAll 57 = .ok (.istore 4, 2) := by decide +kernel
theorem dX12_pricksAll_59 : decode cX12_pricksAll 59 = .ok (.iload 4, 2) := by decide +kernel
theorem dX12_pricksAll_61 : decode cX12_pricksAll 61 = .ok (.ifCond .ge 6, 3) := by decide +kernel
theorem dX12_pricksAll_64 : decode cX12_pricksAll 64 = .ok (.goto 93, 3) := by decide +kernel
theorem dX12_pricksAll_67 : decode cX12_pricksAll 67 = .ok (.iload_n 2, 1) := by decide +kernel
theorem dX12_pricksAll_68 : decode cX12_pricksAll 68 = .ok (.aload_n 0, 1) := by decide +kernel
theorem dX12_pricksAll_69 : decode cX12_pricksAll 69 = .ok (.iload 4, 2) := by decide +kernel
theorem dX12_pricksAll_71 : decode cX12_pricksAll 71 = .ok (.invokevirtual 344, 3) := by decide +kernel
theorem dX12_pricksAll_74 : decode cX12_pricksAll 74 = .ok (.aload_n 0, 1) := by decide +kernel
theorem dX12_pricksAll_75 : decode cX12_pricksAll 75 = .ok (.getfield 35, 3) := by decide +kernel
theorem dX12_pricksAll_78 : decode cX12_pricksAll 78 = .ok (.bipush 49, 2) := by decide +kernel
theorem dX12_pricksAll_80 : decode cX12_pricksAll 80 = .ok (.iload_n 3, 1) := by decide +kernel
theorem dX12_pricksAll_81 : decode cX12_pricksAll 81 = .ok (.iadd, 1) := by decide +kernel
theorem dX12_pricksAll_82 : decode cX12_pricksAll 82 = .ok (.iaload, 1) := by decide +kernel
theorem dX12_pricksAll_83 : decode cX12_pricksAll 83 = .ok (.aload_n 0, 1) := by decide +kernel
theorem dX12_pricksAll_84 : decode cX12_pricksAll 84 = .ok (.getfield 35, 3) := by decide +kernel
theorem dX12_pricksAll_87 : decode cX12_pricksAll 87 = .ok (.bipush 75, 2) := by decide +kernel
theorem dX12_pricksAll_89 : decode cX12_pricksAll 89 = .ok (.bipush 6, 2) := by decide +kernel
theorem dX12_pricksAll_91 : decode cX12_pricksAll 91 = .ok (.iload 4, 2) := by decide +kernel
theorem dX12_pricksAll_93 : decode cX12_pricksAll 93 = .ok (.imul, 1) := by decide +kernel
theorem dX12_pricksAll_94 : decode cX12_pricksAll 94 = .ok (.iadd, 1) := by decide +kernel
theorem dX12_pricksAll_95 : decode cX12_pricksAll 95 = .ok (.iload_n 3, 1) := by decide +kernel
theorem dX12_pricksAll_96 : decode cX12_pricksAll 96 = .ok (.iadd, 1) := by decide +kernel
theorem dX12_pricksAll_97 : decode cX12_pricksAll 97 = .ok (.iaload, 1) := by decide +kernel
theorem dX12_pricksAll_98 : decode cX12_pricksAll 98 = .ok (.isub, 1) := by decide +kernel
theorem dX12_pricksAll_99 : decode cX12_pricksAll 99 = .ok (.invokestatic 365, 3) := by decide +kernel
theorem dX12_pricksAll_102 : decode cX12_pricksAll 102 = .ok (.invokestatic 365, 3) := by decide +kernel
theorem dX12_pricksAll_105 : decode cX12_pricksAll 105 = .ok (.istore 5, 2) := by decide +kernel
theorem dX12_pricksAll_107 : decode cX12_pricksAll 107 = .ok (.aload_n 0, 1) := by decide +kernel
theorem dX12_pricksAll_108 : decode cX12_pricksAll 108 = .ok (.getfield 35, 3) := by decide +kernel
theorem dX12_pricksAll_111 : decode cX12_pricksAll 111 = .ok (.bipush 75, 2) := by decide +kernel
theorem dX12_pricksAll_113 : decode cX12_pricksAll 113 = .ok (.bipush 6, 2) := by decide +kernel
theorem dX12_pricksAll_115 : decode cX12_pricksAll 115 = .ok (.iload 4, 2) := by decide +kernel
theorem dX12_pricksAll_117 : decode cX12_pricksAll 117 = .ok (.imul, 1) := by decide +kernel
theorem dX12_pricksAll_118 : decode cX12_pricksAll 118 = .ok (.iadd, 1) := by decide +kernel
theorem dX12_pricksAll_119 : decode cX12_pricksAll 119 = .ok (.iload_n 3, 1) := by decide +kernel
theorem dX12_pricksAll_120 : decode cX12_pricksAll 120 = .ok (.iadd, 1) := by decide +kernel
theorem dX12_pricksAll_121 : decode cX12_pricksAll 121 = .ok (.dup2, 1) := by decide +kernel
theorem dX12_pricksAll_122 : decode cX12_pricksAll 122 = .ok (.iaload, 1) := by decide +kernel
theorem dX12_pricksAll_123 : decode cX12_pricksAll 123 = .ok (.iload 5, 2) := by decide +kernel
theorem dX12_pricksAll_125 : decode cX12_pricksAll 125 = .ok (.iadd, 1) := by decide +kernel
theorem dX12_pricksAll_126 : decode cX12_pricksAll 126 = .ok (.iastore, 1) := by decide +kernel
theorem dX12_pricksAll_127 : decode cX12_pricksAll 127 = .ok (.aload_n 0, 1) := by decide +kernel
theorem dX12_pricksAll_128 : decode cX12_pricksAll 128 = .ok (.getfield 35, 3) := by decide +kernel
theorem dX12_pricksAll_131 : decode cX12_pricksAll 131 = .ok (.bipush 41, 2) := by decide +kernel
theorem dX12_pricksAll_133 : decode cX12_pricksAll 133 = .ok (.iload_n 1, 1) := by decide +kernel
theorem dX12_pricksAll_134 : decode cX12_pricksAll 134 = .ok (.iadd, 1) := by decide +kernel
theorem dX12_pricksAll_135 : decode cX12_pricksAll 135 = .ok (.dup2, 1) := by decide +kernel
theorem dX12_pricksAll_136 : decode cX12_pricksAll 136 = .ok (.iaload, 1) := by decide +kernel
theorem dX12_pricksAll_137 : decode cX12_pricksAll 137 = .ok (.iload 5, 2) := by decide +kernel
theorem dX12_pricksAll_139 : decode cX12_pricksAll 139 = .ok (.iadd, 1) := by decide +kernel
theorem dX12_pricksAll_140 : decode cX12_pricksAll 140 = .ok (.iastore, 1) := by decide +kernel
theorem dX12_pricksAll_141 : decode cX12_pricksAll 141 = .ok (.aload_n 0, 1) := by decide +kernel
theorem dX12_pricksAll_142 : decode cX12_pricksAll 142 = .ok (.getfield 35, 3) := by decide +kernel
theorem dX12_pricksAll_145 : decode cX12_pricksAll 145 = .ok (.iconst 5, 1) := by decide +kernel
theorem dX12_pricksAll_146 : decode cX12_pricksAll 146 = .ok (.dup2, 1) := by decide +kernel
theorem dX12_pricksAll_147 : decode cX12_pricksAll 147 = .ok (.iaload, 1) := by decide +kernel
theorem dX12_pricksAll_148 : decode cX12_pricksAll 148 = .ok (.iload 5, 2) := by decide +kernel
theorem dX12_pricksAll_150 : decode cX12_pricksAll 150 = .ok (.iadd, 1) := by decide +kernel
theorem dX12_pricksAll_151 : decode cX12_pricksAll 151 = .ok (.iastore, 1) := by decide +kernel
theorem dX12_pricksAll_152 : decode cX12_pricksAll 152 = .ok (.iload_n 2, 1) := by decide +kernel
theorem dX12_pricksAll_153 : decode cX12_pricksAll 153 = .ok (.iload 5, 2) := by decide +kernel
theorem dX12_pricksAll_155 : decode cX12_pricksAll 155 = .ok (.isub, 1) := by decide +kernel
theorem dX12_pricksAll_156 : decode cX12_pricksAll 156 = .ok (.istore_n 2, 1) := by decide +kernel
theorem dX12_pricksAll_157 : decode cX12_pricksAll 157 = .ok (.iinc 3 1, 3) := by decide +kernel
theorem dX12_pricksAll_160 : decode cX12_pricksAll 160 = .ok (.goto (-148), 3) := by decide +kernel
theorem dX12_pricksAll_163 : decode cX12_pricksAll 163 = .ok (.return_, 1) := by decide +kernel
theorem dX12_goesTurn_0 : decode cX12_goesTurn 0 = .ok (.aload_n 0, 1) := by decide +kernel
theorem dX12_goesTurn_1 : decode cX12_goesTurn 1 = .ok (.getfield 35, 3) := by decide +kernel
theorem dX12_goesTurn_4 : decode cX12_goesTurn 4 = .ok (.iconst 4, 1) := by decide +kernel
theorem dX12_goesTurn_5 : decode cX12_goesTurn 5 = .ok (.dup2, 1) := by decide +kernel
theorem dX12_goesTurn_6 : decode cX12_goesTurn 6 = .ok (.iaload, 1) := by decide +kernel
theorem dX12_goesTurn_7 : decode cX12_goesTurn 7 = .ok (.iconst 1, 1) := by decide +kernel
theorem dX12_goesTurn_8 : decode cX12_goesTurn 8 = .ok (.iadd, 1) := by decide +kernel
theorem dX12_goesTurn_9 : decode cX12_goesTurn 9 = .ok (.iastore, 1) := by decide +kernel
theorem dX12_goesTurn_10 : decode cX12_goesTurn 10 = .ok (.aload_n 0, 1) := by decide +kernel
theorem dX12_goesTurn_11 : decode cX12_goesTurn 11 = .ok (.invokevirtual 350, 3) := by decide +kernel
theorem dX12_goesTurn_14 : decode cX12_goesTurn 14 = .ok (.istore_n 1, 1) := by decide +kernel
theorem dX12_goesTurn_15 : decode cX12_goesTurn 15 = .ok (.iload_n 1, 1) := by decide +kernel
theorem dX12_goesTurn_16 : decode cX12_goesTurn 16 = .ok (.ifCond .ge 4, 3) := by decide +kernel
theorem dX12_goesTurn_19 : decode cX12_goesTurn 19 = .ok (.return_, 1) := by decide +kernel
theorem dX12_goesTurn_20 : decode cX12_goesTurn 20 = .ok (.aload_n 0, 1) := by decide +kernel
theorem dX12_goesTurn_21 : decode cX12_goesTurn 21 = .ok (.getfield 35, 3) := by decide +kernel
theorem dX12_goesTurn_24 : decode cX12_goesTurn 24 = .ok (.bipush 67, 2) := by decide +kernel
theorem dX12_goesTurn_26 : decode cX12_goesTurn 26 = .ok (.iload_n 1, 1) := by decide +kernel
theorem dX12_goesTurn_27 : decode cX12_goesTurn 27 = .ok (.iadd, 1) := by decide +kernel
theorem dX12_goesTurn_28 : decode cX12_goesTurn 28 = .ok (.iaload, 1) := by decide +kernel
theorem dX12_goesTurn_29 : decode cX12_goesTurn 29 = .ok (.istore_n 2, 1) := by decide +kernel
theorem dX12_goesTurn_30 : decode cX12_goesTurn 30 = .ok (.aload_n 0, 1) := by decide +kernel
theorem dX12_goesTurn_31 : decode cX12_goesTurn 31 = .ok (.getfield 35, 3) := by decide +kernel
theorem dX12_goesTurn_34 : decode cX12_goesTurn 34 = .ok (.bipush 8, 2) := by decide +kernel
theorem dX12_goesTurn_36 : decode cX12_goesTurn 36 = .ok (.iload_n 1, 1) := by decide +kernel
theorem dX12_goesTurn_37 : decode cX12_goesTurn 37 = .ok (.iconst 1, 1) := by decide +kernel
theorem dX12_goesTurn_38 : decode cX12_goesTurn 38 = .ok (.iadd, 1) := by decide +kernel
theorem dX12_goesTurn_39 : decode cX12_goesTurn 39 = .ok (.aload_n 0, 1) := by decide +kernel
theorem dX12_goesTurn_40 : decode cX12_goesTurn 40 = .ok (.getfield 35, 3) := by decide +kernel
theorem dX12_goesTurn_43 : decode cX12_goesTurn 43 = .ok (.iconst 3, 1) := by decide +kernel
theorem dX12_goesTurn_44 : decode cX12_goesTurn 44 = .ok (.iaload, 1) := by decide +kernel
theorem dX12_goesTurn_45 : decode cX12_goesTurn 45 = .ok (.irem, 1) := by decide +kernel
theorem dX12_goesTurn_46 : decode cX12_goesTurn 46 = .ok (.iastore, 1) := by decide +kernel
theorem dX12_goesTurn_47 : decode cX12_goesTurn 47 = .ok (.aload_n 0, 1) := by decide +kernel
theorem dX12_goesTurn_48 : decode cX12_goesTurn 48 = .ok (.getfield 35, 3) := by decide +kernel
theorem dX12_goesTurn_51 : decode cX12_goesTurn 51 = .ok (.bipush 33, 2) := by decide +kernel
theorem dX12_goesTurn_53 : decode cX12_goesTurn 53 = .ok (.iload_n 2, 1) := by decide +kernel
theorem dX12_goesTurn_54 : decode cX12_goesTurn 54 = .ok (.iadd, 1) := by decide +kernel
theorem dX12_goesTurn_55 : decode cX12_goesTurn 55 = .ok (.iaload, 1) := by decide +kernel
theorem dX12_goesTurn_56 : decode cX12_goesTurn 56 = .ok (.istore_n 3, 1) := by decide +kernel
theorem dX12_goesTurn_57 : decode cX12_goesTurn 57 = .ok (.aload_n 0, 1) := by decide +kernel
theorem dX12_goesTurn_58 : decode cX12_goesTurn 58 = .ok (.getfield 35, 3) := by decide +kernel
theorem dX12_goesTurn_61 : decode cX12_goesTurn 61 = .ok (.bipush 17, 2) := by decide +kernel
theorem dX12_goesTurn_63 : decode cX12_goesTurn 63 = .ok (.iload_n 2, 1) := by decide +kernel
theorem dX12_goesTurn_64 : decode cX12_goesTurn 64 = .ok (.iadd, 1) := by decide +kernel
theorem dX12_goesTurn_65 : decode cX12_goesTurn 65 = .ok (.iaload, 1) := by decide +kernel
theorem dX12_goesTurn_66 : decode cX12_goesTurn 66 = .ok (.ifCond .ne 37, 3) := by decide +kernel
theorem dX12_goesTurn_69 : decode cX12_goesTurn 69 = .ok (.aload_n 0, 1) := by decide +kernel
theorem dX12_goesTurn_70 : decode cX12_goesTurn 70 = .ok (.getfield 35, 3) := by decide +kernel
theorem dX12_goesTurn_73 : decode cX12_goesTurn 73 = .ok (.bipush 33, 2) := by decide +kernel
theorem dX12_goesTurn_75 : decode cX12_goesTurn 75 = .ok (.iload_n 2, 1) := by decide +kernel
theorem dX12_goesTurn_76 : decode cX12_goesTurn 76 = .ok (.iadd, 1) := by decide +kernel
theorem dX12_goesTurn_77 : decode cX12_goesTurn 77 = .ok (.dup2, 1) := by decide +kernel
theorem dX12_goesTurn_78 : decode cX12_goesTurn 78 = .ok (.iaload, 1) := by decide +kernel
theorem dX12_goesTurn_79 : decode cX12_goesTurn 79 = .ok (.aload_n 0, 1) := by decide +kernel
theorem dX12_goesTurn_80 : decode cX12_goesTurn 80 = .ok (.invokevirtual 359, 3) := by decide +kernel
theorem dX12_goesTurn_83 : decode cX12_goesTurn 83 = .ok (.ior, 1) := by decide +kernel
theorem dX12_goesTurn_84 : decode cX12_goesTurn 84 = .ok (.iastore, 1) := by decide +kernel
theorem dX12_goesTurn_85 : decode cX12_goesTurn 85 = .ok (.aload_n 0, 1) := by decide +kernel
theorem dX12_goesTurn_86 : decode cX12_goesTurn 86 = .ok (.getfield 35, 3) := by decide +kernel
theorem dX12_goesTurn_89 : decode cX12_goesTurn 89 = .ok (.bipush 25, 2) := by decide +kernel
theorem dX12_goesTurn_91 : decode cX12_goesTurn 91 = .ok (.iload_n 2, 1) := by decide +kernel
theorem dX12_goesTurn_92 : decode cX12_goesTurn 92 = .ok (.iadd, 1) := by decide +kernel
theorem dX12_goesTurn_93 : decode cX12_goesTurn 93 = .ok (.iaload, 1) := by decide +kernel
theorem dX12_goesTurn_94 : decode cX12_goesTurn 94 = .ok (.iconst 1, 1) := by decide +kernel
theorem dX12_goesTurn_95 : decode cX12_goesTurn 95 = .ok (.if_icmp .ne 8, 3) := by decide +kernel
theorem dX12_goesTurn_98 : decode cX12_goesTurn 98 = .ok (.aload_n 0, 1) := by decide +kernel
theorem dX12_goesTurn_99 : decode cX12_goesTurn 99 = .ok (.iload_n 3, 1) := by decide +kernel
theorem dX12_goesTurn_100 : decode cX12_goesTurn 100 = .ok (.invokevirtual 368, 3) := by decide +kernel
theorem dX12_goesTurn_103 : decode cX12_goesTurn 103 = .ok (.aload_n 0, 1) := by decide +kernel
theorem dX12_goesTurn_104 : decode cX12_goesTurn 104 = .ok (.iload_n 2, 1) := by decide +kernel
theorem dX12_goesTurn_105 : decode cX12_goesTurn 105 = .ok (.invokevirtual 371, 3) := by decide +kernel
theorem dX12_goesTurn_108 : decode cX12_goesTurn 108 = .ok (.return_, 1) := by decide +kernel
theorem dX12_turn_0 : decode cX12_turn 0 = .ok (.aload_n 0, 1) := by decide +kernel
theorem dX12_turn_1 : decode cX12_turn 1 = .ok (.iconst 0, 1) := by decide +kernel
theorem dX12_turn_2 : decode cX12_turn 2 = .ok (.putfield 71, 3) := by decide +kernel
theorem dX12_turn_5 : decode cX12_turn 5 = .ok (.aload_n 0, 1) := by decide +kernel
theorem dX12_turn_6 : decode cX12_turn 6 = .ok (.iconst 0, 1) := by decide +kernel
theorem dX12_turn_7 : decode cX12_turn 7 = .ok (.putfield 74, 3) := by decide +kernel
theorem dX12_turn_10 : decode cX12_turn 10 = .ok (.iload_n 1, 1) := by decide +kernel
theorem dX12_turn_11 : decode cX12_turn 11 = .ok (.i2l, 1) := by decide +kernel
theorem dX12_turn_12 : decode cX12_turn 12 = .ok (.lconst 1, 1) := by decide +kernel
theorem dX12_turn_13 : decode cX12_turn 13 = .ok (.ldc2_w 374, 3) := by decide +kernel
theorem dX12_turn_16 : decode cX12_turn 16 = .ok (.invokestatic 106, 3) := by decide +kernel
theorem dX12_turn_19 : decode cX12_turn 19 = .ok (.ifCond .ne 9, 3) := by decide +kernel
theorem dX12_turn_22 : decode cX12_turn 22 = .ok (.aload_n 0, 1) := by decide +kernel
theorem dX12_turn_23 : decode cX12_turn 23 = .ok (.iconst 5, 1) := by decide +kernel
theorem dX12_turn_24 : decode cX12_turn 24 = .ok (.invokevirtual 324, 3) := by decide +kernel
theorem dX12_turn_27 : decode cX12_turn 27 = .ok (.ireturn, 1) := by decide +kernel
theorem dX12_turn_28 : decode cX12_turn 28 = .ok (.aload_n 0, 1) := by decide +kernel
theorem dX12_turn_29 : decode cX12_turn 29 = .ok (.getfield 35, 3) := by decide +kernel
theorem dX12_turn_32 : decode cX12_turn 32 = .ok (.iconst 4, 1) := by decide +kernel
theorem dX12_turn_33 : decode cX12_turn 33 = .ok (.iaload, 1) := by decide +kernel
theorem dX12_turn_34 : decode cX12_turn 34 = .ok (.iload_n 1, 1) := by decide +kernel
theorem dX12_turn_35 : decode cX12_turn 35 = .ok (.iadd, 1) := by decide +kernel
theorem dX12_turn_36 : decode cX12_turn 36 = .ok (.sipush 9999, 3) := by decide +kernel
theorem dX12_turn_39 : decode cX12_turn 39 = .ok (.if_icmp .le 10, 3) := by decide +kernel
theorem dX12_turn_42 : decode cX12_turn 42 = .ok (.aload_n 0, 1) := by decide +kernel
theorem dX12_turn_43 : decode cX12_turn 43 = .ok (.bipush 7, 2) := by decide +kernel
theorem dX12_turn_45 : decode cX12_turn 45 = .ok (.invokevirtual 324, 3) := by decide +kernel
theorem dX12_turn_48 : decode cX12_turn 48 = .ok (.ireturn, 1) := by decide +kernel
theorem dX12_turn_49 : decode cX12_turn 49 = .ok (.iconst 0, 1) := by decide +kernel
theorem dX12_turn_50 : decode cX12_turn 50 = .ok (.istore_n 2, 1) := by decide +kernel
theorem dX12_turn_51 : decode cX12_turn 51 = .ok (.iload_n 2, 1) := by decide +kernel
theorem dX12_turn_52 : decode cX12_turn 52 = .ok (.iload_n 1, 1) := by decide +kernel
theorem dX12_turn_53 : decode cX12_turn 53 = .ok (.if_icmp .ge 13, 3) := by decide +kernel
theorem dX12_turn_56 : decode cX12_turn 56 = .ok (.aload_n 0, 1) := by decide +kernel
theorem dX12_turn_57 : decode cX12_turn 57 = .ok (.invokevirtual 376, 3) := by decide +kernel
theorem dX12_turn_60 : decode cX12_turn 60 = .ok (.iinc 2 1, 3) := by decide +kernel
theorem dX12_turn_63 : decode cX12_turn 63 = .ok (.goto (-12), 3) := by decide +kernel
theorem dX12_turn_66 : decode cX12_turn 66 = .ok (.aload_n 0, 1) := by decide +kernel
theorem dX12_turn_67 : decode cX12_turn 67 = .ok (.getfield 35, 3) := by decide +kernel
theorem dX12_turn_70 : decode cX12_turn 70 = .ok (.iconst 4, 1) := by decide +kernel
theorem dX12_turn_71 : decode cX12_turn 71 = .ok (.iaload, 1) := by decide +kernel
theorem dX12_turn_72 : decode cX12_turn 72 = .ok (.ireturn, 1) := by decide +kernel
theorem dX12_clears_0 : decode cX12_clears 0 = .ok (.aload_n 0, 1) := by decide +kernel
theorem dX12_clears_1 : decode cX12_clears 1 = .ok (.iload_n 1, 1) := by decide +kernel
theorem dX12_clears_2 : decode cX12_clears 2 = .ok (.invokevirtual 316, 3) := by decide +kernel
theorem dX12_clears_5 : decode cX12_clears 5 = .ok (.istore_n 2, 1) := by decide +kernel
theorem dX12_clears_6 : decode cX12_clears 6 = .ok (.iconst 0, 1) := by decide +kernel
theorem dX12_clears_7 : decode cX12_clears 7 = .ok (.istore_n 3, 1) := by decide +kernel
theorem dX12_clears_8 : decode cX12_clears 8 = .ok (.iload_n 3, 1) := by decide +kernel
theorem dX12_clears_9 : decode cX12_clears 9 = .ok (.bipush 6, 2) := by decide +kernel
theorem dX12_clears_11 : decode cX12_clears 11 = .ok (.if_icmp .ge 24, 3) := by decide +kernel
theorem dX12_clears_14 : decode cX12_clears 14 = .ok (.aload_n 0, 1) := by decide +kernel
theorem dX12_clears_15 : decode cX12_clears 15 = .ok (.getfield 35, 3) := by decide +kernel
theorem dX12_clears_18 : decode cX12_clears 18 = .ok (.bipush 75, 2) := by decide +kernel
theorem dX12_clears_20 : decode cX12_clears 20 = .ok (.bipush 6, 2) := by decide +kernel
theorem dX12_clears_22 : decode cX12_clears 22 = .ok (.iload_n 1, 1) := by decide +kernel
theorem dX12_clears_23 : decode cX12_clears 23 = .ok (.imul, 1) := by decide +kernel
theorem dX12_clears_24 : decode cX12_clears 24 = .ok (.iadd, 1) := by decide +kernel
theorem dX12_clears_25 : decode cX12_clears 25 = .ok (.iload_n 3, 1) := by decide +kernel
theorem dX12_clears_26 : decode cX12_clears 26 = .ok (.iadd, 1) := by decide +kernel
theorem dX12_clears_27 : decode cX12_clears 27 = .ok (.iconst 0, 1) := by decide +kernel
theorem dX12_clears_28 : decode cX12_clears 28 = .ok (.iastore, 1) := by decide +kernel
theorem dX12_clears_29 : decode cX12_clears 29 = .ok (.iinc 3 1, 3) := by decide +kernel
theorem dX12_clears_32 : decode cX12_clears 32 = .ok (.goto (-24), 3) := by decide +kernel
theorem dX12_clears_35 : decode cX12_clears 35 = .ok (.iload_n 2, 1) := by decide +kernel
theorem dX12_clears_36 : decode cX12_clears 36 = .ok (.ireturn, 1) := by decide +kernel
theorem dX12_rub_0 : decode cX12_rub 0 = .ok (.aload_n 0, 1) := by decide +kernel
theorem dX12_rub_1 : decode cX12_rub 1 = .ok (.iconst 0, 1) := by decide +kernel
theorem dX12_rub_2 : decode cX12_rub 2 = .ok (.putfield 71, 3) := by decide +kernel
theorem dX12_rub_5 : decode cX12_rub 5 = .ok (.aload_n 0, 1) := by decide +kernel
theorem dX12_rub_6 : decode cX12_rub 6 = .ok (.iconst 0, 1) := by decide +kernel
theorem dX12_rub_7 : decode cX12_rub 7 = .ok (.putfield 74, 3) := by decide +kernel
theorem dX12_rub_10 : decode cX12_rub 10 = .ok (.aload_n 0, 1) := by decide +kernel
theorem dX12_rub_11 : decode cX12_rub 11 = .ok (.iload_n 1, 1) := by decide +kernel
theorem dX12_rub_12 : decode cX12_rub 12 = .ok (.invokevirtual 341, 3) := by decide +kernel
theorem dX12_rub_15 : decode cX12_rub 15 = .ok (.ifCond .ne 9, 3) := by decide +kernel
theorem dX12_rub_18 : decode cX12_rub 18 = .ok (.aload_n 0, 1) := by decide +kernel
theorem dX12_rub_19 : decode cX12_rub 19 = .ok (.iconst 2, 1) := by decide +kernel
theorem dX12_rub_20 : decode cX12_rub 20 = .ok (.invokevirtual 324, 3) := by decide +kernel
theorem dX12_rub_23 : decode cX12_rub 23 = .ok (.ireturn, 1) := by decide +kernel
theorem dX12_rub_24 : decode cX12_rub 24 = .ok (.aload_n 0, 1) := by decide +kernel
theorem dX12_rub_25 : decode cX12_rub 25 = .ok (.iload_n 1, 1) := by decide +kernel
theorem dX12_rub_26 : decode cX12_rub 26 = .ok (.invokevirtual 316, 3) := by decide +kernel
theorem dX12_rub_29 : decode cX12_rub 29 = .ok (.ifCond .ne 12, 3) := by decide +kernel
theorem dX12_rub_32 : decode cX12_rub 32 = .ok (.aload_n 0, 1) := by decide +kernel
theorem dX12_rub_33 : decode cX12_rub 33 = .ok (.bipush 8, 2) := by decide +kernel
theorem dX12_rub_35 : decode cX12_rub 35 = .ok (.invokevirtual 324, 3) := by decide +kernel
theorem dX12_rub_38 : decode cX12_rub 38 = .ok (.goto 8, 3) := by decide +kernel
theorem dX12_rub_41 : decode cX12_rub 41 = .ok (.aload_n 0, 1) := by decide +kernel
theorem dX12_rub_42 : decode cX12_rub 42 = .ok (.iload_n 1, 1) := by decide +kernel
theorem dX12_rub_43 : decode cX12_rub 43 = .ok (.invokevirtual 379, 3) := by decide +kernel
theorem dX12_rub_46 : decode cX12_rub 46 = .ok (.ireturn, 1) := by decide +kernel
theorem dX12_damp_0 : decode cX12_damp 0 = .ok (.aload_n 0, 1) := by decide +kernel
theorem dX12_damp_1 : decode cX12_damp 1 = .ok (.iconst 0, 1) := by decide +kernel
theorem dX12_damp_2 : decode cX12_damp 2 = .ok (.putfield 71, 3) := by decide +kernel
theorem dX12_damp_5 : decode cX12_damp 5 = .ok (.aload_n 0, 1) := by decide +kernel
theorem dX12_damp_6 : decode cX12_damp 6 = .ok (.iconst 0, 1) := by decide +kernel
theorem dX12_damp_7 : decode cX12_damp 7 = .ok (.putfield 74, 3) := by decide +kernel
theorem dX12_damp_10 : decode cX12_damp 10 = .ok (.aload_n 0, 1) := by decide +kernel
theorem dX12_damp_11 : decode cX12_damp 11 = .ok (.iload_n 1, 1) := by decide +kernel
theorem dX12_damp_12 : decode cX12_damp 12 = .ok (.invokevirtual 341, 3) := by decide +kernel
theorem dX12_damp_15 : decode cX12_damp 15 = .ok (.ifCond .ne 9, 3) := by decide +kernel
theorem dX12_damp_18 : decode cX12_damp 18 = .ok (.aload_n 0, 1) := by decide +kernel
theorem dX12_damp_19 : decode cX12_damp 19 = .ok (.iconst 2, 1) := by decide +kernel
theorem dX12_damp_20 : decode cX12_damp 20 = .ok (.invokevirtual 86, 3) := by decide +kernel
theorem dX12_damp_23 : decode cX12_damp 23 = .ok (.ireturn, 1) := by decide +kernel
theorem dX12_damp_24 : decode cX12_damp 24 = .ok (.aload_n 0, 1) := by decide +kernel
theorem dX12_damp_25 : decode cX12_damp 25 = .ok (.iload_n 1, 1) := by decide +kernel
theorem dX12_damp_26 : decode cX12_damp 26 = .ok (.invokevirtual 356, 3) := by decide +kernel
theorem dX12_damp_29 : decode cX12_damp 29 = .ok (.iload_n 2, 1) := by decide +kernel
theorem dX12_damp_30 : decode cX12_damp 30 = .ok (.if_icmp .ne 10, 3) := by decide +kernel
theorem dX12_damp_33 : decode cX12_damp 33 = .ok (.aload_n 0, 1) := by decide +kernel
theorem dX12_damp_34 : decode cX12_damp 34 = .ok (.bipush 9, 2) := by decide +kernel
theorem dX12_damp_36 : decode cX12_damp 36 = .ok (.invokevirtual 86, 3) := by decide +kernel
theorem dX12_damp_39 : decode cX12_damp 39 = .ok (.ireturn, 1) := by decide +kernel
theorem dX12_damp_40 : decode cX12_damp 40 = .ok (.aload_n 0, 1) := by decide +kernel
theorem dX12_damp_41 : decode cX12_damp 41 = .ok (.getfield 35, 3) := by decide +kernel
theorem dX12_damp_44 : decode cX12_damp 44 = .ok (.bipush 7, 2) := by decide +kernel
theorem dX12_damp_46 : decode cX12_damp 46 = .ok (.dup2, 1) := by decide +kernel
theorem dX12_damp_47 : decode cX12_damp 47 = .ok (.iaload, 1) := by decide +kernel
theorem dX12_damp_48 : decode cX12_damp 48 = .ok (.iconst 1, 1) := by decide +kernel
theorem dX12_damp_49 : decode cX12_damp 49 = .ok (.iload_n 1, 1) := by decide +kernel
theorem dX12_damp_50 : decode cX12_damp 50 = .ok (.ishl, 1) := by decide +kernel
theorem dX12_damp_51 : decode cX12_damp 51 = .ok (.ixor, 1) := by decide +kernel
theorem dX12_damp_52 : decode cX12_damp 52 = .ok (.iastore, 1) := by decide +kernel
theorem dX12_damp_53 : decode cX12_damp 53 = .ok (.iconst 1, 1) := by decide +kernel
theorem dX12_damp_54 : decode cX12_damp 54 = .ok (.ireturn, 1) := by decide +kernel
theorem dX12_ill_0 : decode cX12_ill 0 = .ok (.aload_n 0, 1) := by decide +kernel
theorem dX12_ill_1 : decode cX12_ill 1 = .ok (.iconst 0, 1) := by decide +kernel
theorem dX12_ill_2 : decode cX12_ill 2 = .ok (.putfield 71, 3) := by decide +kernel
theorem dX12_ill_5 : decode cX12_ill 5 = .ok (.aload_n 0, 1) := by decide +kernel
theorem dX12_ill_6 : decode cX12_ill 6 = .ok (.iconst 0, 1) := by decide +kernel
theorem dX12_ill_7 : decode cX12_ill 7 = .ok (.putfield 74, 3) := by decide +kernel
theorem dX12_ill_10 : decode cX12_ill 10 = .ok (.aload_n 0, 1) := by decide +kernel
theorem dX12_ill_11 : decode cX12_ill 11 = .ok (.iload_n 1, 1) := by decide +kernel
theorem dX12_ill_12 : decode cX12_ill 12 = .ok (.invokevirtual 330, 3) := by decide +kernel
theorem dX12_ill_15 : decode cX12_ill 15 = .ok (.ifCond .ne 9, 3) := by decide +kernel
theorem dX12_ill_18 : decode cX12_ill 18 = .ok (.aload_n 0, 1) := by decide +kernel
theorem dX12_ill_19 : decode cX12_ill 19 = .ok (.iconst 2, 1) := by decide +kernel
theorem dX12_ill_20 : decode cX12_ill 20 = .ok (.invokevirtual 86, 3) := by decide +kernel
theorem dX12_ill_23 : decode cX12_ill 23 = .ok (.ireturn, 1) := by decide +kernel
theorem dX12_ill_24 : decode cX12_ill 24 = .ok (.aload_n 0, 1) := by decide +kernel
theorem dX12_ill_25 : decode cX12_ill 25 = .ok (.getfield 35, 3) := by decide +kernel
theorem dX12_ill_28 : decode cX12_ill 28 = .ok (.bipush 6, 2) := by decide +kernel
theorem dX12_ill_30 : decode cX12_ill 30 = .ok (.iaload, 1) := by decide +kernel
theorem dX12_ill_31 : decode cX12_ill 31 = .ok (.iload_n 1, 1) := by decide +kernel
theorem dX12_ill_32 : decode cX12_ill 32 = .ok (.invokestatic 110, 3) := by decide +kernel
theorem dX12_ill_35 : decode cX12_ill 35 = .ok (.iload_n 2, 1) := by decide +kernel
theorem dX12_ill_36 : decode cX12_ill 36 = .ok (.if_icmp .ne 10, 3) := by decide +kernel
theorem dX12_ill_39 : decode cX12_ill 39 = .ok (.aload_n 0, 1) := by decide +kernel
theorem dX12_ill_40 : decode cX12_ill 40 = .ok (.bipush 9, 2) := by decide +kernel
theorem dX12_ill_42 : decode cX12_ill 42 = .ok (.invokevirtual 86, 3) := by decide +kernel
theorem dX12_ill_45 : decode cX12_ill 45 = .ok (.ireturn, 1) := by decide +kernel
theorem dX12_ill_46 : decode cX12_ill 46 = .ok (.aload_n 0, 1) := by decide +kernel
theorem dX12_ill_47 : decode cX12_ill 47 = .ok (.getfield 35, 3) := by decide +kernel
theorem dX12_ill_50 : decode cX12_ill 50 = .ok (.bipush 6, 2) := by decide +kernel
theorem dX12_ill_52 : decode cX12_ill 52 = .ok (.dup2, 1) := by decide +kernel
theorem dX12_ill_53 : decode cX12_ill 53 = .ok (.iaload, 1) := by decide +kernel
theorem dX12_ill_54 : decode cX12_ill 54 = .ok (.iconst 1, 1) := by decide +kernel
theorem dX12_ill_55 : decode cX12_ill 55 = .ok (.iload_n 1, 1) := by decide +kernel
theorem dX12_ill_56 : decode cX12_ill 56 = .ok (.ishl, 1) := by decide +kernel
theorem dX12_ill_57 : decode cX12_ill 57 = .ok (.ixor, 1) := by decide +kernel
theorem dX12_ill_58 : decode cX12_ill 58 = .ok (.iastore, 1) := by decide +kernel
theorem dX12_ill_59 : decode cX12_ill 59 = .ok (.iconst 1, 1) := by decide +kernel
theorem dX12_ill_60 : decode cX12_ill 60 = .ok (.ireturn, 1) := by decide +kernel
theorem dX12_moves_0 : decode cX12_moves 0 = .ok (.aload_n 0, 1) := by decide +kernel
theorem dX12_moves_1 : decode cX12_moves 1 = .ok (.iload_n 1, 1) := by decide +kernel
theorem dX12_moves_2 : decode cX12_moves 2 = .ok (.invokevirtual 335, 3) := by decide +kernel
theorem dX12_moves_5 : decode cX12_moves 5 = .ok (.istore_n 3, 1) := by decide +kernel
theorem dX12_moves_6 : decode cX12_moves 6 = .ok (.aload_n 0, 1) := by decide +kernel
theorem dX12_moves_7 : decode cX12_moves 7 = .ok (.iload_n 2, 1) := by decide +kernel
theorem dX12_moves_8 : decode cX12_moves 8 = .ok (.invokevirtual 335, 3) := by decide +kernel
theorem dX12_moves_11 : decode cX12_moves 11 = .ok (.istore 4, 2) := by decide +kernel
theorem dX12_moves_13 : decode cX12_moves 13 = .ok (.iload_n 3, 1) := by decide +kernel
theorem dX12_moves_14 : decode cX12_moves 14 = .ok (.ifCond .lt 13, 3) := by decide +kernel
theorem dX12_moves_17 : decode cX12_moves 17 = .ok (.iload 4, 2) := by decide +kernel
theorem dX12_moves_19 : decode cX12_moves 19 = .ok (.ifCond .lt 8, 3) := by decide +kernel
theorem dX12_moves_22 : decode cX12_moves 22 = .ok (.iload_n 1, 1) := by decide +kernel
theorem dX12_moves_23 : decode cX12_moves 23 = .ok (.iload_n 2, 1) := by decide +kernel
theorem dX12_moves_24 : decode cX12_moves 24 = .ok (.if_icmp .ne 5, 3) := by decide +kernel
theorem dX12_moves_27 : decode cX12_moves 27 = .ok (.iconst 0, 1) := by decide +kernel
theorem dX12_moves_28 : decode cX12_moves 28 = .ok (.ireturn, 1) := by decide +kernel
theorem dX12_moves_29 : decode cX12_moves 29 = .ok (.aload_n 0, 1) := by decide +kernel
theorem dX12_moves_30 : decode cX12_moves 30 = .ok (.getfield 35, 3) := by decide +kernel
theorem dX12_moves_33 : decode cX12_moves 33 = .ok (.bipush 67, 2) := by decide +kernel
theorem dX12_moves_35 : decode cX12_moves 35 = .ok (.iload_n 3, 1) := by decide +kernel
theorem dX12_moves_36 : decode cX12_moves 36 = .ok (.iadd, 1) := by decide +kernel
theorem dX12_moves_37 : decode cX12_moves 37 = .ok (.iload_n 2, 1) := by decide +kernel
theorem dX12_moves_38 : decode cX12_moves 38 = .ok (.iastore, 1) := by decide +kernel
theorem dX12_moves_39 : decode cX12_moves 39 = .ok (.aload_n 0, 1) := by decide +kernel
theorem dX12_moves_40 : decode cX12_moves 40 = .ok (.getfield 35, 3) := by decide +kernel
theorem dX12_moves_43 : decode cX12_moves 43 = .ok (.bipush 67, 2) := by decide +kernel
theorem dX12_moves_45 : decode cX12_moves 45 = .ok (.iload 4, 2) := by decide +kernel
theorem dX12_moves_47 : decode cX12_moves 47 = .ok (.iadd, 1) := by decide +kernel
theorem dX12_moves_48 : decode cX12_moves 48 = .ok (.iload_n 1, 1) := by decide +kernel
theorem dX12_moves_49 : decode cX12_moves 49 = .ok (.iastore, 1) := by decide +kernel
theorem dX12_moves_50 : decode cX12_moves 50 = .ok (.iconst 1, 1) := by decide +kernel
theorem dX12_moves_51 : decode cX12_moves 51 = .ok (.ireturn, 1) := by decide +kernel
theorem dX12_move_0 : decode cX12_move 0 = .ok (.aload_n 0, 1) := by decide +kernel
theorem dX12_move_1 : decode cX12_move 1 = .ok (.iconst 0, 1) := by decide +kernel
theorem dX12_move_2 : decode cX12_move 2 = .ok (.putfield 71, 3) := by decide +kernel
theorem dX12_move_5 : decode cX12_move 5 = .ok (.aload_n 0, 1) := by decide +kernel
theorem dX12_move_6 : decode cX12_move 6 = .ok (.iconst 0, 1) := by decide +kernel
theorem dX12_move_7 : decode cX12_move 7 = .ok (.putfield 74, 3) := by decide +kernel
theorem dX12_move_10 : decode cX12_move 10 = .ok (.aload_n 0, 1) := by decide +kernel
theorem dX12_move_11 : decode cX12_move 11 = .ok (.iload_n 1, 1) := by decide +kernel
theorem dX12_move_12 : decode cX12_move 12 = .ok (.invokevirtual 330, 3) := by decide +kernel
theorem dX12_move_15 : decode cX12_move 15 = .ok (.ifCond .eq 11, 3) := by decide +kernel
theorem dX12_move_18 : decode cX12_move 18 = .ok (.aload_n 0, 1) := by decide +kernel
theorem dX12_move_19 : decode cX12_move 19 = .ok (.iload_n 2, 1) := by decide +kernel
theorem dX12_move_20 : decode cX12_move 20 = .ok (.invokevirtual 330, 3) := by decide +kernel
theorem dX12_move_23 : decode cX12_move 23 = .ok (.ifCond .ne 9, 3) := by decide +kernel
theorem dX12_move_26 : decode cX12_move 26 = .ok (.aload_n 0, 1) := by decide +kernel
theorem dX12_move_27 : decode cX12_move 27 = .ok (.iconst 2, 1) := by decide +kernel
theorem dX12_move_28 : decode cX12_move 28 = .ok (.invokevirtual 86, 3) := by decide +kernel
theorem dX12_move_31 : decode cX12_move 31 = .ok (.ireturn, 1) := by decide +kernel
theorem dX12_move_32 : decode cX12_move 32 = .ok (.aload_n 0, 1) := by decide +kernel
theorem dX12_move_33 : decode cX12_move 33 = .ok (.iload_n 1, 1) := by decide +kernel
theorem dX12_move_34 : decode cX12_move 34 = .ok (.iload_n 2, 1) := by decide +kernel
theorem dX12_move_35 : decode cX12_move 35 = .ok (.invokevirtual 382, 3) := by decide +kernel
theorem dX12_move_38 : decode cX12_move 38 = .ok (.ifCond .ne 12, 3) := by decide +kernel
theorem dX12_move_41 : decode cX12_move 41 = .ok (.aload_n 0, 1) := by decide +kernel
theorem dX12_move_42 : decode cX12_move 42 = .ok (.bipush 9, 2) := by decide +kernel
theorem dX12_move_44 : decode cX12_move 44 = .ok (.invokevirtual 86, 3) := by decide +kernel
theorem dX12_move_47 : decode cX12_move 47 = .ok (.ifCond .eq 7, 3) := by decide +kernel
theorem dX12_move_50 : decode cX12_move 50 = .ok (.iconst 1, 1) := by decide +kernel
theorem dX12_move_51 : decode cX12_move 51 = .ok (.goto 4, 3) := by decide +kernel
theorem dX12_move_54 : decode cX12_move 54 = .ok (.iconst 0, 1) := by decide +kernel
theorem dX12_move_55 : decode cX12_move 55 = .ok (.ireturn, 1) := by decide +kernel
theorem dX12_tell_0 : decode cX12_tell 0 = .ok (.aload_n 0, 1) := by decide +kernel
theorem dX12_tell_1 : decode cX12_tell 1 = .ok (.iconst 0, 1) := by decide +kernel
theorem dX12_tell_2 : decode cX12_tell 2 = .ok (.putfield 71, 3) := by decide +kernel
theorem dX12_tell_5 : decode cX12_tell 5 = .ok (.aload_n 0, 1) := by decide +kernel
theorem dX12_tell_6 : decode cX12_tell 6 = .ok (.iconst 0, 1) := by decide +kernel
theorem dX12_tell_7 : decode cX12_tell 7 = .ok (.putfield 74, 3) := by decide +kernel
theorem dX12_tell_10 : decode cX12_tell 10 = .ok (.aload_n 0, 1) := by decide +kernel
theorem dX12_tell_11 : decode cX12_tell 11 = .ok (.iload_n 1, 1) := by decide +kernel
theorem dX12_tell_12 : decode cX12_tell 12 = .ok (.invokevirtual 330, 3) := by decide +kernel
theorem dX12_tell_15 : decode cX12_tell 15 = .ok (.ifCond .eq 11, 3) := by decide +kernel
theorem dX12_tell_18 : decode cX12_tell 18 = .ok (.aload_n 0, 1) := by decide +kernel
theorem dX12_tell_19 : decode cX12_tell 19 = .ok (.iload_n 2, 1) := by decide +kernel
theorem dX12_tell_20 : decode cX12_tell 20 = .ok (.invokevirtual 338, 3) := by decide +kernel
theorem dX12_tell_23 : decode cX12_tell 23 = .ok (.ifCond .ne 9, 3) := by decide +kernel
theorem dX12_tell_26 : decode cX12_tell 26 = .ok (.aload_n 0, 1) := by decide +kernel
theorem dX12_tell_27 : decode cX12_tell 27 = .ok (.iconst 2, 1) := by decide +kernel
theorem dX12_tell_28 : decode cX12_tell 28 = .ok (.invokevirtual 86, 3) := by decide +kernel
theorem dX12_tell_31 : decode cX12_tell 31 = .ok (.ireturn, 1) := by decide +kernel
theorem dX12_tell_32 : decode cX12_tell 32 = .ok (.aload_n 0, 1) := by decide +kernel
theorem dX12_tell_33 : decode cX12_tell 33 = .ok (.getfield 35, 3) := by decide +kernel
theorem dX12_tell_36 : decode cX12_tell 36 = .ok (.bipush 33, 2) := by decide +kernel
theorem dX12_tell_38 : decode cX12_tell 38 = .ok (.iload_n 1, 1) := by decide +kernel
theorem dX12_tell_39 : decode cX12_tell 39 = .ok (.iadd, 1) := by decide +kernel
theorem dX12_tell_40 : decode cX12_tell 40 = .ok (.iaload, 1) := by decide +kernel
theorem dX12_tell_41 : decode cX12_tell 41 = .ok (.iload_n 2, 1) := by decide +kernel
theorem dX12_tell_42 : decode cX12_tell 42 = .ok (.invokestatic 110, 3) := by decide +kernel
theorem dX12_tell_45 : decode cX12_tell 45 = .ok (.ifCond .eq 10, 3) := by decide +kernel
theorem dX12_tell_48 : decode cX12_tell 48 = .ok (.aload_n 0, 1) := by decide +kernel
theorem dX12_tell_49 : decode cX12_tell 49 = .ok (.bipush 9, 2) := by decide +kernel
theorem dX12_tell_51 : decode cX12_tell 51 = .ok (.invokevirtual 86, 3) := by decide +kernel
theorem dX12_tell_54 : decode cX12_tell 54 = .ok (.ireturn, 1) := by decide +kernel
theorem dX12_tell_55 : decode cX12_tell 55 = .ok (.aload_n 0, 1) := by decide +kernel
theorem dX12_tell_56 : decode cX12_tell 56 = .ok (.getfield 35, 3) := by decide +kernel
theorem dX12_tell_59 : decode cX12_tell 59 = .ok (.bipush 33, 2) := by decide +kernel
theorem dX12_tell_61 : decode cX12_tell 61 = .ok (.iload_n 1, 1) := by decide +kernel
theorem dX12_tell_62 : decode cX12_tell 62 = .ok (.iadd, 1) := by decide +kernel
theorem dX12_tell_63 : decode cX12_tell 63 = .ok (.dup2, 1) := by decide +kernel
theorem dX12_tell_64 : decode cX12_tell 64 = .ok (.iaload, 1) := by decide +kernel
theorem dX12_tell_65 : decode cX12_tell 65 = .ok (.iconst 1, 1) := by decide +kernel
theorem dX12_tell_66 : decode cX12_tell 66 = .ok (.iload_n 2, 1) := by decide +kernel
theorem dX12_tell_67 : decode cX12_tell 67 = .ok (.ishl, 1) := by decide +kernel
theorem dX12_tell_68 : decode cX12_tell 68 = .ok (.ior, 1) := by decide +kernel
theorem dX12_tell_69 : decode cX12_tell 69 = .ok (.iastore, 1) := by decide +kernel
theorem dX12_tell_70 : decode cX12_tell 70 = .ok (.iconst 1, 1) := by decide +kernel
theorem dX12_tell_71 : decode cX12_tell 71 = .ok (.ireturn, 1) := by decide +kernel
theorem dX12_watch_0 : decode cX12_watch 0 = .ok (.aload_n 0, 1) := by decide +kernel
theorem dX12_watch_1 : decode cX12_watch 1 = .ok (.iconst 0, 1) := by decide +kernel
theorem dX12_watch_2 : decode cX12_watch 2 = .ok (.putfield 71, 3) := by decide +kernel
theorem dX12_watch_5 : decode cX12_watch 5 = .ok (.aload_n 0, 1) := by decide +kernel
theorem dX12_watch_6 : decode cX12_watch 6 = .ok (.iconst 0, 1) := by decide +kernel
theorem dX12_watch_7 : decode cX12_watch 7 = .ok (.putfield 74, 3) := by decide +kernel
theorem dX12_watch_10 : decode cX12_watch 10 = .ok (.aload_n 0, 1) := by decide +kernel
theorem dX12_watch_11 : decode cX12_watch 11 = .ok (.iload_n 1, 1) := by decide +kernel
theorem dX12_watch_12 : decode cX12_watch 12 = .ok (.invokevirtual 341, 3) := by decide +kernel
theorem dX12_watch_15 : decode cX12_watch 15 = .ok (.ifCond .ne 9, 3) := by decide +kernel
theorem dX12_watch_18 : decode cX12_watch 18 = .ok (.aload_n 0, 1) := by decide +kernel
theorem dX12_watch_19 : decode cX12_watch 19 = .ok (.iconst 2, 1) := by decide +kernel
theorem dX12_watch_20 : decode cX12_watch 20 = .ok (.invokevirtual 86, 3) := by decide +kernel
theorem dX12_watch_23 : decode cX12_watch 23 = .ok (.ireturn, 1) := by decide +kernel
theorem dX12_watch_24 : decode cX12_watch 24 = .ok (.iload_n 2, 1) := by decide +kernel
theorem dX12_watch_25 : decode cX12_watch 25 = .ok (.i2l, 1) := by decide +kernel
theorem dX12_watch_26 : decode cX12_watch 26 = .ok (.lconst 0, 1) := by decide +kernel
theorem dX12_watch_27 : decode cX12_watch 27 = .ok (.ldc2_w 385, 3) := by decide +kernel
theorem dX12_watch_30 : decode cX12_watch 30 = .ok (.invokestatic 106, 3) := by decide +kernel
theorem dX12_watch_33 : decode cX12_watch 33 = .ok (.ifCond .ne 9, 3) := by decide +kernel
theorem dX12_watch_36 : decode cX12_watch 36 = .ok (.aload_n 0, 1) := by decide +kernel
theorem dX12_watch_37 : decode cX12_watch 37 = .ok (.iconst 5, 1) := by decide +kernel
theorem dX12_watch_38 : decode cX12_watch 38 = .ok (.invokevirtual 86, 3) := by decide +kernel
theorem dX12_watch_41 : decode cX12_watch 41 = .ok (.ireturn, 1) := by decide +kernel
theorem dX12_watch_42 : decode cX12_watch 42 = .ok (.aload_n 0, 1) := by decide +kernel
theorem dX12_watch_43 : decode cX12_watch 43 = .ok (.getfield 35, 3) := by decide +kernel
theorem dX12_watch_46 : decode cX12_watch 46 = .ok (.bipush 61, 2) := by decide +kernel
theorem dX12_watch_48 : decode cX12_watch 48 = .ok (.iload_n 1, 1) := by decide +kernel
theorem dX12_watch_49 : decode cX12_watch 49 = .ok (.iadd, 1) := by decide +kernel
theorem dX12_watch_50 : decode cX12_watch 50 = .ok (.iload_n 2, 1) := by decide +kernel
theorem dX12_watch_51 : decode cX12_watch 51 = .ok (.iastore, 1) := by decide +kernel
theorem dX12_watch_52 : decode cX12_watch 52 = .ok (.iconst 1, 1) := by decide +kernel
theorem dX12_watch_53 : decode cX12_watch 53 = .ok (.ireturn, 1) := by decide +kernel
theorem dX12_keeps_0 : decode cX12_keeps 0 = .ok (.iconst 0, 1) := by decide +kernel
theorem dX12_keeps_1 : decode cX12_keeps 1 = .ok (.istore_n 1, 1) := by decide +kernel
theorem dX12_keeps_2 : decode cX12_keeps 2 = .ok (.iload_n 1, 1) := by decide +kernel
theorem dX12_keeps_3 : decode cX12_keeps 3 = .ok (.bipush 111, 2) := by decide +kernel
theorem dX12_keeps_5 : decode cX12_keeps 5 = .ok (.if_icmp .ge 21, 3) := by decide +kernel
theorem dX12_keeps_8 : decode cX12_keeps 8 = .ok (.aload_n 0, 1) := by decide +kernel
theorem dX12_keeps_9 : decode cX12_keeps 9 = .ok (.getfield 38, 3) := by decide +kernel
theorem dX12_keeps_12 : decode cX12_keeps 12 = .ok (.iload_n 1, 1) := by decide +kernel
theorem dX12_keeps_13 : decode cX12_keeps 13 = .ok (.aload_n 0, 1) := by decide +kernel
theorem dX12_keeps_14 : decode cX12_keeps 14 = .ok (.getfield 35, 3) := by decide +kernel
theorem dX12_keeps_17 : decode cX12_keeps 17 = .ok (.iload_n 1, 1) := by decide +kernel
theorem dX12_keeps_18 : decode cX12_keeps 18 = .ok (.iaload, 1) := by decide +kernel
theorem dX12_keeps_19 : decode cX12_keeps 19 = .ok (.iastore, 1) := by decide +kernel
theorem dX12_keeps_20 : decode cX12_keeps 20 = .ok (.iinc 1 1, 3) := by decide +kernel
theorem dX12_keeps_23 : decode cX12_keeps 23 = .ok (.goto (-21), 3) := by decide +kernel
theorem dX12_keeps_26 : decode cX12_keeps 26 = .ok (.return_, 1) := by decide +kernel
theorem dX12_gives_0 : decode cX12_gives 0 = .ok (.iconst 0, 1) := by decide +kernel
theorem dX12_gives_1 : decode cX12_gives 1 = .ok (.istore_n 1, 1) := by decide +kernel
theorem dX12_gives_2 : decode cX12_gives 2 = .ok (.iload_n 1, 1) := by decide +kernel
theorem dX12_gives_3 : decode cX12_gives 3 = .ok (.bipush 111, 2) := by decide +kernel
theorem dX12_gives_5 : decode cX12_gives 5 = .ok (.if_icmp .ge 21, 3) := by decide +kernel
theorem dX12_gives_8 : decode cX12_gives 8 = .ok (.aload_n 0, 1) := by decide +kernel
theorem dX12_gives_9 : decode cX12_gives 9 = .ok (.getfield 35, 3) := by decide +kernel
theorem dX12_gives_12 : decode cX12_gives 12 = .ok (.iload_n 1, 1) := by decide +kernel
theorem dX12_gives_13 : decode cX12_gives 13 = .ok (.aload_n 0, 1) := by decide +kernel
theorem dX12_gives_14 : decode cX12_gives 14 = .ok (.getfield 38, 3) := by decide +kernel
theorem dX12_gives_17 : decode cX12_gives 17 = .ok (.iload_n 1, 1) := by decide +kernel
theorem dX12_gives_18 : decode cX12_gives 18 = .ok (.iaload, 1) := by decide +kernel
theorem dX12_gives_19 : decode cX12_gives 19 = .ok (.iastore, 1) := by decide +kernel
theorem dX12_gives_20 : decode cX12_gives 20 = .ok (.iinc 1 1, 3) := by decide +kernel
theorem dX12_gives_23 : decode cX12_gives 23 = .ok (.goto (-21), 3) := by decide +kernel
theorem dX12_gives_26 : decode cX12_gives 26 = .ok (.return_, 1) := by decide +kernel
theorem dX12_knownToAll_0 : decode cX12_knownToAll 0 = .ok (.iconst 1, 1) := by decide +kernel
theorem dX12_knownToAll_1 : decode cX12_knownToAll 1 = .ok (.aload_n 0, 1) := by decide +kernel
theorem dX12_knownToAll_2 : decode cX12_knownToAll 2 = .ok (.getfield 35, 3) := by decide +kernel
theorem dX12_knownToAll_5 : decode cX12_knownToAll 5 = .ok (.iconst 1, 1) := by decide +kernel
theorem dX12_knownToAll_6 : decode cX12_knownToAll 6 = .ok (.iaload, 1) := by decide +kernel
theorem dX12_knownToAll_7 : decode cX12_knownToAll 7 = .ok (.ishl, 1) := by decide +kernel
theorem dX12_knownToAll_8 : decode cX12_knownToAll 8 = .ok (.iconst 1, 1) := by decide +kernel
theorem dX12_knownToAll_9 : decode cX12_knownToAll 9 = .ok (.isub, 1) := by decide +kernel
theorem dX12_knownToAll_10 : decode cX12_knownToAll 10 = .ok (.istore_n 1, 1) := by decide +kernel
theorem dX12_knownToAll_11 : decode cX12_knownToAll 11 = .ok (.iconst 0, 1) := by decide +kernel
theorem dX12_knownToAll_12 : decode cX12_knownToAll 12 = .ok (.istore_n 2, 1) := by decide +kernel
theorem dX12_knownToAll_13 : decode cX12_knownToAll 13 = .ok (.iload_n 2, 1) := by decide +kernel
theorem dX12_knownToAll_14 : decode cX12_knownToAll 14 = .ok (.aload_n 0, 1) := by decide +kernel
theorem dX12_knownToAll_15 : decode cX12_knownToAll 15 = .ok (.getfield 35, 3) := by decide +kernel
theorem dX12_knownToAll_18 : decode cX12_knownToAll 18 = .ok (.iconst 0, 1) := by decide +kernel
theorem dX12_knownToAll_19 : decode cX12_knownToAll 19 = .ok (.iaload, 1) := by decide +kernel
theorem dX12_knownToAll_20 : decode cX12_knownToAll 20 = .ok (.if_icmp .ge 38, 3) := by decide +kernel
theorem dX12_knownToAll_23 : decode cX12_knownToAll 23 = .ok (.iload_n 1, 1) := by decide +kernel
theorem dX12_knownToAll_24 : decode cX12_knownToAll 24 = .ok (.aload_n 0, 1) := by decide +kernel
theorem dX12_knownToAll_25 : decode cX12_knownToAll 25 = .ok (.getfield 35, 3) := by decide +kernel
theorem dX12_knownToAll_28 : decode cX12_knownToAll 28 = .ok (.bipush 17, 2) := by decide +kernel
theorem dX12_knownToAll_30 : decode cX12_knownToAll 30 = .ok (.iload_n 2, 1) := by decide +kernel
theorem dX12_knownToAll_31 : decode cX12_knownToAll 31 = .ok (.iadd, 1) := by decide +kernel
theorem dX12_knownToAll_32 : decode cX12_knownToAll 32 = .ok (.iaload, 1) := by decide +kernel
theorem dX12_knownToAll_33 : decode cX12_knownToAll 33 = .ok (.iconst 1, 1) := by decide +kernel
theorem dX12_knownToAll_34 : decode cX12_knownToAll 34 = .ok (.if_icmp .ne 7, 3) := by decide +kernel
theorem dX12_knownToAll_37 : decode cX12_knownToAll 37 = .ok (.iconst (-1), 1) := by decide +kernel
theorem dX12_knownToAll_38 : decode cX12_knownToAll 38 = .ok (.goto 12, 3) := by decide +kernel
theorem dX12_knownToAll_41 : decode cX12_knownToAll 41 = .ok (.aload_n 0, 1) := by decide +kernel
theorem dX12_knownToAll_42 : decode cX12_knownToAll 42 = .ok (.getfield 35, 3) := by decide +kernel
theorem dX12_knownToAll_45 : decode cX12_knownToAll 45 = .ok (.bipush 33, 2) := by decide +kernel
theorem dX12_knownToAll_47 : decode cX12_knownToAll 47 = .ok (.iload_n 2, 1) := by decide +kernel
theorem dX12_knownToAll_48 : decode cX12_knownToAll 48 = .ok (.iadd, 1) := by decide +kernel
theorem dX12_knownToAll_49 : decode cX12_knownToAll 49 = .ok (.iaload, 1) := by decide +kernel
theorem dX12_knownToAll_50 : decode cX12_knownToAll 50 = .ok (.iand, 1) := by decide +kernel
theorem dX12_knownToAll_51 : decode cX12_knownToAll 51 = .ok (.istore_n 1, 1) := by decide +kernel
theorem dX12_knownToAll_52 : decode cX12_knownToAll 52 = .ok (.iinc 2 1, 3) := by decide +kernel
theorem dX12_knownToAll_55 : decode cX12_knownToAll 55 = .ok (.goto (-42), 3) := by decide +kernel
theorem dX12_knownToAll_58 : decode cX12_knownToAll 58 = .ok (.iload_n 1, 1) := by decide +kernel
theorem dX12_knownToAll_59 : decode cX12_knownToAll 59 = .ok (.ireturn, 1) := by decide +kernel
theorem dX12_turnWith_0 : decode cX12_turnWith 0 = .ok (.aload_n 0, 1) := by decide +kernel
theorem dX12_turnWith_1 : decode cX12_turnWith 1 = .ok (.invokevirtual 387, 3) := by decide +kernel
theorem dX12_turnWith_4 : decode cX12_turnWith 4 = .ok (.iconst 0, 1) := by decide +kernel
theorem dX12_turnWith_5 : decode cX12_turnWith 5 = .ok (.istore 4, 2) := by decide +kernel
theorem dX12_turnWith_7 : decode cX12_turnWith 7 = .ok (.iload 4, 2) := by decide +kernel
theorem dX12_turnWith_9 : decode cX12_turnWith 9 = .ok (.iload_n 3, 1) := by decide +kernel
theorem dX12_turnWith_10 : decode cX12_turnWith 10 = .ok (.if_icmp .gt 40, 3) := by decide +kernel
theorem dX12_turnWith_13 : decode cX12_turnWith 13 = .ok (.iload_n 2, 1) := by decide +kernel
theorem dX12_turnWith_14 : decode cX12_turnWith 14 = .ok (.iload_n 1, 1) := by decide +kernel
theorem dX12_turnWith_15 : decode cX12_turnWith 15 = .ok (.ifCond .ge 10, 3) := by decide +kernel
theorem dX12_turnWith_18 : decode cX12_turnWith 18 = .ok (.aload_n 0, 1) := by decide +kernel
theorem dX12_turnWith_19 : decode cX12_turnWith 19 = .ok (.invokevirtual 390, 3) := by decide +kernel
theorem dX12_turnWith_22 : decode cX12_turnWith 22 = .ok (.goto 12, 3) := by decide +kernel
theorem dX12_turnWith_25 : decode cX12_turnWith 25 = .ok (.aload_n 0, 1) := by decide +kernel
theorem dX12_turnWith_26 : decode cX12_turnWith 26 = .ok (.getfield 35, 3) := by decide +kernel
theorem dX12_turnWith_29 : decode cX12_turnWith 29 = .ok (.bipush 33, 2) := by decide +kernel
theorem dX12_turnWith_31 : decode cX12_turnWith 31 = .ok (.iload_n 1, 1) := by decide +kernel
theorem dX12_turnWith_32 : decode cX12_turnWith 32 = .ok (.iadd, 1) := by decide +kernel
theorem dX12_turnWith_33 : decode cX12_turnWith 33 = .ok (.iaload, 1) := by decide +kernel
theorem dX12_turnWith_34 : decode cX12_turnWith 34 = .ok (.iconst (-1), 1) := by decide +kernel
theorem dX12_turnWith_35 : decode cX12_turnWith 35 = .ok (.ixor, 1) := by decide +kernel
theorem dX12_turnWith_36 : decode cX12_turnWith 36 = .ok (.iand, 1) := by decide +kernel
theorem dX12_turnWith_37 : decode cX12_turnWith 37 = .ok (.ifCond .eq 13, 3) := by decide +kernel
theorem dX12_turnWith_40 : decode cX12_turnWith 40 = .ok (.aload_n 0, 1) := by decide +kernel
theorem dX12_turnWith_41 : decode cX12_turnWith 41 = .ok (.invokevirtual 376, 3) := by decide +kernel
theorem dX12_turnWith_44 : decode cX12_turnWith 44 = .ok (.iinc 4 1, 3) := by decide +kernel
theorem dX12_turnWith_47 : decode cX12_turnWith 47 = .ok (.goto (-40), 3) := by decide +kernel
theorem dX12_turnWith_50 : decode cX12_turnWith 50 = .ok (.aload_n 0, 1) := by decide +kernel
theorem dX12_turnWith_51 : decode cX12_turnWith 51 = .ok (.invokevirtual 393, 3) := by decide +kernel
theorem dX12_turnWith_54 : decode cX12_turnWith 54 = .ok (.iload 4, 2) := by decide +kernel
theorem dX12_turnWith_56 : decode cX12_turnWith 56 = .ok (.iload_n 3, 1) := by decide +kernel
theorem dX12_turnWith_57 : decode cX12_turnWith 57 = .ok (.if_icmp .le 7, 3) := by decide +kernel
theorem dX12_turnWith_60 : decode cX12_turnWith 60 = .ok (.iconst (-1), 1) := by decide +kernel
theorem dX12_turnWith_61 : decode cX12_turnWith 61 = .ok (.goto 5, 3) := by decide +kernel
theorem dX12_turnWith_64 : decode cX12_turnWith 64 = .ok (.iload 4, 2) := by decide +kernel
theorem dX12_turnWith_66 : decode cX12_turnWith 66 = .ok (.ireturn, 1) := by decide +kernel
theorem dX12_when_0 : decode cX12_when 0 = .ok (.aload_n 0, 1) := by decide +kernel
theorem dX12_when_1 : decode cX12_when 1 = .ok (.iconst 0, 1) := by decide +kernel
theorem dX12_when_2 : decode cX12_when 2 = .ok (.putfield 71, 3) := by decide +kernel
theorem dX12_when_5 : decode cX12_when 5 = .ok (.aload_n 0, 1) := by decide +kernel
theorem dX12_when_6 : decode cX12_when 6 = .ok (.iconst 0, 1) := by decide +kernel
theorem dX12_when_7 : decode cX12_when 7 = .ok (.putfield 74, 3) := by decide +kernel
theorem dX12_when_10 : decode cX12_when 10 = .ok (.aload_n 0, 1) := by decide +kernel
theorem dX12_when_11 : decode cX12_when 11 = .ok (.iload_n 1, 1) := by decide +kernel
theorem dX12_when_12 : decode cX12_when 12 = .ok (.invokevirtual 330, 3) := by decide +kernel
theorem dX12_when_15 : decode cX12_when 15 = .ok (.ifCond .eq 11, 3) := by decide +kernel
theorem dX12_when_18 : decode cX12_when 18 = .ok (.aload_n 0, 1) := by decide +kernel
theorem dX12_when_19 : decode cX12_when 19 = .ok (.iload_n 2, 1) := by decide +kernel
theorem dX12_when_20 : decode cX12_when 20 = .ok (.invokevirtual 338, 3) := by decide +kernel
theorem dX12_when_23 : decode cX12_when 23 = .ok (.ifCond .ne 9, 3) := by decide +kernel
theorem dX12_when_26 : decode cX12_when 26 = .ok (.aload_n 0, 1) := by decide +kernel
theorem dX12_when_27 : decode cX12_when 27 = .ok (.iconst 2, 1) := by decide +kernel
theorem dX12_when_28 : decode cX12_when 28 = .ok (.invokevirtual 324, 3) := by decide +kernel
theorem dX12_when_31 : decode cX12_when 31 = .ok (.ireturn, 1) := by decide +kernel
theorem dX12_when_32 : decode cX12_when 32 = .ok (.aload_n 0, 1) := by decide +kernel
theorem dX12_when_33 : decode cX12_when 33 = .ok (.iload_n 1, 1) := by decide +kernel
theorem dX12_when_34 : decode cX12_when 34 = .ok (.iconst 1, 1) := by decide +kernel
theorem dX12_when_35 : decode cX12_when 35 = .ok (.iload_n 2, 1) := by decide +kernel
theorem dX12_when_36 : decode cX12_when 36 = .ok (.ishl, 1) := by decide +kernel
theorem dX12_when_37 : decode cX12_when 37 = .ok (.sipush 999, 3) := by decide +kernel
theorem dX12_when_40 : decode cX12_when 40 = .ok (.invokevirtual 396, 3) := by decide +kernel
theorem dX12_when_43 : decode cX12_when 43 = .ok (.istore_n 3, 1) := by decide +kernel
theorem dX12_when_44 : decode cX12_when 44 = .ok (.iload_n 3, 1) := by decide +kernel
theorem dX12_when_45 : decode cX12_when 45 = .ok (.ifCond .ge 12, 3) := by decide +kernel
theorem dX12_when_48 : decode cX12_when 48 = .ok (.aload_n 0, 1) := by decide +kernel
theorem dX12_when_49 : decode cX12_when 49 = .ok (.bipush 8, 2) := by decide +kernel
theorem dX12_when_51 : decode cX12_when 51 = .ok (.invokevirtual 324, 3) := by decide +kernel
theorem dX12_when_54 : decode cX12_when 54 = .ok (.goto 4, 3) := by decide +kernel
theorem dX12_when_57 : decode cX12_when 57 = .ok (.iload_n 3, 1) := by decide +kernel
theorem dX12_when_58 : decode cX12_when 58 = .ok (.ireturn, 1) := by decide +kernel
theorem dX12_heard_0 : decode cX12_heard 0 = .ok (.aload_n 0, 1) := by decide +kernel
theorem dX12_heard_1 : decode cX12_heard 1 = .ok (.iconst 0, 1) := by decide +kernel
theorem dX12_heard_2 : decode cX12_heard 2 = .ok (.putfield 71, 3) := by decide +kernel
theorem dX12_heard_5 : decode cX12_heard 5 = .ok (.aload_n 0, 1) := by decide +kernel
theorem dX12_heard_6 : decode cX12_heard 6 = .ok (.iconst 0, 1) := by decide +kernel
theorem dX12_heard_7 : decode cX12_heard 7 = .ok (.putfield 74, 3) := by decide +kernel
theorem dX12_heard_10 : decode cX12_heard 10 = .ok (.aload_n 0, 1) := by decide +kernel
theorem dX12_heard_11 : decode cX12_heard 11 = .ok (.iload_n 1, 1) := by decide +kernel
theorem dX12_heard_12 : decode cX12_heard 12 = .ok (.invokevirtual 338, 3) := by decide +kernel
theorem dX12_heard_15 : decode cX12_heard 15 = .ok (.ifCond .ne 9, 3) := by decide +kernel
theorem dX12_heard_18 : decode cX12_heard 18 = .ok (.aload_n 0, 1) := by decide +kernel
theorem dX12_heard_19 : decode cX12_heard 19 = .ok (.iconst 2, 1) := by decide +kernel
theorem dX12_heard_20 : decode cX12_heard 20 = .ok (.invokevirtual 324, 3) := by decide +kernel
theorem dX12_heard_23 : decode cX12_heard 23 = .ok (.ireturn, 1) := by decide +kernel
theorem dX12_heard_24 : decode cX12_heard 24 = .ok (.aload_n 0, 1) := by decide +kernel
theorem dX12_heard_25 : decode cX12_heard 25 = .ok (.iconst (-1), 1) := by decide +kernel
theorem dX12_heard_26 : decode cX12_heard 26 = .ok (.iconst 1, 1) := by decide +kernel
theorem dX12_heard_27 : decode cX12_heard 27 = .ok (.iload_n 1, 1) := by decide +kernel
theorem dX12_heard_28 : decode cX12_heard 28 = .ok (.ishl, 1) := by decide +kernel
theorem dX12_heard_29 : decode cX12_heard 29 = .ok (.sipush 999, 3) := by decide +kernel
theorem dX12_heard_32 : decode cX12_heard 32 = .ok (.invokevirtual 396, 3) := by decide +kernel
theorem dX12_heard_35 : decode cX12_heard 35 = .ok (.istore_n 2, 1) := by decide +kernel
theorem dX12_heard_36 : decode cX12_heard 36 = .ok (.iload_n 2, 1) := by decide +kernel
theorem dX12_heard_37 : decode cX12_heard 37 = .ok (.ifCond .ge 12, 3) := by decide +kernel
theorem dX12_heard_40 : decode cX12_heard 40 = .ok (.aload_n 0, 1) := by decide +kernel
theorem dX12_heard_41 : decode cX12_heard 41 = .ok (.bipush 8, 2) := by decide +kernel
theorem dX12_heard_43 : decode cX12_heard 43 = .ok (.invokevirtual 324, 3) := by decide +kernel
theorem dX12_heard_46 : decode cX12_heard 46 = .ok (.goto 4, 3) := by decide +kernel
theorem dX12_heard_49 : decode cX12_heard 49 = .ok (.iload_n 2, 1) := by decide +kernel
theorem dX12_heard_50 : decode cX12_heard 50 = .ok (.ireturn, 1) := by decide +kernel
theorem dX12_allSecrets_0 : decode cX12_allSecrets 0 = .ok (.iconst 1, 1) := by decide +kernel
theorem dX12_allSecrets_1 : decode cX12_allSecrets 1 = .ok (.aload_n 0, 1) := by decide +kernel
theorem dX12_allSecrets_2 : decode cX12_allSecrets 2 = .ok (.getfield 35, 3) := by decide +kernel
theorem dX12_allSecrets_5 : decode cX12_allSecrets 5 = .ok (.iconst 1, 1) := by decide +kernel
theorem dX12_allSecrets_6 : decode cX12_allSecrets 6 = .ok (.iaload, 1) := by decide +kernel
theorem dX12_allSecrets_7 : decode cX12_allSecrets 7 = .ok (.ishl, 1) := by decide +kernel
theorem dX12_allSecrets_8 : decode cX12_allSecrets 8 = .ok (.iconst 1, 1) := by decide +kernel
theorem dX12_allSecrets_9 : decode cX12_allSecrets 9 = .ok (.isub, 1) := by decide +kernel
theorem dX12_allSecrets_10 : decode cX12_allSecrets 10 = .ok (.ireturn, 1) := by decide +kernel
theorem dX12_all_0 : decode cX12_all 0 = .ok (.aload_n 0, 1) := by decide +kernel
theorem dX12_all_1 : decode cX12_all 1 = .ok (.iconst 0, 1) := by decide +kernel
theorem dX12_all_2 : decode cX12_all 2 = .ok (.putfield 71, 3) := by decide +kernel
theorem dX12_all_5 : decode cX12_all 5 = .ok (.aload_n 0, 1) := by decide +kernel
theorem dX12_all_6 : decode cX12_all 6 = .ok (.iconst 0, 1) := by decide +kernel
theorem dX12_all_7 : decode cX12_all 7 = .ok (.putfield 74, 3) := by decide +kernel
theorem dX12_all_10 : decode cX12_all 10 = .ok (.aload_n 0, 1) := by decide +kernel
theorem dX12_all_11 : decode cX12_all 11 = .ok (.iconst (-1), 1) := by decide +kernel
theorem dX12_all_12 : decode cX12_all 12 = .ok (.aload_n 0, 1) := by decide +kernel
theorem dX12_all_13 : decode cX12_all 13 = .ok (.invokevirtual 400, 3) := by decide +kernel
theorem dX12_all_16 : decode cX12_all 16 = .ok (.sipush 999, 3) := by decide +kernel
theorem dX12_all_19 : decode cX12_all 19 = .ok (.invokevirtual 396, 3) := by decide +kernel
theorem dX12_all_22 : decode cX12_all 22 = .ok (.istore_n 1, 1) := by decide +kernel
theorem dX12_all_23 : decode cX12_all 23 = .ok (.iload_n 1, 1) := by decide +kernel
theorem dX12_all_24 : decode cX12_all 24 = .ok (.ifCond .ge 12, 3) := by decide +kernel
theorem dX12_all_27 : decode cX12_all 27 = .ok (.aload_n 0, 1) := by decide +kernel
theorem dX12_all_28 : decode cX12_all 28 = .ok (.bipush 8, 2) := by decide +kernel
theorem dX12_all_30 : decode cX12_all 30 = .ok (.invokevirtual 324, 3) := by decide +kernel
theorem dX12_all_33 : decode cX12_all 33 = .ok (.goto 4, 3) := by decide +kernel
theorem dX12_all_36 : decode cX12_all 36 = .ok (.iload_n 1, 1) := by decide +kernel
theorem dX12_all_37 : decode cX12_all 37 = .ok (.ireturn, 1) := by decide +kernel
theorem dX12_later_0 : decode cX12_later 0 = .ok (.aload_n 0, 1) := by decide +kernel
theorem dX12_later_1 : decode cX12_later 1 = .ok (.iconst 0, 1) := by decide +kernel
theorem dX12_later_2 : decode cX12_later 2 = .ok (.putfield 71, 3) := by decide +kernel
theorem dX12_later_5 : decode cX12_later 5 = .ok (.aload_n 0, 1) := by decide +kernel
theorem dX12_later_6 : decode cX12_later 6 = .ok (.iconst 0, 1) := by decide +kernel
theorem dX12_later_7 : decode cX12_later 7 = .ok (.putfield 74, 3) := by decide +kernel
theorem dX12_later_10 : decode cX12_later 10 = .ok (.aload_n 0, 1) := by decide +kernel
theorem dX12_later_11 : decode cX12_later 11 = .ok (.iload_n 1, 1) := by decide +kernel
theorem dX12_later_12 : decode cX12_later 12 = .ok (.invokevirtual 330, 3) := by decide +kernel
theorem dX12_later_15 : decode cX12_later 15 = .ok (.ifCond .ne 9, 3) := by decide +kernel
theorem dX12_later_18 : decode cX12_later 18 = .ok (.aload_n 0, 1) := by decide +kernel
theorem dX12_later_19 : decode cX12_later 19 = .ok (.iconst 2, 1) := by decide +kernel
theorem dX12_later_20 : decode cX12_later 20 = .ok (.invokevirtual 324, 3) := by decide +kernel
theorem dX12_later_23 : decode cX12_later 23 = .ok (.ireturn, 1) := by decide +kernel
theorem dX12_later_24 : decode cX12_later 24 = .ok (.iload_n 2, 1) := by decide +kernel
theorem dX12_later_25 : decode cX12_later 25 = .ok (.i2l, 1) := by decide +kernel
theorem dX12_later_26 : decode cX12_later 26 = .ok (.lconst 0, 1) := by decide +kernel
theorem dX12_later_27 : decode cX12_later 27 = .ok (.ldc2_w 403, 3) := by decide +kernel
theorem dX12_later_30 : decode cX12_later 30 = .ok (.invokestatic 106, 3) := by decide +kernel
theorem dX12_later_33 : decode cX12_later 33 = .ok (.ifCond .ne 9, 3) := by decide +kernel
theorem dX12_later_36 : decode cX12_later 36 = .ok (.aload_n 0, 1) := by decide +kernel
theorem dX12_later_37 : decode cX12_later 37 = .ok (.iconst 5, 1) := by decide +kernel
theorem dX12_later_38 : decode cX12_later 38 = .ok (.invokevirtual 324, 3) := by decide +kernel
theorem dX12_later_41 : decode cX12_later 41 = .ok (.ireturn, 1) := by decide +kernel
theorem dX12_later_42 : decode cX12_later 42 = .ok (.aload_n 0, 1) := by decide +kernel
theorem dX12_later_43 : decode cX12_later 43 = .ok (.invokevirtual 387, 3) := by decide +kernel
theorem dX12_later_46 : decode cX12_later 46 = .ok (.iconst 0, 1) := by decide +kernel
theorem dX12_later_47 : decode cX12_later 47 = .ok (.istore_n 3, 1) := by decide +kernel
theorem dX12_later_48 : decode cX12_later 48 = .ok (.iload_n 3, 1) := by decide +kernel
theorem dX12_later_49 : decode cX12_later 49 = .ok (.iload_n 2, 1) := by decide +kernel
theorem dX12_later_50 : decode cX12_later 50 = .ok (.if_icmp .ge 13, 3) := by decide +kernel
theorem dX12_later_53 : decode cX12_later 53 = .ok (.aload_n 0, 1) := by decide +kernel
theorem dX12_later_54 : decode cX12_later 54 = .ok (.invokevirtual 376, 3) := by decide +kernel
theorem dX12_later_57 : decode cX12_later 57 = .ok (.iinc 3 1, 3) := by decide +kernel
theorem dX12_later_60 : decode cX12_later 60 = .ok (.goto (-12), 3) := by decide +kernel
theorem dX12_later_63 : decode cX12_later 63 = .ok (.aload_n 0, 1) := by decide +kernel
theorem dX12_later_64 : decode cX12_later 64 = .ok (.getfield 35, 3) := by decide +kernel
theorem dX12_later_67 : decode cX12_later 67 = .ok (.bipush 33, 2) := by decide +kernel
theorem dX12_later_69 : decode cX12_later 69 = .ok (.iload_n 1, 1) := by decide +kernel
theorem dX12_later_70 : decode cX12_later 70 = .ok (.iadd, 1) := by decide +kernel
theorem dX12_later_71 : decode cX12_later 71 = .ok (.iaload, 1) := by decide +kernel
theorem dX12_later_72 : decode cX12_later 72 = .ok (.istore_n 3, 1) := by decide +kernel
theorem dX12_later_73 : decode cX12_later 73 = .ok (.aload_n 0, 1) := by decide +kernel
theorem dX12_later_74 : decode cX12_later 74 = .ok (.invokevirtual 393, 3) := by decide +kernel
theorem dX12_later_77 : decode cX12_later 77 = .ok (.iload_n 3, 1) := by decide +kernel
theorem dX12_later_78 : decode cX12_later 78 = .ok (.ireturn, 1) := by decide +kernel
theorem dX12_roomIn_0 : decode cX12_roomIn 0 = .ok (.aload_n 0, 1) := by decide +kernel
theorem dX12_roomIn_1 : decode cX12_roomIn 1 = .ok (.iconst 0, 1) := by decide +kernel
theorem dX12_roomIn_2 : decode cX12_roomIn 2 = .ok (.putfield 71, 3) := by decide +kernel
theorem dX12_roomIn_5 : decode cX12_roomIn 5 = .ok (.aload_n 0, 1) := by decide +kernel
theorem dX12_roomIn_6 : decode cX12_roomIn 6 = .ok (.iconst 0, 1) := by decide +kernel
theorem dX12_roomIn_7 : decode cX12_roomIn 7 = .ok (.putfield 74, 3) := by decide +kernel
theorem dX12_roomIn_10 : decode cX12_roomIn 10 = .ok (.aload_n 0, 1) := by decide +kernel
theorem dX12_roomIn_11 : decode cX12_roomIn 11 = .ok (.iload_n 1, 1) := by decide +kernel
theorem dX12_roomIn_12 : decode cX12_roomIn 12 = .ok (.invokevirtual 341, 3) := by decide +kernel
theorem dX12_roomIn_15 : decode cX12_roomIn 15 = .ok (.ifCond .ne 9, 3) := by decide +kernel
theorem dX12_roomIn_18 : decode cX12_roomIn 18 = .ok (.aload_n 0, 1) := by decide +kernel
theorem dX12_roomIn_19 : decode cX12_roomIn 19 = .ok (.iconst 2, 1) := by decide +kernel
theorem dX12_roomIn_20 : decode cX12_roomIn 20 = .ok (.invokevirtual 324, 3) := by decide +kernel
theorem dX12_roomIn_23 : decode cX12_roomIn 23 = .ok (.ireturn, 1) := by decide +kernel
theorem dX12_roomIn_24 : decode cX12_roomIn 24 = .ok (.iload_n 2, 1) := by decide +kernel
theorem dX12_roomIn_25 : decode cX12_roomIn 25 = .ok (.i2l, 1) := by decide +kernel
theorem dX12_roomIn_26 : decode cX12_roomIn 26 = .ok (.lconst 0, 1) := by decide +kernel
theorem dX12_roomIn_27 : decode cX12_roomIn 27 = .ok (.ldc2_w 403, 3) := by decide +kernel
theorem dX12_roomIn_30 : decode cX12_roomIn 30 = .ok (.invokestatic 106, 3) := by decide +kernel
theorem dX12_roomIn_33 : decode cX12_roomIn 33 = .ok (.ifCond .ne 9, 3) := by decide +kernel
theorem dX12_roomIn_36 : decode cX12_roomIn 36 = .ok (.aload_n 0, 1) := by decide +kernel
theorem dX12_roomIn_37 : decode cX12_roomIn 37 = .ok (.iconst 5, 1) := by decide +kernel
theorem dX12_roomIn_38 : decode cX12_roomIn 38 = .ok (.invokevirtual 324, 3) := by decide +kernel
theorem dX12_roomIn_41 : decode cX12_roomIn 41 = .ok (.ireturn, 1) := by decide +kernel
theorem dX12_roomIn_42 : decode cX12_roomIn 42 = .ok (.aload_n 0, 1) := by decide +kernel
theorem dX12_roomIn_43 : decode cX12_roomIn 43 = .ok (.invokevirtual 387, 3) := by decide +kernel
theorem dX12_roomIn_46 : decode cX12_roomIn 46 = .ok (.iconst 0, 1) := by decide +kernel
theorem dX12_roomIn_47 : decode cX12_roomIn 47 = .ok (.istore_n 3, 1) := by decide +kernel
theorem dX12_roomIn_48 : decode cX12_roomIn 48 = .ok (.iload_n 3, 1) := by decide +kernel
theorem dX12_roomIn_49 : decode cX12_roomIn 49 = .ok (.iload_n 2, 1) := by decide +kernel
theorem dX12_roomIn_50 : decode cX12_roomIn 50 = .ok (.if_icmp .ge 13, 3) := by decide +kernel
theorem dX12_roomIn_53 : decode cX12_roomIn 53 = .ok (.aload_n 0, 1) := by decide +kernel
theorem dX12_roomIn_54 : decode cX12_roomIn 54 = .ok (.invokevirtual 376, 3) := by decide +kernel
theorem dX12_roomIn_57 : decode cX12_roomIn 57 = .ok (.iinc 3 1, 3) := by decide +kernel
theorem dX12_roomIn_60 : decode cX12_roomIn 60 = .ok (.goto (-12), 3) := by decide +kernel
theorem dX12_roomIn_63 : decode cX12_roomIn 63 = .ok (.aload_n 0, 1) := by decide +kernel
theorem dX12_roomIn_64 : decode cX12_roomIn 64 = .ok (.iload_n 1, 1) := by decide +kernel
theorem dX12_roomIn_65 : decode cX12_roomIn 65 = .ok (.invokevirtual 344, 3) := by decide +kernel
theorem dX12_roomIn_68 : decode cX12_roomIn 68 = .ok (.istore_n 3, 1) := by decide +kernel
theorem dX12_roomIn_69 : decode cX12_roomIn 69 = .ok (.aload_n 0, 1) := by decide +kernel
theorem dX12_roomIn_70 : decode cX12_roomIn 70 = .ok (.invokevirtual 393, 3) := by decide +kernel
theorem dX12_roomIn_73 : decode cX12_roomIn 73 = .ok (.iload_n 3, 1) := by decide +kernel
theorem dX12_roomIn_74 : decode cX12_roomIn 74 = .ok (.ireturn, 1) := by decide +kernel
theorem dX12_never_0 : decode cX12_never 0 = .ok (.aload_n 0, 1) := by decide +kernel
theorem dX12_never_1 : decode cX12_never 1 = .ok (.iconst 0, 1) := by decide +kernel
theorem dX12_never_2 : decode cX12_never 2 = .ok (.putfield 71, 3) := by decide +kernel
theorem dX12_never_5 : decode cX12_never 5 = .ok (.aload_n 0, 1) := by decide +kernel
theorem dX12_never_6 : decode cX12_never 6 = .ok (.iconst 0, 1) := by decide +kernel
theorem dX12_never_7 : decode cX12_never 7 = .ok (.putfield 74, 3) := by decide +kernel
theorem dX12_never_10 : decode cX12_never 10 = .ok (.iconst 0, 1) := by decide +kernel
theorem dX12_never_11 : decode cX12_never 11 = .ok (.istore_n 1, 1) := by decide +kernel
theorem dX12_never_12 : decode cX12_never 12 = .ok (.iconst 0, 1) := by decide +kernel
theorem dX12_never_13 : decode cX12_never 13 = .ok (.istore_n 2, 1) := by decide +kernel
theorem dX12_never_14 : decode cX12_never 14 = .ok (.iload_n 2, 1) := by decide +kernel
theorem dX12_never_15 : decode cX12_never 15 = .ok (.aload_n 0, 1) := by decide +kernel
theorem dX12_never_16 : decode cX12_never 16 = .ok (.getfield 35, 3) := by decide +kernel
theorem dX12_never_19 : decode cX12_never 19 = .ok (.iconst 1, 1) := by decide +kernel
theorem dX12_never_20 : decode cX12_never 20 = .ok (.iaload, 1) := by decide +kernel
theorem dX12_never_21 : decode cX12_never 21 = .ok (.if_icmp .ge 33, 3) := by decide +kernel
theorem dX12_never_24 : decode cX12_never 24 = .ok (.iload_n 1, 1) := by decide +kernel
theorem dX12_never_25 : decode cX12_never 25 = .ok (.aload_n 0, 1) := by decide +kernel
theorem dX12_never_26 : decode cX12_never 26 = .ok (.iconst (-1), 1) := by decide +kernel
theorem dX12_never_27 : decode cX12_never 27 = .ok (.iconst 1, 1) := by decide +kernel
theorem dX12_never_28 : decode cX12_never 28 = .ok (.iload_n 2, 1) := by decide +kernel
theorem dX12_never_29 : decode cX12_never 29 = .ok (.ishl, 1) := by decide +kernel
theorem dX12_never_30 : decode cX12_never 30 = .ok (.sipush 999, 3) := by decide +kernel
theorem dX12_never_33 : decode cX12_never 33 = .ok (.invokevirtual 396, 3) := by decide +kernel
theorem dX12_never_36 : decode cX12_never 36 = .ok (.ifCond .ge 9, 3) := by decide +kernel
theorem dX12_never_39 : decode cX12_never 39 = .ok (.iconst 1, 1) := by decide +kernel
theorem dX12_never_40 : decode cX12_never 40 = .ok (.iload_n 2, 1) := by decide +kernel
theorem dX12_never_41 : decode cX12_never 41 = .ok (.ishl, 1) := by decide +kernel
theorem dX12_never_42 : decode cX12_never 42 = .ok (.goto 4, 3) := by decide +kernel
theorem dX12_never_45 : decode cX12_never 45 = .ok (.iconst 0, 1) := by decide +kernel
theorem dX12_never_46 : decode cX12_never 46 = .ok (.ior, 1) := by decide +kernel
theorem dX12_never_47 : decode cX12_never 47 = .ok (.istore_n 1, 1) := by decide +kernel
theorem dX12_never_48 : decode cX12_never 48 = .ok (.iinc 2 1, 3) := by decide +kernel
theorem dX12_never_51 : decode cX12_never 51 = .ok (.goto (-37), 3) := by decide +kernel
theorem dX12_never_54 : decode cX12_never 54 = .ok (.iload_n 1, 1) := by decide +kernel
theorem dX12_never_55 : decode cX12_never 55 = .ok (.ireturn, 1) := by decide +kernel
theorem dX12_firstHeard_0 : decode cX12_firstHeard 0 = .ok (.aload_n 0, 1) := by decide +kernel
theorem dX12_firstHeard_1 : decode cX12_firstHeard 1 = .ok (.iconst 0, 1) := by decide +kernel
theorem dX12_firstHeard_2 : decode cX12_firstHeard 2 = .ok (.putfield 71, 3) := by decide +kernel
theorem dX12_firstHeard_5 : decode cX12_firstHeard 5 = .ok (.aload_n 0, 1) := by decide +kernel
theorem dX12_firstHeard_6 : decode cX12_firstHeard 6 = .ok (.iconst 0, 1) := by decide +kernel
theorem dX12_firstHeard_7 : decode cX12_firstHeard 7 = .ok (.putfield 74, 3) := by decide +kernel
theorem dX12_firstHeard_10 : decode cX12_firstHeard 10 = .ok (.iconst (-1), 1) := by decide +kernel
theorem dX12_firstHeard_11 : decode cX12_firstHeard 11 = .ok (.istore_n 1, 1) := by decide +kernel
theorem dX12_firstHeard_12 : decode cX12_firstHeard 12 = .ok (.iconst 0, 1) := by decide +kernel
theorem dX12_firstHeard_13 : decode cX12_firstHeard 13 = .ok (.istore_n 2, 1) := by decide +kernel
theorem dX12_firstHeard_14 : decode cX12_firstHeard 14 = .ok (.iconst 0, 1) := by decide +kernel
theorem dX12_firstHeard_15 : decode cX12_firstHeard 15 = .ok (.istore_n 3, 1) := by decide +kernel
theorem dX12_firstHeard_16 : decode cX12_firstHeard 16 = .ok (.iload_n 3, 1) := by decide +kernel
theorem dX12_firstHeard_17 : decode cX12_firstHeard 17 = .ok (.aload_n 0, 1) := by decide +kernel
theorem dX12_firstHeard_18 : decode cX12_firstHeard 18 = .ok (.getfield 35, 3) := by decide +kernel
theorem dX12_firstHeard_21 : decode cX12_firstHeard 21 = .ok (.iconst 1, 1) := by decide +kernel
theorem dX12_firstHeard_22 : decode cX12_firstHeard 22 = .ok (.iaload, 1) := by decide +kernel
theorem dX12_firstHeard_23 : decode cX12_firstHeard 23 = .ok (.if_icmp .ge 45, 3) := by decide +kernel
theorem dX12_firstHeard_26 : decode cX12_firstHeard 26 = .ok (.aload_n 0, 1) := by decide +kernel
theorem dX12_firstHeard_27 : decode cX12_firstHeard 27 = .ok (.iconst (-1), 1) := by decide +kernel
theorem dX12_firstHeard_28 : decode cX12_firstHeard 28 = .ok (.iconst 1, 1) := by decide +kernel
theorem dX12_firstHeard_29 : decode cX12_firstHeard 29 = .ok (.iload_n 3, 1) := by decide +kernel
theorem dX12_firstHeard_30 : decode cX12_firstHeard 30 = .ok (.ishl, 1) := by decide +kernel
theorem dX12_firstHeard_31 : decode cX12_firstHeard 31 = .ok (.sipush 999, 3) := by decide +kernel
theorem dX12_firstHeard_34 : decode cX12_firstHeard 34 = .ok (.invokevirtual 396, 3) := by decide +kernel
theorem dX12_firstHeard_37 : decode cX12_firstHeard 37 = .ok (.istore 4, 2) := by decide +kernel
theorem dX12_firstHeard_39 : decode cX12_firstHeard 39 = .ok (.iload 4, 2) := by decide +kernel
theorem dX12_firstHeard_41 : decode cX12_firstHeard 41 = .ok (.ifCond .lt 21, 3) := by decide +kernel
theorem dX12_firstHeard_44 : decode cX12_firstHeard 44 = .ok (.iload_n 1, 1) := by decide +kernel
theorem dX12_firstHeard_45 : decode cX12_firstHeard 45 = .ok (.ifCond .lt 12, 3) := by decide +kernel
theorem dX12_firstHeard_48 : decode cX12_firstHeard 48 = .ok (.iload 4, 2) := by decide +kernel
theorem dX12_firstHeard_50 : decode cX12_firstHeard 50 = .ok (.iload_n 2, 1) := by decide +kernel
theorem dX12_firstHeard_51 : decode cX12_firstHeard 51 = .ok (.if_icmp .lt 6, 3) := by decide +kernel
theorem dX12_firstHeard_54 : decode cX12_firstHeard 54 = .ok (.goto 8, 3) := by decide +kernel
theorem dX12_firstHeard_57 : decode cX12_firstHeard 57 = .ok (.iload_n 3, 1) := by decide +kernel
theorem dX12_firstHeard_58 : decode cX12_firstHeard 58 = .ok (.istore_n 1, 1) := by decide +kernel
theorem dX12_firstHeard_59 : decode cX12_firstHeard 59 = .ok (.iload 4, 2) := by decide +kernel
theorem dX12_firstHeard_61 : decode cX12_firstHeard 61 = .ok (.istore_n 2, 1) := by decide +kernel
theorem dX12_firstHeard_62 : decode cX12_firstHeard 62 = .ok (.iinc 3 1, 3) := by decide +kernel
theorem dX12_firstHeard_65 : decode cX12_firstHeard 65 = .ok (.goto (-49), 3) := by decide +kernel
theorem dX12_firstHeard_68 : decode cX12_firstHeard 68 = .ok (.iload_n 1, 1) := by decide +kernel
theorem dX12_firstHeard_69 : decode cX12_firstHeard 69 = .ok (.ifCond .ge 12, 3) := by decide +kernel
theorem dX12_firstHeard_72 : decode cX12_firstHeard 72 = .ok (.aload_n 0, 1) := by decide +kernel
theorem dX12_firstHeard_73 : decode cX12_firstHeard 73 = .ok (.bipush 8, 2) := by decide +kernel
theorem dX12_firstHeard_75 : decode cX12_firstHeard 75 = .ok (.invokevirtual 324, 3) := by decide +kernel
theorem dX12_firstHeard_78 : decode cX12_firstHeard 78 = .ok (.goto 4, 3) := by decide +kernel
theorem dX12_firstHeard_81 : decode cX12_firstHeard 81 = .ok (.iload_n 1, 1) := by decide +kernel
theorem dX12_firstHeard_82 : decode cX12_firstHeard 82 = .ok (.ireturn, 1) := by decide +kernel
theorem dX12_orders_0 : decode cX12_orders 0 = .ok (.iload_n 1, 1) := by decide +kernel
theorem dX12_orders_1 : decode cX12_orders 1 = .ok (.ifCond .ne 111, 3) := by decide +kernel
theorem dX12_orders_4 : decode cX12_orders 4 = .ok (.iconst 0, 1) := by decide +kernel
theorem dX12_orders_5 : decode cX12_orders 5 = .ok (.istore_n 3, 1) := by decide +kernel
theorem dX12_orders_6 : decode cX12_orders 6 = .ok (.iload_n 3, 1) := by decide +kernel
theorem dX12_orders_7 : decode cX12_orders 7 = .ok (.iload_n 2, 1) := by decide +kernel
theorem dX12_orders_8 : decode cX12_orders 8 = .ok (.if_icmp .ge 24, 3) := by decide +kernel
theorem dX12_orders_11 : decode cX12_orders 11 = .ok (.aload_n 0, 1) := by decide +kernel
theorem dX12_orders_12 : decode cX12_orders 12 = .ok (.getfield 35, 3) := by decide +kernel
theorem dX12_orders_15 : decode cX12_orders 15 = .ok (.bipush 67, 2) := by decide +kernel
theorem dX12_orders_17 : decode cX12_orders 17 = .ok (.iload_n 3, 1) := by decide +kernel
theorem dX12_orders_18 : decode cX12_orders 18 = .ok (.iadd, 1) := by decide +kernel
theorem dX12_orders_19 : decode cX12_orders 19 = .ok (.aload_n 0, 1) := by decide +kernel
theorem dX12_orders_20 : decode cX12_orders 20 = .ok (.getfield 44, 3) := by decide +kernel
theorem dX12_orders_23 : decode cX12_orders 23 = .ok (.iload_n 3, 1) := by decide +kernel
theorem dX12_orders_24 : decode cX12_orders 24 = .ok (.iaload, 1) := by decide +kernel
theorem dX12_orders_25 : decode cX12_orders 25 = .ok (.iastore, 1) := by decide +kernel
theorem dX12_orders_26 : decode cX12_orders 26 = .ok (.iinc 3 1, 3) := by decide +kernel
theorem dX12_orders_29 : decode cX12_orders 29 = .ok (.goto (-23), 3) := by decide +kernel
theorem dX12_orders_32 : decode cX12_orders 32 = .ok (.aload_n 0, 1) := by decide +kernel
theorem dX12_orders_33 : decode cX12_orders 33 = .ok (.getfield 35, 3) := by decide +kernel
theorem dX12_orders_36 : decode cX12_orders 36 = .ok (.bipush 8, 2) := by decide +kernel
theorem dX12_orders_38 : decode cX12_orders 38 = .ok (.iconst 0, 1) := by decide +kernel
theorem dX12_orders_39 : decode cX12_orders 39 = .ok (.iastore, 1) := by decide +kernel
theorem dX12_orders_40 : decode cX12_orders 40 = .ok (.aload_n 0, 1) := by decide +kernel
theorem dX12_orders_41 : decode cX12_orders 41 = .ok (.iconst (-1), 1) := by decide +kernel
theorem dX12_orders_42 : decode cX12_orders 42 = .ok (.aload_n 0, 1) := by decide +kernel
theorem dX12_orders_43 : decode cX12_orders 43 = .ok (.invokevirtual 400, 3) := by decide +kernel
theorem dX12_orders_46 : decode cX12_orders 46 = .ok (.bipush 99, 2) := by decide +kernel
theorem dX12_orders_48 : decode cX12_orders 48 = .ok (.invokevirtual 396, 3) := by decide +kernel
theorem dX12_orders_51 : decode cX12_orders 51 = .ok (.istore_n 3, 1) := by decide +kernel
theorem dX12_orders_52 : decode cX12_orders 52 = .ok (.iload_n 3, 1) := by decide +kernel
theorem dX12_orders_53 : decode cX12_orders 53 = .ok (.ifCond .lt 18, 3) := by decide +kernel
theorem dX12_orders_56 : decode cX12_orders 56 = .ok (.aload_n 0, 1) := by decide +kernel
theorem dX12_orders_57 : decode cX12_orders 57 = .ok (.getfield 405, 3) := by decide +kernel
theorem dX12_orders_60 : decode cX12_orders 60 = .ok (.ifCond .lt 12, 3) := by decide +kernel
theorem dX12_orders_63 : decode cX12_orders 63 = .ok (.iload_n 3, 1) := by decide +kernel
theorem dX12_orders_64 : decode cX12_orders 64 = .ok (.aload_n 0, 1) := by decide +kernel
theorem dX12_orders_65 : decode cX12_orders 65 = .ok (.getfield 405, 3) := by decide +kernel
theorem dX12_orders_68 : decode cX12_orders 68 = .ok (.if_icmp .lt 4, 3) := by decide +kernel
theorem dX12_orders_71 : decode cX12_orders 71 = .ok (.return_, 1) := by decide +kernel
theorem dX12_orders_72 : decode cX12_orders 72 = .ok (.aload_n 0, 1) := by decide +kernel
theorem dX12_orders_73 : decode cX12_orders 73 = .ok (.iload_n 3, 1) := by decide +kernel
theorem dX12_orders_74 : decode cX12_orders 74 = .ok (.putfield 405, 3) := by decide +kernel
theorem dX12_orders_77 : decode cX12_orders 77 = .ok (.aload_n 0, 1) := by decide +kernel
theorem dX12_orders_78 : decode cX12_orders 78 = .ok (.iload_n 2, 1) := by decide +kernel
theorem dX12_orders_79 : decode cX12_orders 79 = .ok (.putfield 53, 3) := by decide +kernel
theorem dX12_orders_82 : decode cX12_orders 82 = .ok (.iconst 0, 1) := by decide +kernel
theorem dX12_orders_83 : decode cX12_orders 83 = .ok (.istore 4, 2) := by decide +kernel
theorem dX12_orders_85 : decode cX12_orders 85 = .ok (.iload 4, 2) := by decide +kernel
theorem dX12_orders_87 : decode cX12_orders 87 = .ok (.iload_n 2, 1) := by decide +kernel
theorem dX12_orders_88 : decode cX12_orders 88 = .ok (.if_icmp .ge 23, 3) := by decide +kernel
theorem dX12_orders_91 : decode cX12_orders 91 = .ok (.aload_n 0, 1) := by decide +kernel
theorem dX12_orders_92 : decode cX12_orders 92 = .ok (.getfield 47, 3) := by decide +kernel
theorem dX12_orders_95 : decode cX12_orders 95 = .ok (.iload 4, 2) := by decide +kernel
theorem dX12_orders_97 : decode cX12_orders 97 = .ok (.aload_n 0, 1) := by decide +kernel
theorem dX12_orders_98 : decode cX12_orders 98 = .ok (.getfield 44, 3) := by decide +kernel
theorem dX12_orders_101 : decode cX12_orders 101 = .ok (.iload 4, 2) := by decide +kernel
theorem dX12_orders_103 : decode cX12_orders 103 = .ok (.iaload, 1) := by decide +kernel
theorem dX12_orders_104 : decode cX12_orders 104 = .ok (.iastore, 1) := by decide +kernel
theorem dX12_orders_105 : decode cX12_orders 105 = .ok (.iinc 4 1, 3) := by decide +kernel
theorem dX12_orders_108 : decode cX12_orders 108 = .ok (.goto (-23), 3) := by decide +kernel
theorem dX12_orders_111 : decode cX12_orders 111 = .ok (.return_, 1) := by decide +kernel
theorem dX12_orders_112 : decode cX12_orders 112 = .ok (.iconst 0, 1) := by decide +kernel
theorem dX12_orders_113 : decode cX12_orders 113 = .ok (.istore_n 3, 1) := by decide +kernel
theorem dX12_orders_114 : decode cX12_orders 114 = .ok (.iload_n 3, 1) := by decide +kernel
theorem dX12_orders_115 : decode cX12_orders 115 = .ok (.aload_n 0, 1) := by decide +kernel
theorem dX12_orders_116 : decode cX12_orders 116 = .ok (.getfield 35, 3) := by decide +kernel
theorem dX12_orders_119 : decode cX12_orders 119 = .ok (.iconst 0, 1) := by decide +kernel
theorem dX12_orders_120 : decode cX12_orders 120 = .ok (.iaload, 1) := by decide +kernel
theorem dX12_orders_121 : decode cX12_orders 121 = .ok (.if_icmp .ge 41, 3) := by decide +kernel
theorem dX12_orders_124 : decode cX12_orders 124 = .ok (.iload_n 1, 1) := by decide +kernel
theorem dX12_orders_125 : decode cX12_orders 125 = .ok (.iload_n 3, 1) := by decide +kernel
theorem dX12_orders_126 : decode cX12_orders 126 = .ok (.invokestatic 110, 3) := by decide +kernel
theorem dX12_orders_129 : decode cX12_orders 129 = .ok (.ifCond .ne 6, 3) := by decide +kernel
theorem dX12_orders_132 : decode cX12_orders 132 = .ok (.goto 24, 3) := by decide +kernel
theorem dX12_orders_135 : decode cX12_orders 135 = .ok (.aload_n 0, 1) := by decide +kernel
theorem dX12_orders_136 : decode cX12_orders 136 = .ok (.getfield 44, 3) := by decide +kernel
theorem dX12_orders_139 : decode cX12_orders 139 = .ok (.iload_n 2, 1) := by decide +kernel
theorem dX12_orders_140 : decode cX12_orders 140 = .ok (.iload_n 3, 1) := by decide +kernel
theorem dX12_orders_141 : decode cX12_orders 141 = .ok (.iastore, 1) := by decide +kernel
theorem dX12_orders_142 : decode cX12_orders 142 = .ok (.aload_n 0, 1) := by decide +kernel
theorem dX12_orders_143 : decode cX12_orders 143 = .ok (.iload_n 1, 1) := by decide +kernel
theorem dX12_orders_144 : decode cX12_orders 144 = .ok (.iconst 1, 1) := by decide +kernel
theorem dX12_orders_145 : decode cX12_orders 145 = .ok (.iload_n 3, 1) := by decide +kernel
theorem dX12_orders_146 : decode cX12_orders 146 = .ok (.ishl, 1) := by decide +kernel
theorem dX12_orders_147 : decode cX12_orders 147 = .ok (.iconst (-1), 1) := by decide +kernel
theorem dX12_orders_148 : decode cX12_orders 148 = .ok (.ixor, 1) := by decide +kernel
theorem dX12_orders_149 : decode cX12_orders 149 = .ok (.iand, 1) := by decide +kernel
theorem dX12_orders_150 : decode cX12_orders 150 = .ok (.iload_n 2, 1) := by decide +kernel
theorem dX12_orders_151 : decode cX12_orders 151 = .ok (.iconst 1, 1) := by decide +kernel
theorem dX12_orders_152 : decode cX12_orders 152 = .ok (.iadd, 1) := by decide +kernel
theorem dX12_orders_153 : decode cX12_orders 153 = .ok (.invokevirtual 408, 3) := by decide +kernel
theorem dX12_orders_156 : decode cX12_orders 156 = .ok (.iinc 3 1, 3) := by decide +kernel
theorem dX12_orders_159 : decode cX12_orders 159 = .ok (.goto (-45), 3) := by decide +kernel
theorem dX12_orders_162 : decode cX12_orders 162 = .ok (.return_, 1) := by decide +kernel
theorem dX12_bestOrder_0 : decode cX12_bestOrder 0 = .ok (.aload_n 0, 1) := by decide +kernel
theorem dX12_bestOrder_1 : decode cX12_bestOrder 1 = .ok (.iconst 0, 1) := by decide +kernel
theorem dX12_bestOrder_2 : decode cX12_bestOrder 2 = .ok (.putfield 71, 3) := by decide +kernel
theorem dX12_bestOrder_5 : decode cX12_bestOrder 5 = .ok (.aload_n 0, 1) := by decide +kernel
theorem dX12_bestOrder_6 : decode cX12_bestOrder 6 = .ok (.iconst 0, 1) := by decide +kernel
theorem dX12_bestOrder_7 : decode cX12_bestOrder 7 = .ok (.putfield 74, 3) := by decide +kernel
theorem dX12_bestOrder_10 : decode cX12_bestOrder 10 = .ok (.aload_n 0, 1) := by decide +kernel
theorem dX12_bestOrder_11 : decode cX12_bestOrder 11 = .ok (.getfield 35, 3) := by decide +kernel
theorem dX12_bestOrder_14 : decode cX12_bestOrder 14 = .ok (.iconst 3, 1) := by decide +kernel
theorem dX12_bestOrder_15 : decode cX12_bestOrder 15 = .ok (.iaload, 1) := by decide +kernel
theorem dX12_bestOrder_16 : decode cX12_bestOrder 16 = .ok (.bipush 6, 2) := by decide +kernel
theorem dX12_bestOrder_18 : decode cX12_bestOrder 18 = .ok (.if_icmp .le 10, 3) := by decide +kernel
theorem dX12_bestOrder_21 : decode cX12_bestOrder 21 = .ok (.aload_n 0, 1) := by decide +kernel
theorem dX12_bestOrder_22 : decode cX12_bestOrder 22 = .ok (.bipush 9, 2) := by decide +kernel
theorem dX12_bestOrder_24 : decode cX12_bestOrder 24 = .ok (.invokevirtual 324, 3) := by decide +kernel
theorem dX12_bestOrder_27 : decode cX12_bestOrder 27 = .ok (.ireturn, 1) := by decide +kernel
theorem dX12_bestOrder_28 : decode cX12_bestOrder 28 = .ok (.iconst 0, 1) := by decide +kernel
theorem dX12_bestOrder_29 : decode cX12_bestOrder 29 = .ok (.istore_n 1, 1) := by decide +kernel
theorem dX12_bestOrder_30 : decode cX12_bestOrder 30 = .ok (.aload_n 0, 1) := by decide +kernel
theorem dX12_bestOrder_31 : decode cX12_bestOrder 31 = .ok (.getfield 35, 3) := by decide +kernel
theorem dX12_bestOrder_34 : decode cX12_bestOrder 34 = .ok (.bipush 8, 2) := by decide +kernel
theorem dX12_bestOrder_36 : decode cX12_bestOrder 36 = .ok (.iaload, 1) := by decide +kernel
theorem dX12_bestOrder_37 : decode cX12_bestOrder 37 = .ok (.istore_n 2, 1) := by decide +kernel
theorem dX12_bestOrder_38 : decode cX12_bestOrder 38 = .ok (.iconst 0, 1) := by decide +kernel
theorem dX12_bestOrder_39 : decode cX12_bestOrder 39 = .ok (.istore_n 3, 1) := by decide +kernel
theorem dX12_bestOrder_40 : decode cX12_bestOrder 40 = .ok (.iload_n 3, 1) := by decide +kernel
theorem dX12_bestOrder_41 : decode cX12_bestOrder 41 = .ok (.aload_n 0, 1) := by decide +kernel
theorem dX12_bestOrder_42 : decode cX12_bestOrder 42 = .ok (.getfield 35, 3) := by decide +kernel
theorem dX12_bestOrder_45 : decode cX12_bestOrder 45 = .ok (.iconst 3, 1) := by decide +kernel
theorem dX12_bestOrder_46 : decode cX12_bestOrder 46 = .ok (.iaload, 1) := by decide +kernel
theorem dX12_bestOrder_47 : decode cX12_bestOrder 47 = .ok (.if_icmp .ge 35, 3) := by decide +kernel
theorem dX12_bestOrder_50 : decode cX12_bestOrder 50 = .ok (.aload_n 0, 1) := by decide +kernel
theorem dX12_bestOrder_51 : decode cX12_bestOrder 51 = .ok (.getfield 50, 3) := by decide +kernel
theorem dX12_bestOrder_54 : decode cX12_bestOrder 54 = .ok (.iload_n 3, 1) := by decide +kernel
theorem dX12_bestOrder_55 : decode cX12_bestOrder 55 = .ok (.aload_n 0, 1) := by decide +kernel
theorem dX12_bestOrder_56 : decode cX12_bestOrder 56 = .ok (.getfield 35, 3) := by decide +kernel
theorem dX12_bestOrder_59 : decode cX12_bestOrder 59 = .ok (.bipush 67, 2) := by decide +kernel
theorem dX12_bestOrder_61 : decode cX12_bestOrder 61 = .ok (.iload_n 3, 1) := by decide +kernel
theorem dX12_bestOrder_62 : decode cX12_bestOrder 62 = .ok (.iadd, 1) := by decide +kernel
theorem dX12_bestOrder_63 : decode cX12_bestOrder 63 = .ok (.iaload, 1) := by decide +kernel
theorem dX12_bestOrder_64 : decode cX12_bestOrder 64 = .ok (.iastore, 1) := by decide +kernel
theorem dX12_bestOrder_65 : decode cX12_bestOrder 65 = .ok (.iload_n 1, 1) := by decide +kernel
theorem dX12_bestOrder_66 : decode cX12_bestOrder 66 = .ok (.iconst 1, 1) := by decide +kernel
theorem dX12_bestOrder_67 : decode cX12_bestOrder 67 = .ok (.aload_n 0, 1) := by decide +kernel
theorem dX12_bestOrder_68 : decode cX12_bestOrder 68 = .ok (.getfield 50, 3) := by decide +kernel
theorem dX12_bestOrder_71 : decode cX12_bestOrder 71 = .ok (.iload_n 3, 1) := by decide +kernel
theorem dX12_bestOrder_72 : decode cX12_bestOrder 72 = .ok (.iaload, 1) := by decide +kernel
theorem dX12_bestOrder_73 : decode cX12_bestOrder 73 = .ok (.ishl, 1) := by decide +kernel
theorem dX12_bestOrder_74 : decode cX12_bestOrder 74 = .ok (.ior, 1) := by decide +kernel
theorem dX12_bestOrder_75 : decode cX12_bestOrder 75 = .ok (.istore_n 1, 1) := by decide +kernel
theorem dX12_bestOrder_76 : decode cX12_bestOrder 76 = .ok (.iinc 3 1, 3) := by decide +kernel
theorem dX12_bestOrder_79 : decode cX12_bestOrder 79 = .ok (.goto (-39), 3) := by decide +kernel
theorem dX12_bestOrder_82 : decode cX12_bestOrder 82 = .ok (.aload_n 0, 1) := by decide +kernel
theorem dX12_bestOrder_83 : decode cX12_bestOrder 83 = .ok (.iconst (-1), 1) := by decide +kernel
theorem dX12_bestOrder_84 : decode cX12_bestOrder 84 = .ok (.putfield 405, 3) := by decide +kernel
theorem dX12_bestOrder_87 : decode cX12_bestOrder 87 = .ok (.aload_n 0, 1) := by decide +kernel
theorem dX12_bestOrder_88 : decode cX12_bestOrder 88 = .ok (.iload_n 1, 1) := by decide +kernel
theorem dX12_bestOrder_89 : decode cX12_bestOrder 89 = .ok (.iconst 0, 1) := by decide +kernel
theorem dX12_bestOrder_90 : decode cX12_bestOrder 90 = .ok (.invokevirtual 408, 3) := by decide +kernel
theorem dX12_bestOrder_93 : decode cX12_bestOrder 93 = .ok (.iconst 0, 1) := by decide +kernel
theorem dX12_bestOrder_94 : decode cX12_bestOrder 94 = .ok (.istore_n 3, 1) := by decide +kernel
theorem dX12_bestOrder_95 : decode cX12_bestOrder 95 = .ok (.iload_n 3, 1) := by decide +kernel
theorem dX12_bestOrder_96 : decode cX12_bestOrder 96 = .ok (.aload_n 0, 1) := by decide +kernel
theorem dX12_bestOrder_97 : decode cX12_bestOrder 97 = .ok (.getfield 35, 3) := by decide +kernel
theorem dX12_bestOrder_100 : decode cX12_bestOrder 100 = .ok (.iconst 3, 1) := by decide +kernel
theorem dX12_bestOrder_101 : decode cX12_bestOrder 101 = .ok (.iaload, 1) := by decide +kernel
theorem dX12_bestOrder_102 : decode cX12_bestOrder 102 = .ok (.if_icmp .ge 24, 3) := by decide +kernel
theorem dX12_bestOrder_105 : decode cX12_bestOrder 105 = .ok (.aload_n 0, 1) := by decide +kernel
theorem dX12_bestOrder_106 : decode cX12_bestOrder 106 = .ok (.getfield 35, 3) := by decide +kernel
theorem dX12_bestOrder_109 : decode cX12_bestOrder 109 = .ok (.bipush 67, 2) := by decide +kernel
theorem dX12_bestOrder_111 : decode cX12_bestOrder 111 = .ok (.iload_n 3, 1) := by decide +kernel
theorem dX12_bestOrder_112 : decode cX12_bestOrder 112 = .ok (.iadd, 1) := by decide +kernel
theorem dX12_bestOrder_113 : decode cX12_bestOrder 113 = .ok (.aload_n 0, 1) := by decide +kernel
theorem dX12_bestOrder_114 : decode cX12_bestOrder 114 = .ok (.getfield 50, 3) := by decide +kernel
theorem dX12_bestOrder_117 : decode cX12_bestOrder 117 = .ok (.iload_n 3, 1) := by decide +kernel
theorem dX12_bestOrder_118 : decode cX12_bestOrder 118 = .ok (.iaload, 1) := by decide +kernel
theorem dX12_bestOrder_119 : decode cX12_bestOrder 119 = .ok (.iastore, 1) := by decide +kernel
theorem dX12_bestOrder_120 : decode cX12_bestOrder 120 = .ok (.iinc 3 1, 3) := by decide +kernel
theorem dX12_bestOrder_123 : decode cX12_bestOrder 123 = .ok (.goto (-28), 3) := by decide +kernel
theorem dX12_bestOrder_126 : decode cX12_bestOrder 126 = .ok (.aload_n 0, 1) := by decide +kernel
theorem dX12_bestOrder_127 : decode cX12_bestOrder 127 = .ok (.getfield 35, 3) := by decide +kernel
theorem dX12_bestOrder_130 : decode cX12_bestOrder 130 = .ok (.bipush 8, 2) := by decide +kernel
theorem dX12_bestOrder_132 : decode cX12_bestOrder 132 = .ok (.iload_n 2, 1) := by decide +kernel
theorem dX12_bestOrder_133 : decode cX12_bestOrder 133 = .ok (.iastore, 1) := by decide +kernel
theorem dX12_bestOrder_134 : decode cX12_bestOrder 134 = .ok (.aload_n 0, 1) := by decide +kernel
theorem dX12_bestOrder_135 : decode cX12_bestOrder 135 = .ok (.getfield 405, 3) := by decide +kernel
theorem dX12_bestOrder_138 : decode cX12_bestOrder 138 = .ok (.ifCond .ge 12, 3) := by decide +kernel
theorem dX12_bestOrder_141 : decode cX12_bestOrder 141 = .ok (.aload_n 0, 1) := by decide +kernel
theorem dX12_bestOrder_142 : decode cX12_bestOrder 142 = .ok (.bipush 8, 2) := by decide +kernel
theorem dX12_bestOrder_144 : decode cX12_bestOrder 144 = .ok (.invokevirtual 324, 3) := by decide +kernel
theorem dX12_bestOrder_147 : decode cX12_bestOrder 147 = .ok (.goto 7, 3) := by decide +kernel
theorem dX12_bestOrder_150 : decode cX12_bestOrder 150 = .ok (.aload_n 0, 1) := by decide +kernel
theorem dX12_bestOrder_151 : decode cX12_bestOrder 151 = .ok (.getfield 405, 3) := by decide +kernel
theorem dX12_bestOrder_154 : decode cX12_bestOrder 154 = .ok (.ireturn, 1) := by decide +kernel
theorem dX12_bestAt_0 : decode cX12_bestAt 0 = .ok (.aload_n 0, 1) := by decide +kernel
theorem dX12_bestAt_1 : decode cX12_bestAt 1 = .ok (.iconst 0, 1) := by decide +kernel
theorem dX12_bestAt_2 : decode cX12_bestAt 2 = .ok (.putfield 71, 3) := by decide +kernel
theorem dX12_bestAt_5 : decode cX12_bestAt 5 = .ok (.aload_n 0, 1) := by decide +kernel
theorem dX12_bestAt_6 : decode cX12_bestAt 6 = .ok (.iconst 0, 1) := by decide +kernel
theorem dX12_bestAt_7 : decode cX12_bestAt 7 = .ok (.putfield 74, 3) := by decide +kernel
theorem dX12_bestAt_10 : decode cX12_bestAt 10 = .ok (.iload_n 1, 1) := by decide +kernel
theorem dX12_bestAt_11 : decode cX12_bestAt 11 = .ok (.i2l, 1) := by decide +kernel
theorem dX12_bestAt_12 : decode cX12_bestAt 12 = .ok (.lconst 0, 1) := by decide +kernel
theorem dX12_bestAt_13 : decode cX12_bestAt 13 = .ok (.aload_n 0, 1) := by decide +kernel
theorem dX12_bestAt_14 : decode cX12_bestAt 14 = .ok (.getfield 53, 3) := by decide +kernel
theorem dX12_bestAt_17 : decode cX12_bestAt 17 = .ok (.iconst 1, 1) := by decide +kernel
theorem dX12_bestAt_18 : decode cX12_bestAt 18 = .ok (.isub, 1) := by decide +kernel
theorem dX12_bestAt_19 : decode cX12_bestAt 19 = .ok (.i2l, 1) := by decide +kernel
theorem dX12_bestAt_20 : decode cX12_bestAt 20 = .ok (.invokestatic 106, 3) := by decide +kernel
theorem dX12_bestAt_23 : decode cX12_bestAt 23 = .ok (.ifCond .eq 12, 3) := by decide +kernel
theorem dX12_bestAt_26 : decode cX12_bestAt 26 = .ok (.aload_n 0, 1) := by decide +kernel
theorem dX12_bestAt_27 : decode cX12_bestAt 27 = .ok (.getfield 47, 3) := by decide +kernel
theorem dX12_bestAt_30 : decode cX12_bestAt 30 = .ok (.iload_n 1, 1) := by decide +kernel
theorem dX12_bestAt_31 : decode cX12_bestAt 31 = .ok (.iaload, 1) := by decide +kernel
theorem dX12_bestAt_32 : decode cX12_bestAt 32 = .ok (.goto 9, 3) := by decide +kernel
theorem dX12_bestAt_35 : decode cX12_bestAt 35 = .ok (.aload_n 0, 1) := by decide +kernel
theorem dX12_bestAt_36 : decode cX12_bestAt 36 = .ok (.bipush 8, 2) := by decide +kernel
theorem dX12_bestAt_38 : decode cX12_bestAt 38 = .ok (.invokevirtual 324, 3) := by decide +kernel
theorem dX12_bestAt_41 : decode cX12_bestAt 41 = .ok (.ireturn, 1) := by decide +kernel
theorem dX12_kept_0 : decode cX12_kept 0 = .ok (.aload_n 0, 1) := by decide +kernel
theorem dX12_kept_1 : decode cX12_kept 1 = .ok (.iconst 0, 1) := by decide +kernel
theorem dX12_kept_2 : decode cX12_kept 2 = .ok (.putfield 71, 3) := by decide +kernel
theorem dX12_kept_5 : decode cX12_kept 5 = .ok (.aload_n 0, 1) := by decide +kernel
theorem dX12_kept_6 : decode cX12_kept 6 = .ok (.iconst 0, 1) := by decide +kernel
theorem dX12_kept_7 : decode cX12_kept 7 = .ok (.putfield 74, 3) := by decide +kernel
theorem dX12_kept_10 : decode cX12_kept 10 = .ok (.iconst (-1), 1) := by decide +kernel
theorem dX12_kept_11 : decode cX12_kept 11 = .ok (.istore_n 1, 1) := by decide +kernel
theorem dX12_kept_12 : decode cX12_kept 12 = .ok (.iconst 0, 1) := by decide +kernel
theorem dX12_kept_13 : decode cX12_kept 13 = .ok (.istore_n 2, 1) := by decide +kernel
theorem dX12_kept_14 : decode cX12_kept 14 = .ok (.iload_n 2, 1) := by decide +kernel
theorem dX12_kept_15 : decode cX12_kept 15 = .ok (.aload_n 0, 1) := by decide +kernel
theorem dX12_kept_16 : decode cX12_kept 16 = .ok (.getfield 35, 3) := by decide +kernel
theorem dX12_kept_19 : decode cX12_kept 19 = .ok (.iconst 2, 1) := by decide +kernel
theorem dX12_kept_20 : decode cX12_kept 20 = .ok (.iaload, 1) := by decide +kernel
theorem dX12_kept_21 : decode cX12_kept 21 = .ok (.if_icmp .ge 36, 3) := by decide +kernel
theorem dX12_kept_24 : decode cX12_kept 24 = .ok (.aload_n 0, 1) := by decide +kernel
theorem dX12_kept_25 : decode cX12_kept 25 = .ok (.iload_n 2, 1) := by decide +kernel
theorem dX12_kept_26 : decode cX12_kept 26 = .ok (.invokevirtual 356, 3) := by decide +kernel
theorem dX12_kept_29 : decode cX12_kept 29 = .ok (.ifCond .ne 22, 3) := by decide +kernel
theorem dX12_kept_32 : decode cX12_kept 32 = .ok (.iload_n 1, 1) := by decide +kernel
theorem dX12_kept_33 : decode cX12_kept 33 = .ok (.ifCond .lt 16, 3) := by decide +kernel
theorem dX12_kept_36 : decode cX12_kept 36 = .ok (.aload_n 0, 1) := by decide +kernel
theorem dX12_kept_37 : decode cX12_kept 37 = .ok (.iload_n 2, 1) := by decide +kernel
theorem dX12_kept_38 : decode cX12_kept 38 = .ok (.invokevirtual 344, 3) := by decide +kernel
theorem dX12_kept_41 : decode cX12_kept 41 = .ok (.aload_n 0, 1) := by decide +kernel
theorem dX12_kept_42 : decode cX12_kept 42 = .ok (.iload_n 1, 1) := by decide +kernel
theorem dX12_kept_43 : decode cX12_kept 43 = .ok (.invokevirtual 344, 3) := by decide +kernel
theorem dX12_kept_46 : decode cX12_kept 46 = .ok (.if_icmp .le 5, 3) := by decide +kernel
theorem dX12_kept_49 : decode cX12_kept 49 = .ok (.iload_n 2, 1) := by decide +kernel
theorem dX12_kept_50 : decode cX12_kept 50 = .ok (.istore_n 1, 1) := by decide +kernel
theorem dX12_kept_51 : decode cX12_kept 51 = .ok (.iinc 2 1, 3) := by decide +kernel
theorem dX12_kept_54 : decode cX12_kept 54 = .ok (.goto (-40), 3) := by decide +kernel
theorem dX12_kept_57 : decode cX12_kept 57 = .ok (.iload_n 1, 1) := by decide +kernel
theorem dX12_kept_58 : decode cX12_kept 58 = .ok (.ifCond .ge 12, 3) := by decide +kernel
theorem dX12_kept_61 : decode cX12_kept 61 = .ok (.aload_n 0, 1) := by decide +kernel
theorem dX12_kept_62 : decode cX12_kept 62 = .ok (.bipush 8, 2) := by decide +kernel
theorem dX12_kept_64 : decode cX12_kept 64 = .ok (.invokevirtual 324, 3) := by decide +kernel
theorem dX12_kept_67 : decode cX12_kept 67 = .ok (.goto 4, 3) := by decide +kernel
theorem dX12_kept_70 : decode cX12_kept 70 = .ok (.iload_n 1, 1) := by decide +kernel
theorem dX12_kept_71 : decode cX12_kept 71 = .ok (.ireturn, 1) := by decide +kernel
theorem dX12_packs_0 : decode cX12_packs 0 = .ok (.iload_n 1, 1) := by decide +kernel
theorem dX12_packs_1 : decode cX12_packs 1 = .ok (.aload_n 0, 1) := by decide +kernel
theorem dX12_packs_2 : decode cX12_packs 2 = .ok (.getfield 35, 3) := by decide +kernel
theorem dX12_packs_5 : decode cX12_packs 5 = .ok (.iconst 1, 1) := by decide +kernel
theorem dX12_packs_6 : decode cX12_packs 6 = .ok (.iaload, 1) := by decide +kernel
theorem dX12_packs_7 : decode cX12_packs 7 = .ok (.if_icmp .ne 5, 3) := by decide +kernel
theorem dX12_packs_10 : decode cX12_packs 10 = .ok (.iconst 1, 1) := by decide +kernel
theorem dX12_packs_11 : decode cX12_packs 11 = .ok (.ireturn, 1) := by decide +kernel
theorem dX12_packs_12 : decode cX12_packs 12 = .ok (.iconst 0, 1) := by decide +kernel
theorem dX12_packs_13 : decode cX12_packs 13 = .ok (.istore_n 3, 1) := by decide +kernel
theorem dX12_packs_14 : decode cX12_packs 14 = .ok (.iload_n 3, 1) := by decide +kernel
theorem dX12_packs_15 : decode cX12_packs 15 = .ok (.aload_n 0, 1) := by decide +kernel
theorem dX12_packs_16 : decode cX12_packs 16 = .ok (.getfield 35, 3) := by decide +kernel
theorem dX12_packs_19 : decode cX12_packs 19 = .ok (.iconst 2, 1) := by decide +kernel
theorem dX12_packs_20 : decode cX12_packs 20 = .ok (.iaload, 1) := by decide +kernel
theorem dX12_packs_21 : decode cX12_packs 21 = .ok (.if_icmp .ge 91, 3) := by decide +kernel
theorem dX12_packs_24 : decode cX12_packs 24 = .ok (.iload_n 2, 1) := by decide +kernel
theorem dX12_packs_25 : decode cX12_packs 25 = .ok (.iload_n 3, 1) := by decide +kernel
theorem dX12_packs_26 : decode cX12_packs 26 = .ok (.invokestatic 110, 3) := by decide +kernel
theorem dX12_packs_29 : decode cX12_packs 29 = .ok (.ifCond .eq 77, 3) := by decide +kernel
theorem dX12_packs_32 : decode cX12_packs 32 = .ok (.aload_n 0, 1) := by decide +kernel
theorem dX12_packs_33 : decode cX12_packs 33 = .ok (.getfield 56, 3) := by decide +kernel
theorem dX12_packs_36 : decode cX12_packs 36 = .ok (.iload_n 3, 1) := by decide +kernel
theorem dX12_packs_37 : decode cX12_packs 37 = .ok (.iaload, 1) := by decide +kernel
theorem dX12_packs_38 : decode cX12_packs 38 = .ok (.aload_n 0, 1) := by decide +kernel
theorem dX12_packs_39 : decode cX12_packs 39 = .ok (.getfield 35, 3) := by decide +kernel
theorem dX12_packs_42 : decode cX12_packs 42 = .ok (.bipush 49, 2) := by decide +kernel
theorem dX12_packs_44 : decode cX12_packs 44 = .ok (.iload_n 1, 1) := by decide +kernel
theorem dX12_packs_45 : decode cX12_packs 45 = .ok (.iadd, 1) := by decide +kernel
theorem dX12_packs_46 : decode cX12_packs 46 = .ok (.iaload, 1) := by decide +kernel
theorem dX12_packs_47 : decode cX12_packs 47 = .ok (.if_icmp .ge 6, 3) := by decide +kernel
theorem dX12_packs_50 : decode cX12_packs 50 = .ok (.goto 56, 3) := by decide +kernel
theorem dX12_packs_53 : decode cX12_packs 53 = .ok (.aload_n 0, 1) := by decide +kernel
theorem dX12_packs_54 : decode cX12_packs 54 = .ok (.getfield 56, 3) := by decide +kernel
theorem dX12_packs_57 : decode cX12_packs 57 = .ok (.iload_n 3, 1) := by decide +kernel
theorem dX12_packs_58 : decode cX12_packs 58 = .ok (.dup2, 1) := by decide +kernel
theorem dX12_packs_59 : decode cX12_packs 59 = .ok (.iaload, 1) := by decide +kernel
theorem dX12_packs_60 : decode cX12_packs 60 = .ok (.aload_n 0, 1) := by decide +kernel
theorem dX12_packs_61 : decode cX12_packs 61 = .ok (.getfield 35, 3) := by decide +kernel
theorem dX12_packs_64 : decode cX12_packs 64 = .ok (.bipush 49, 2) := by decide +kernel
theorem dX12_packs_66 : decode cX12_packs 66 = .ok (.iload_n 1, 1) := by decide +kernel
theorem dX12_packs_67 : decode cX12_packs 67 = .ok (.iadd, 1) := by decide +kernel
theorem dX12_packs_68 : decode cX12_packs 68 = .ok (.iaload, 1) := by decide +kernel
theorem dX12_packs_69 : decode cX12_packs 69 = .ok (.isub, 1) := by decide +kernel
theorem dX12_packs_70 : decode cX12_packs 70 = .ok (.iastore, 1) := by decide +kernel
theorem dX12_packs_71 : decode cX12_packs 71 = .ok (.aload_n 0, 1) := by decide +kernel
theorem dX12_packs_72 : decode cX12_packs 72 = .ok (.iload_n 1, 1) := by decide +kernel
theorem dX12_packs_73 : decode cX12_packs 73 = .ok (.iconst 1, 1) := by decide +kernel
theorem dX12_packs_74 : decode cX12_packs 74 = .ok (.iadd, 1) := by decide +kernel
theorem dX12_packs_75 : decode cX12_packs 75 = .ok (.iload_n 2, 1) := by decide +kernel
theorem dX12_packs_76 : decode cX12_packs 76 = .ok (.invokevirtual 411, 3) := by decide +kernel
theorem dX12_packs_79 : decode cX12_packs 79 = .ok (.istore 4, 2) := by decide +kernel
theorem dX12_packs_81 : decode cX12_packs 81 = .ok (.aload_n 0, 1) := by decide +kernel
theorem dX12_packs_82 : decode cX12_packs 82 = .ok (.getfield 56, 3) := by decide +kernel
theorem dX12_packs_85 : decode cX12_packs 85 = .ok (.iload_n 3, 1) := by decide +kernel
theorem dX12_packs_86 : decode cX12_packs 86 = .ok (.dup2, 1) := by decide +kernel
theorem dX12_packs_87 : decode cX12_packs 87 = .ok (.iaload, 1) := by decide +kernel
theorem dX12_packs_88 : decode cX12_packs 88 = .ok (.aload_n 0, 1) := by decide +kernel
theorem dX12_packs_89 : decode cX12_packs 89 = .ok (.getfield 35, 3) := by decide +kernel
theorem dX12_packs_92 : decode cX12_packs 92 = .ok (.bipush 49, 2) := by decide +kernel
theorem dX12_packs_94 : decode cX12_packs 94 = .ok (.iload_n 1, 1) := by decide +kernel
theorem dX12_packs_95 : decode cX12_packs 95 = .ok (.iadd, 1) := by decide +kernel
theorem dX12_packs_96 : decode cX12_packs 96 = .ok (.iaload, 1) := by decide +kernel
theorem dX12_packs_97 : decode cX12_packs 97 = .ok (.iadd, 1) := by decide +kernel
theorem dX12_packs_98 : decode cX12_packs 98 = .ok (.iastore, 1) := by decide +kernel
theorem dX12_packs_99 : decode cX12_packs 99 = .ok (.iload 4, 2) := by decide +kernel
theorem dX12_packs_101 : decode cX12_packs 101 = .ok (.ifCond .eq 5, 3) := by decide +kernel
theorem dX12_packs_104 : decode cX12_packs 104 = .ok (.iconst 1, 1) := by decide +kernel
theorem dX12_packs_105 : decode cX12_packs 105 = .ok (.ireturn, 1) := by decide +kernel
theorem dX12_packs_106 : decode cX12_packs 106 = .ok (.iinc 3 1, 3) := by decide +kernel
theorem dX12_packs_109 : decode cX12_packs 109 = .ok (.goto (-95), 3) := by decide +kernel
theorem dX12_packs_112 : decode cX12_packs 112 = .ok (.iconst 0, 1) := by decide +kernel
theorem dX12_packs_113 : decode cX12_packs 113 = .ok (.ireturn, 1) := by decide +kernel
theorem dX12_fitting_0 : decode cX12_fitting 0 = .ok (.iconst 0, 1) := by decide +kernel
theorem dX12_fitting_1 : decode cX12_fitting 1 = .ok (.istore_n 1, 1) := by decide +kernel
theorem dX12_fitting_2 : decode cX12_fitting 2 = .ok (.iload_n 1, 1) := by decide +kernel
theorem dX12_fitting_3 : decode cX12_fitting 3 = .ok (.bipush 6, 2) := by decide +kernel
theorem dX12_fitting_5 : decode cX12_fitting 5 = .ok (.if_icmp .ge 24, 3) := by decide +kernel
theorem dX12_fitting_8 : decode cX12_fitting 8 = .ok (.aload_n 0, 1) := by decide +kernel
theorem dX12_fitting_9 : decode cX12_fitting 9 = .ok (.getfield 56, 3) := by decide +kernel
theorem dX12_fitting_12 : decode cX12_fitting 12 = .ok (.iload_n 1, 1) := by decide +kernel
theorem dX12_fitting_13 : decode cX12_fitting 13 = .ok (.aload_n 0, 1) := by decide +kernel
theorem dX12_fitting_14 : decode cX12_fitting 14 = .ok (.getfield 35, 3) := by decide +kernel
theorem dX12_fitting_17 : decode cX12_fitting 17 = .ok (.bipush 55, 2) := by decide +kernel
theorem dX12_fitting_19 : decode cX12_fitting 19 = .ok (.iload_n 1, 1) := by decide +kernel
theorem dX12_fitting_20 : decode cX12_fitting 20 = .ok (.iadd, 1) := by decide +kernel
theorem dX12_fitting_21 : decode cX12_fitting 21 = .ok (.iaload, 1) := by decide +kernel
theorem dX12_fitting_22 : decode cX12_fitting 22 = .ok (.iastore, 1) := by decide +kernel
theorem dX12_fitting_23 : decode cX12_fitting 23 = .ok (.iinc 1 1, 3) := by decide +kernel
theorem dX12_fitting_26 : decode cX12_fitting 26 = .ok (.goto (-24), 3) := by decide +kernel
theorem dX12_fitting_29 : decode cX12_fitting 29 = .ok (.iconst (-1), 1) := by decide +kernel
theorem dX12_fitting_30 : decode cX12_fitting 30 = .ok (.istore_n 1, 1) := by decide +kernel
theorem dX12_fitting_31 : decode cX12_fitting 31 = .ok (.iconst 0, 1) := by decide +kernel
theorem dX12_fitting_32 : decode cX12_fitting 32 = .ok (.istore_n 2, 1) := by decide +kernel
theorem dX12_fitting_33 : decode cX12_fitting 33 = .ok (.iload_n 2, 1) := by decide +kernel
theorem dX12_fitting_34 : decode cX12_fitting 34 = .ok (.iconst 1, 1) := by decide +kernel
theorem dX12_fitting_35 : decode cX12_fitting 35 = .ok (.aload_n 0, 1) := by decide +kernel
theorem dX12_fitting_36 : decode cX12_fitting 36 = .ok (.getfield 35, 3) := by decide +kernel
theorem dX12_fitting_39 : decode cX12_fitting 39 = .ok (.iconst 2, 1) := by decide +kernel
theorem dX12_fitting_40 : decode cX12_fitting 40 = .ok (.iaload, 1) := by decide +kernel
theorem dX12_fitting_41 : decode cX12_fitting 41 = .ok (.ishl, 1) := by decide +kernel
theorem dX12_fitting_42 : decode cX12_fitting 42 = .ok (.if_icmp .ge 35, 3) := by decide +kernel
theorem dX12_fitting_45 : decode cX12_fitting 45 = .ok (.iload_n 1, 1) := by decide +kernel
theorem dX12_fitting_46 : decode cX12_fitting 46 = .ok (.ifCond .lt 14, 3) := by decide +kernel
theorem dX12_fitting_49 : decode cX12_fitting 49 = .ok (.iload_n 2, 1) := by decide +kernel
theorem dX12_fitting_50 : decode cX12_fitting 50 = .ok (.invokestatic 414, 3) := by decide +kernel
theorem dX12_fitting_53 : decode cX12_fitting 53 = .ok (.iload_n 1, 1) := by decide +kernel
theorem dX12_fitting_54 : decode cX12_fitting 54 = .ok (.invokestatic 414, 3) := by decide +kernel
theorem dX12_fitting_57 : decode cX12_fitting 57 = .ok (.if_icmp .ge 14, 3) := by decide +kernel
theorem dX12_fitting_60 : decode cX12_fitting 60 = .ok (.aload_n 0, 1) := by decide +kernel
theorem dX12_fitting_61 : decode cX12_fitting 61 = .ok (.iconst 0, 1) := by decide +kernel
theorem dX12_fitting_62 : decode cX12_fitting 62 = .ok (.iload_n 2, 1) := by decide +kernel
theorem dX12_fitting_63 : decode cX12_fitting 63 = .ok (.invokevirtual 411, 3) := by decide +kernel
theorem dX12_fitting_66 : decode cX12_fitting 66 = .ok (.ifCond .eq 5, 3) := by decide +kernel
theorem dX12_fitting_69 : decode cX12_fitting 69 = .ok (.iload_n 2, 1) := by decide +kernel
theorem dX12_fitting_70 : decode cX12_fitting 70 = .ok (.istore_n 1, 1) := by decide +kernel
theorem dX12_fitting_71 : decode cX12_fitting 71 = .ok (.iinc 2 1, 3) := by decide +kernel
theorem dX12_fitting_74 : decode cX12_fitting 74 = .ok (.goto (-41), 3) := by decide +kernel
theorem dX12_fitting_77 : decode cX12_fitting 77 = .ok (.iload_n 1, 1) := by decide +kernel
theorem dX12_fitting_78 : decode cX12_fitting 78 = .ok (.ireturn, 1) := by decide +kernel
theorem dX12_fits_0 : decode cX12_fits 0 = .ok (.aload_n 0, 1) := by decide +kernel
theorem dX12_fits_1 : decode cX12_fits 1 = .ok (.iconst 0, 1) := by decide +kernel
theorem dX12_fits_2 : decode cX12_fits 2 = .ok (.putfield 71, 3) := by decide +kernel
theorem dX12_fits_5 : decode cX12_fits 5 = .ok (.aload_n 0, 1) := by decide +kernel
theorem dX12_fits_6 : decode cX12_fits 6 = .ok (.iconst 0, 1) := by decide +kernel
theorem dX12_fits_7 : decode cX12_fits 7 = .ok (.putfield 74, 3) := by decide +kernel
theorem dX12_fits_10 : decode cX12_fits 10 = .ok (.aload_n 0, 1) := by decide +kernel
theorem dX12_fits_11 : decode cX12_fits 11 = .ok (.invokevirtual 417, 3) := by decide +kernel
theorem dX12_fits_14 : decode cX12_fits 14 = .ok (.istore_n 1, 1) := by decide +kernel
theorem dX12_fits_15 : decode cX12_fits 15 = .ok (.iload_n 1, 1) := by decide +kernel
theorem dX12_fits_16 : decode cX12_fits 16 = .ok (.ifCond .ge 12, 3) := by decide +kernel
theorem dX12_fits_19 : decode cX12_fits 19 = .ok (.aload_n 0, 1) := by decide +kernel
theorem dX12_fits_20 : decode cX12_fits 20 = .ok (.bipush 8, 2) := by decide +kernel
theorem dX12_fits_22 : decode cX12_fits 22 = .ok (.invokevirtual 324, 3) := by decide +kernel
theorem dX12_fits_25 : decode cX12_fits 25 = .ok (.goto 7, 3) := by decide +kernel
theorem dX12_fits_28 : decode cX12_fits 28 = .ok (.iload_n 1, 1) := by decide +kernel
theorem dX12_fits_29 : decode cX12_fits 29 = .ok (.invokestatic 414, 3) := by decide +kernel
theorem dX12_fits_32 : decode cX12_fits 32 = .ok (.ireturn, 1) := by decide +kernel
theorem dX12_fitSet_0 : decode cX12_fitSet 0 = .ok (.aload_n 0, 1) := by decide +kernel
theorem dX12_fitSet_1 : decode cX12_fitSet 1 = .ok (.iconst 0, 1) := by decide +kernel
theorem dX12_fitSet_2 : decode cX12_fitSet 2 = .ok (.putfield 71, 3) := by decide +kernel
theorem dX12_fitSet_5 : decode cX12_fitSet 5 = .ok (.aload_n 0, 1) := by decide +kernel
theorem dX12_fitSet_6 : decode cX12_fitSet 6 = .ok (.iconst 0, 1) := by decide +kernel
theorem dX12_fitSet_7 : decode cX12_fitSet 7 = .ok (.putfield 74, 3) := by decide +kernel
theorem dX12_fitSet_10 : decode cX12_fitSet 10 = .ok (.aload_n 0, 1) := by decide +kernel
theorem dX12_fitSet_11 : decode cX12_fitSet 11 = .ok (.invokevirtual 417, 3) := by decide +kernel
theorem dX12_fitSet_14 : decode cX12_fitSet 14 = .ok (.istore_n 1, 1) := by decide +kernel
theorem dX12_fitSet_15 : decode cX12_fitSet 15 = .ok (.iload_n 1, 1) := by decide +kernel
theorem dX12_fitSet_16 : decode cX12_fitSet 16 = .ok (.ifCond .ge 12, 3) := by decide +kernel
theorem dX12_fitSet_19 : decode cX12_fitSet 19 = .ok (.aload_n 0, 1) := by decide +kernel
theorem dX12_fitSet_20 : decode cX12_fitSet 20 = .ok (.bipush 8, 2) := by decide +kernel
theorem dX12_fitSet_22 : decode cX12_fitSet 22 = .ok (.invokevirtual 324, 3) := by decide +kernel
theorem dX12_fitSet_25 : decode cX12_fitSet 25 = .ok (.goto 4, 3) := by decide +kernel
theorem dX12_fitSet_28 : decode cX12_fitSet 28 = .ok (.iload_n 1, 1) := by decide +kernel
theorem dX12_fitSet_29 : decode cX12_fitSet 29 = .ok (.ireturn, 1) := by decide +kernel
theorem dX12_unread_0 : decode cX12_unread 0 = .ok (.lconst 1, 1) := by decide +kernel
theorem dX12_unread_1 : decode cX12_unread 1 = .ok (.lstore_n 1, 1) := by decide +kernel
theorem dX12_unread_2 : decode cX12_unread 2 = .ok (.aload_n 0, 1) := by decide +kernel
theorem dX12_unread_3 : decode cX12_unread 3 = .ok (.lconst 1, 1) := by decide +kernel
theorem dX12_unread_4 : decode cX12_unread 4 = .ok (.putfield 420, 3) := by decide +kernel
theorem dX12_unread_7 : decode cX12_unread 7 = .ok (.iconst 0, 1) := by decide +kernel
theorem dX12_unread_8 : decode cX12_unread 8 = .ok (.istore_n 3, 1) := by decide +kernel
theorem dX12_unread_9 : decode cX12_unread 9 = .ok (.iload_n 3, 1) := by decide +kernel
theorem dX12_unread_10 : decode cX12_unread 10 = .ok (.aload_n 0, 1) := by decide +kernel
theorem dX12_unread_11 : decode cX12_unread 11 = .ok (.getfield 35, 3) := by decide +kernel
theorem dX12_unread_14 : decode cX12_unread 14 = .ok (.iconst 2, 1) := by decide +kernel
theorem dX12_unread_15 : decode cX12_unread 15 = .ok (.iaload, 1) := by decide +kernel
theorem dX12_unread_16 : decode cX12_unread 16 = .ok (.if_icmp .ge 56, 3) := by decide +kernel
theorem dX12_unread_19 : decode cX12_unread 19 = .ok (.aload_n 0, 1) := by decide +kernel
theorem dX12_unread_20 : decode cX12_unread 20 = .ok (.iload_n 3, 1) := by decide +kernel
theorem dX12_unread_21 : decode cX12_unread 21 = .ok (.invokevirtual 356, 3) := by decide +kernel
theorem dX12_unread_24 : decode cX12_unread 24 = .ok (.ifCond .ne 42, 3) := by decide +kernel
theorem dX12_unread_27 : decode cX12_unread 27 = .ok (.aload_n 0, 1) := by decide +kernel
theorem dX12_unread_28 : decode cX12_unread 28 = .ok (.iload_n 3, 1) := by decide +kernel
theorem dX12_unread_29 : decode cX12_unread 29 = .ok (.invokevirtual 316, 3) := by decide +kernel
theorem dX12_unread_32 : decode cX12_unread 32 = .ok (.ifCond .ne 6, 3) := by decide +kernel
theorem dX12_unread_35 : decode cX12_unread 35 = .ok (.goto 31, 3) := by decide +kernel
theorem dX12_unread_38 : decode cX12_unread 38 = .ok (.lload_n 1, 1) := by decide +kernel
theorem dX12_unread_39 : decode cX12_unread 39 = .ok (.bipush 16, 2) := by decide +kernel
theorem dX12_unread_41 : decode cX12_unread 41 = .ok (.aload_n 0, 1) := by decide +kernel
theorem dX12_unread_42 : decode cX12_unread 42 = .ok (.getfield 35, 3) := by decide +kernel
theorem dX12_unread_45 : decode cX12_unread 45 = .ok (.bipush 61, 2) := by decide +kernel
theorem dX12_unread_47 : decode cX12_unread 47 = .ok (.iload_n 3, 1) := by decide +kernel
theorem dX12_unread_48 : decode cX12_unread 48 = .ok (.iadd, 1) := by decide +kernel
theorem dX12_unread_49 : decode cX12_unread 49 = .ok (.iaload, 1) := by decide +kernel
theorem dX12_unread_50 : decode cX12_unread 50 = .ok (.isub, 1) := by decide +kernel
theorem dX12_unread_51 : decode cX12_unread 51 = .ok (.i2l, 1) := by decide +kernel
theorem dX12_unread_52 : decode cX12_unread 52 = .ok (.lmul, 1) := by decide +kernel
theorem dX12_unread_53 : decode cX12_unread 53 = .ok (.lstore_n 1, 1) := by decide +kernel
theorem dX12_unread_54 : decode cX12_unread 54 = .ok (.aload_n 0, 1) := by decide +kernel
theorem dX12_unread_55 : decode cX12_unread 55 = .ok (.dup, 1) := by decide +kernel
theorem dX12_unread_56 : decode cX12_unread 56 = .ok (.getfield 420, 3) := by decide +kernel
theorem dX12_unread_59 : decode cX12_unread 59 = .ok (.ldc2_w 385, 3) := by decide +kernel
theorem dX12_unread_62 : decode cX12_unread 62 = .ok (.lmul, 1) := by decide +kernel
theorem dX12_unread_63 : decode cX12_unread 63 = .ok (.putfield 420, 3) := by decide +kernel
theorem dX12_unread_66 : decode cX12_unread 66 = .ok (.iinc 3 1, 3) := by decide +kernel
theorem dX12_unread_69 : decode cX12_unread 69 = .ok (.goto (-60), 3) := by decide +kernel
theorem dX12_unread_72 : decode cX12_unread 72 = .ok (.lload_n 1, 1) := by decide +kernel
theorem dX12_unread_73 : decode cX12_unread 73 = .ok (.lreturn, 1) := by decide +kernel
theorem dX12_caught_0 : decode cX12_caught 0 = .ok (.aload_n 0, 1) := by decide +kernel
theorem dX12_caught_1 : decode cX12_caught 1 = .ok (.iconst 0, 1) := by decide +kernel
theorem dX12_caught_2 : decode cX12_caught 2 = .ok (.putfield 71, 3) := by decide +kernel
theorem dX12_caught_5 : decode cX12_caught 5 = .ok (.aload_n 0, 1) := by decide +kernel
theorem dX12_caught_6 : decode cX12_caught 6 = .ok (.iconst 0, 1) := by decide +kernel
theorem dX12_caught_7 : decode cX12_caught 7 = .ok (.putfield 74, 3) := by decide +kernel
theorem dX12_caught_10 : decode cX12_caught 10 = .ok (.aload_n 0, 1) := by decide +kernel
theorem dX12_caught_11 : decode cX12_caught 11 = .ok (.invokevirtual 423, 3) := by decide +kernel
theorem dX12_caught_14 : decode cX12_caught 14 = .ok (.lstore_n 1, 1) := by decide +kernel
theorem dX12_caught_15 : decode cX12_caught 15 = .ok (.aload_n 0, 1) := by decide +kernel
theorem dX12_caught_16 : decode cX12_caught 16 = .ok (.aload_n 0, 1) := by decide +kernel
theorem dX12_caught_17 : decode cX12_caught 17 = .ok (.getfield 420, 3) := by decide +kernel
theorem dX12_caught_20 : decode cX12_caught 20 = .ok (.lload_n 1, 1) := by decide +kernel
theorem dX12_caught_21 : decode cX12_caught 21 = .ok (.lsub, 1) := by decide +kernel
theorem dX12_caught_22 : decode cX12_caught 22 = .ok (.aload_n 0, 1) := by decide +kernel
theorem dX12_caught_23 : decode cX12_caught 23 = .ok (.getfield 420, 3) := by decide +kernel
theorem dX12_caught_26 : decode cX12_caught 26 = .ok (.invokevirtual 427, 3) := by decide +kernel
theorem dX12_caught_29 : decode cX12_caught 29 = .ok (.ireturn, 1) := by decide +kernel
theorem dX12_risk_0 : decode cX12_risk 0 = .ok (.aload_n 0, 1) := by decide +kernel
theorem dX12_risk_1 : decode cX12_risk 1 = .ok (.iconst 0, 1) := by decide +kernel
theorem dX12_risk_2 : decode cX12_risk 2 = .ok (.putfield 71, 3) := by decide +kernel
theorem dX12_risk_5 : decode cX12_risk 5 = .ok (.aload_n 0, 1) := by decide +kernel
theorem dX12_risk_6 : decode cX12_risk 6 = .ok (.iconst 0, 1) := by decide +kernel
theorem dX12_risk_7 : decode cX12_risk 7 = .ok (.putfield 74, 3) := by decide +kernel
theorem dX12_risk_10 : decode cX12_risk 10 = .ok (.iload_n 1, 1) := by decide +kernel
theorem dX12_risk_11 : decode cX12_risk 11 = .ok (.i2l, 1) := by decide +kernel
theorem dX12_risk_12 : decode cX12_risk 12 = .ok (.lconst 0, 1) := by decide +kernel
theorem dX12_risk_13 : decode cX12_risk 13 = .ok (.ldc2_w 431, 3) := by decide +kernel
theorem dX12_risk_16 : decode cX12_risk 16 = .ok (.invokestatic 106, 3) := by decide +kernel
theorem dX12_risk_19 : decode cX12_risk 19 = .ok (.ifCond .ne 9, 3) := by decide +kernel
theorem dX12_risk_22 : decode cX12_risk 22 = .ok (.aload_n 0, 1) := by decide +kernel
theorem dX12_risk_23 : decode cX12_risk 23 = .ok (.iconst 5, 1) := by decide +kernel
theorem dX12_risk_24 : decode cX12_risk 24 = .ok (.invokevirtual 86, 3) := by decide +kernel
theorem dX12_risk_27 : decode cX12_risk 27 = .ok (.ireturn, 1) := by decide +kernel
theorem dX12_risk_28 : decode cX12_risk 28 = .ok (.lconst 1, 1) := by decide +kernel
theorem dX12_risk_29 : decode cX12_risk 29 = .ok (.lstore_n 2, 1) := by decide +kernel
theorem dX12_risk_30 : decode cX12_risk 30 = .ok (.lconst 1, 1) := by decide +kernel
theorem dX12_risk_31 : decode cX12_risk 31 = .ok (.lstore 4, 2) := by decide +kernel
theorem dX12_risk_33 : decode cX12_risk 33 = .ok (.iconst 0, 1) := by decide +kernel
theorem dX12_risk_34 : decode cX12_risk 34 = .ok (.istore 6, 2) := by decide +kernel
theorem dX12_risk_36 : decode cX12_risk 36 = .ok (.iload 6, 2) := by decide +kernel
theorem dX12_risk_38 : decode cX12_risk 38 = .ok (.iload_n 1, 1) := by decide +kernel
theorem dX12_risk_39 : decode cX12_risk 39 = .ok (.if_icmp .ge 25, 3) := by decide +kernel
theorem dX12_risk_42 : decode cX12_risk 42 = .ok (.lload_n 2, 1) := by decide +kernel
theorem dX12_risk_43 : decode cX12_risk 43 = .ok (.aload_n 0, 1) := by decide +kernel
theorem dX12_risk_44 : decode cX12_risk 44 = .ok (.invokevirtual 423, 3) := by decide +kernel
theorem dX12_risk_47 : decode cX12_risk 47 = .ok (.lmul, 1) := by decide +kernel
theorem dX12_risk_48 : decode cX12_risk 48 = .ok (.lstore_n 2, 1) := by decide +kernel
theorem dX12_risk_49 : decode cX12_risk 49 = .ok (.lload 4, 2) := by decide +kernel
theorem dX12_risk_51 : decode cX12_risk 51 = .ok (.aload_n 0, 1) := by decide +kernel
theorem dX12_risk_52 : decode cX12_risk 52 = .ok (.getfield 420, 3) := by decide +kernel
theorem dX12_risk_55 : decode cX12_risk 55 = .ok (.lmul, 1) := by decide +kernel
theorem dX12_risk_56 : decode cX12_risk 56 = .ok (.lstore 4, 2) := by decide +kernel
theorem dX12_risk_58 : decode cX12_risk 58 = .ok (.iinc 6 1, 3) := by decide +kernel
theorem dX12_risk_61 : decode cX12_risk 61 = .ok (.goto (-25), 3) := by decide +kernel
theorem dX12_risk_64 : decode cX12_risk 64 = .ok (.aload_n 0, 1) := by decide +kernel
theorem dX12_risk_65 : decode cX12_risk 65 = .ok (.lload 4, 2) := by decide +kernel
theorem dX12_risk_67 : decode cX12_risk 67 = .ok (.lload_n 2, 1) := by decide +kernel
theorem dX12_risk_68 : decode cX12_risk 68 = .ok (.lsub, 1) := by decide +kernel
theorem dX12_risk_69 : decode cX12_risk 69 = .ok (.lload 4, 2) := by decide +kernel
theorem dX12_risk_71 : decode cX12_risk 71 = .ok (.invokevirtual 427, 3) := by decide +kernel
theorem dX12_risk_74 : decode cX12_risk 74 = .ok (.ireturn, 1) := by decide +kernel
theorem dX12_hide_0 : decode cX12_hide 0 = .ok (.aload_n 0, 1) := by decide +kernel
theorem dX12_hide_1 : decode cX12_hide 1 = .ok (.iconst 0, 1) := by decide +kernel
theorem dX12_hide_2 : decode cX12_hide 2 = .ok (.putfield 71, 3) := by decide +kernel
theorem dX12_hide_5 : decode cX12_hide 5 = .ok (.aload_n 0, 1) := by decide +kernel
theorem dX12_hide_6 : decode cX12_hide 6 = .ok (.iconst 0, 1) := by decide +kernel
theorem dX12_hide_7 : decode cX12_hide 7 = .ok (.putfield 74, 3) := by decide +kernel
theorem dX12_hide_10 : decode cX12_hide 10 = .ok (.aload_n 0, 1) := by decide +kernel
theorem dX12_hide_11 : decode cX12_hide 11 = .ok (.iload_n 1, 1) := by decide +kernel
theorem dX12_hide_12 : decode cX12_hide 12 = .ok (.invokevirtual 338, 3) := by decide +kernel
theorem dX12_hide_15 : decode cX12_hide 15 = .ok (.ifCond .ne 9, 3) := by decide +kernel
theorem dX12_hide_18 : decode cX12_hide 18 = .ok (.aload_n 0, 1) := by decide +kernel
theorem dX12_hide_19 : decode cX12_hide 19 = .ok (.iconst 2, 1) := by decide +kernel
theorem dX12_hide_20 : decode cX12_hide 20 = .ok (.invokevirtual 324, 3) := by decide +kernel
theorem dX12_hide_23 : decode cX12_hide 23 = .ok (.ireturn, 1) := by decide +kernel
theorem dX12_hide_24 : decode cX12_hide 24 = .ok (.iconst (-1), 1) := by decide +kernel
theorem dX12_hide_25 : decode cX12_hide 25 = .ok (.istore_n 2, 1) := by decide +kernel
theorem dX12_hide_26 : decode cX12_hide 26 = .ok (.iconst 0, 1) := by decide +kernel
theorem dX12_hide_27 : decode cX12_hide 27 = .ok (.istore_n 3, 1) := by decide +kernel
theorem dX12_hide_28 : decode cX12_hide 28 = .ok (.iload_n 3, 1) := by decide +kernel
theorem dX12_hide_29 : decode cX12_hide 29 = .ok (.aload_n 0, 1) := by decide +kernel
theorem dX12_hide_30 : decode cX12_hide 30 = .ok (.getfield 35, 3) := by decide +kernel
theorem dX12_hide_33 : decode cX12_hide 33 = .ok (.iconst 2, 1) := by decide +kernel
theorem dX12_hide_34 : decode cX12_hide 34 = .ok (.iaload, 1) := by decide +kernel
theorem dX12_hide_35 : decode cX12_hide 35 = .ok (.if_icmp .ge 61, 3) := by decide +kernel
theorem dX12_hide_38 : decode cX12_hide 38 = .ok (.aload_n 0, 1) := by decide +kernel
theorem dX12_hide_39 : decode cX12_hide 39 = .ok (.iload_n 3, 1) := by decide +kernel
theorem dX12_hide_40 : decode cX12_hide 40 = .ok (.invokevirtual 356, 3) := by decide +kernel
theorem dX12_hide_43 : decode cX12_hide 43 = .ok (.ifCond .ne 47, 3) := by decide +kernel
theorem dX12_hide_46 : decode cX12_hide 46 = .ok (.aload_n 0, 1) := by decide +kernel
theorem dX12_hide_47 : decode cX12_hide 47 = .ok (.iload_n 3, 1) := by decide +kernel
theorem dX12_hide_48 : decode cX12_hide 48 = .ok (.invokevirtual 344, 3) := by decide +kernel
theorem dX12_hide_51 : decode cX12_hide 51 = .ok (.aload_n 0, 1) := by decide +kernel
theorem dX12_hide_52 : decode cX12_hide 52 = .ok (.getfield 35, 3) := by decide +kernel
theorem dX12_hide_55 : decode cX12_hide 55 = .ok (.bipush 49, 2) := by decide +kernel
theorem dX12_hide_57 : decode cX12_hide 57 = .ok (.iload_n 1, 1) := by decide +kernel
theorem dX12_hide_58 : decode cX12_hide 58 = .ok (.iadd, 1) := by decide +kernel
theorem dX12_hide_59 : decode cX12_hide 59 = .ok (.iaload, 1) := by decide +kernel
theorem dX12_hide_60 : decode cX12_hide 60 = .ok (.if_icmp .lt 30, 3) := by decide +kernel
theorem dX12_hide_63 : decode cX12_hide 63 = .ok (.iload_n 2, 1) := by decide +kernel
theorem dX12_hide_64 : decode cX12_hide 64 = .ok (.ifCond .lt 24, 3) := by decide +kernel
theorem dX12_hide_67 : decode cX12_hide 67 = .ok (.aload_n 0, 1) := by decide +kernel
theorem dX12_hide_68 : decode cX12_hide 68 = .ok (.getfield 35, 3) := by decide +kernel
theorem dX12_hide_71 : decode cX12_hide 71 = .ok (.bipush 61, 2) := by decide +kernel
theorem dX12_hide_73 : decode cX12_hide 73 = .ok (.iload_n 3, 1) := by decide +kernel
theorem dX12_hide_74 : decode cX12_hide 74 = .ok (.iadd, 1) := by decide +kernel
theorem dX12_hide_75 : decode cX12_hide 75 = .ok (.iaload, 1) := by decide +kernel
theorem dX12_hide_76 : decode cX12_hide 76 = .ok (.aload_n 0, 1) := by decide +kernel
theorem dX12_hide_77 : decode cX12_hide 77 = .ok (.getfield 35, 3) := by decide +kernel
theorem dX12_hide_80 : decode cX12_hide 80 = .ok (.bipush 61, 2) := by decide +kernel
theorem dX12_hide_82 : decode cX12_hide 82 = .ok (.iload_n 2, 1) := by decide +kernel
theorem dX12_hide_83 : decode cX12_hide 83 = .ok (.iadd, 1) := by decide +kernel
theorem dX12_hide_84 : decode cX12_hide 84 = .ok (.iaload, 1) := by decide +kernel
theorem dX12_hide_85 : decode cX12_hide 85 = .ok (.if_icmp .ge 5, 3) := by decide +kernel
theorem dX12_hide_88 : decode cX12_hide 88 = .ok (.iload_n 3, 1) := by decide +kernel
theorem dX12_hide_89 : decode cX12_hide 89 = .ok (.istore_n 2, 1) := by decide +kernel
theorem dX12_hide_90 : decode cX12_hide 90 = .ok (.iinc 3 1, 3) := by decide +kernel
theorem dX12_hide_93 : decode cX12_hide 93 = .ok (.goto (-65), 3) := by decide +kernel
theorem dX12_hide_96 : decode cX12_hide 96 = .ok (.iload_n 2, 1) := by decide +kernel
theorem dX12_hide_97 : decode cX12_hide 97 = .ok (.ifCond .ge 12, 3) := by decide +kernel
theorem dX12_hide_100 : decode cX12_hide 100 = .ok (.aload_n 0, 1) := by decide +kernel
theorem dX12_hide_101 : decode cX12_hide 101 = .ok (.bipush 8, 2) := by decide +kernel
theorem dX12_hide_103 : decode cX12_hide 103 = .ok (.invokevirtual 324, 3) := by decide +kernel
theorem dX12_hide_106 : decode cX12_hide 106 = .ok (.goto 4, 3) := by decide +kernel
theorem dX12_hide_109 : decode cX12_hide 109 = .ok (.iload_n 2, 1) := by decide +kernel
theorem dX12_hide_110 : decode cX12_hide 110 = .ok (.ireturn, 1) := by decide +kernel
theorem dX12_games_0 : decode cX12_games 0 = .ok (.aload_n 0, 1) := by decide +kernel
theorem dX12_games_1 : decode cX12_games 1 = .ok (.iconst (-1), 1) := by decide +kernel
theorem dX12_games_2 : decode cX12_games 2 = .ok (.putfield 433, 3) := by decide +kernel
theorem dX12_games_5 : decode cX12_games 5 = .ok (.aload_n 0, 1) := by decide +kernel
theorem dX12_games_6 : decode cX12_games 6 = .ok (.iconst 0, 1) := by decide +kernel
theorem dX12_games_7 : decode cX12_games 7 = .ok (.putfield 436, 3) := by decide +kernel
theorem dX12_games_10 : decode cX12_games 10 = .ok (.aload_n 0, 1) := by decide +kernel
theorem dX12_games_11 : decode cX12_games 11 = .ok (.lconst 1, 1) := by decide +kernel
theorem dX12_games_12 : decode cX12_games 12 = .ok (.putfield 439, 3) := by decide +kernel
theorem dX12_games_15 : decode cX12_games 15 = .ok (.aload_n 0, 1) := by decide +kernel
theorem dX12_games_16 : decode cX12_games 16 = .ok (.lconst 0, 1) := by decide +kernel
theorem dX12_games_17 : decode cX12_games 17 = .ok (.putfield 442, 3) := by decide +kernel
theorem dX12_games_20 : decode cX12_games 20 = .ok (.iconst 0, 1) := by decide +kernel
theorem dX12_games_21 : decode cX12_games 21 = .ok (.istore_n 1, 1) := by decide +kernel
theorem dX12_games_22 : decode cX12_games 22 = .ok (.iload_n 1, 1) := by decide +kernel
theorem dX12_games_23 : decode cX12_games 23 = .ok (.aload_n 0, 1) := by decide +kernel
theorem dX12_games_24 : decode cX12_games 24 = .ok (.getfield 35, 3) := by decide +kernel
theorem dX12_games_27 : decode cX12_games 27 = .ok (.iconst 2, 1) := by decide +kernel
theorem dX12_games_28 : decode cX12_games 28 = .ok (.iaload, 1) := by decide +kernel
theorem dX12_games_29 : decode cX12_games 29 = .ok (.if_icmp .ge 73, 3) := by decide +kernel
theorem dX12_games_32 : decode cX12_games 32 = .ok (.aload_n 0, 1) := by decide +kernel
theorem dX12_games_33 : decode cX12_games 33 = .ok (.iload_n 1, 1) := by decide +kernel
theorem dX12_games_34 : decode cX12_games 34 = .ok (.invokevirtual 356, 3) := by decide +kernel
theorem dX12_games_37 : decode cX12_games 37 = .ok (.ifCond .eq 6, 3) := by decide +kernel
theorem dX12_games_40 : decode cX12_games 40 = .ok (.goto 56, 3) := by decide +kernel
theorem dX12_games_43 : decode cX12_games 43 = .ok (.aload_n 0, 1) := by decide +kernel
theorem dX12_games_44 : decode cX12_games 44 = .ok (.dup, 1) := by decide +kernel
theorem dX12_games_45 : decode cX12_games 45 = .ok (.getfield 436, 3) := by decide +kernel
theorem dX12_games_48 : decode cX12_games 48 = .ok (.iconst 1, 1) := by decide +kernel
theorem dX12_games_49 : decode cX12_games 49 = .ok (.iadd, 1) := by decide +kernel
theorem dX12_games_50 : decode cX12_games 50 = .ok (.putfield 436, 3) := by decide +kernel
theorem dX12_games_53 : decode cX12_games 53 = .ok (.aload_n 0, 1) := by decide +kernel
theorem dX12_games_54 : decode cX12_games 54 = .ok (.getfield 35, 3) := by decide +kernel
theorem dX12_games_57 : decode cX12_games 57 = .ok (.bipush 61, 2) := by decide +kernel
theorem dX12_games_59 : decode cX12_games 59 = .ok (.iload_n 1, 1) := by decide +kernel
theorem dX12_games_60 : decode cX12_games 60 = .ok (.iadd, 1) := by decide +kernel
theorem dX12_games_61 : decode cX12_games 61 = .ok (.iaload, 1) := by decide +kernel
theorem dX12_games_62 : decode cX12_games 62 = .ok (.ifCond .ne 15, 3) := by decide +kernel
theorem dX12_games_65 : decode cX12_games 65 = .ok (.aload_n 0, 1) := by decide +kernel
theorem dX12_games_66 : decode cX12_games 66 = .ok (.getfield 433, 3) := by decide +kernel
theorem dX12_games_69 : decode cX12_games 69 = .ok (.ifCond .ge 8, 3) := by decide +kernel
theorem dX12_games_72 : decode cX12_games 72 = .ok (.aload_n 0, 1) := by decide +kernel
theorem dX12_games_73 : decode cX12_games 73 = .ok (.iload_n 1, 1) := by decide +kernel
theorem dX12_games_74 : decode cX12_games 74 = .ok (.putfield 433, 3) := by decide +kernel
theorem dX12_games_77 : decode cX12_games 77 = .ok (.aload_n 0, 1) := by decide +kernel
theorem dX12_games_78 : decode cX12_games 78 = .ok (.dup, 1) := by decide +kernel
theorem dX12_games_79 : decode cX12_games 79 = .ok (.getfield 439, 3) := by decide +kernel
theorem dX12_games_82 : decode cX12_games 82 = .ok (.aload_n 0, 1) := by decide +kernel
theorem dX12_games_83 : decode cX12_games 83 = .ok (.getfield 35, 3) := by decide +kernel
theorem dX12_games_86 : decode cX12_games 86 = .ok (.bipush 61, 2) := by decide +kernel
theorem dX12_games_88 : decode cX12_games 88 = .ok (.iload_n 1, 1) := by decide +kernel
theorem dX12_games_89 : decode cX12_games 89 = .ok (.iadd, 1) := by decide +kernel
theorem dX12_games_90 : decode cX12_games 90 = .ok (.iaload, 1) := by decide +kernel
theorem dX12_games_91 : decode cX12_games 91 = .ok (.i2l, 1) := by decide +kernel
theorem dX12_games_92 : decode cX12_games 92 = .ok (.lmul, 1) := by decide +kernel
theorem dX12_games_93 : decode cX12_games 93 = .ok (.putfield 439, 3) := by decide +kernel
theorem dX12_games_96 : decode cX12_games 96 = .ok (.iinc 1 1, 3) := by decide +kernel
theorem dX12_games_99 : decode cX12_games 99 = .ok (.goto (-77), 3) := by decide +kernel
theorem dX12_games_102 : decode cX12_games 102 = .ok (.aload_n 0, 1) := by decide +kernel
theorem dX12_games_103 : decode cX12_games 103 = .ok (.getfield 433, 3) := by decide +kernel
theorem dX12_games_106 : decode cX12_games 106 = .ok (.ifCond .lt 4, 3) := by decide +kernel
theorem dX12_games_109 : decode cX12_games 109 = .ok (.return_, 1) := by decide +kernel
theorem dX12_games_110 : decode cX12_games 110 = .ok (.iconst 0, 1) := by decide +kernel
theorem dX12_games_111 : decode cX12_games 111 = .ok (.istore_n 1, 1) := by decide +kernel
theorem dX12_games_112 : decode cX12_games 112 = .ok (.iload_n 1, 1) := by decide +kernel
theorem dX12_games_113 : decode cX12_games 113 = .ok (.aload_n 0, 1) := by decide +kernel
theorem dX12_games_114 : decode cX12_games 114 = .ok (.getfield 35, 3) := by decide +kernel
theorem dX12_games_117 : decode cX12_games 117 = .ok (.iconst 2, 1) := by decide +kernel
theorem dX12_games_118 : decode cX12_games 118 = .ok (.iaload, 1) := by decide +kernel
theorem dX12_games_119 : decode cX12_games 119 = .ok (.if_icmp .ge 45, 3) := by decide +kernel
theorem dX12_games_122 : decode cX12_games 122 = .ok (.aload_n 0, 1) := by decide +kernel
theorem dX12_games_123 : decode cX12_games 123 = .ok (.dup, 1) := by decide +kernel
theorem dX12_games_124 : decode cX12_games 124 = .ok (.getfield 442, 3) := by decide +kernel
theorem dX12_games_127 : decode cX12_games 127 = .ok (.aload_n 0, 1) := by decide +kernel
theorem dX12_games_128 : decode cX12_games 128 = .ok (.iload_n 1, 1) := by decide +kernel
theorem dX12_games_129 : decode cX12_games 129 = .ok (.invokevirtual 356, 3) := by decide +kernel
theorem dX12_games_132 : decode cX12_games 132 = .ok (.ifCond .eq 7, 3) := by decide +kernel
theorem dX12_games_135 : decode cX12_games 135 = .ok (.lconst 0, 1) := by decide +kernel
theorem dX12_games_136 : decode cX12_games 136 = .ok (.goto 18, 3) := by decide +kernel
theorem dX12_games_139 : decode cX12_games 139 = .ok (.aload_n 0, 1) := by decide +kernel
theorem dX12_games_140 : decode cX12_games 140 = .ok (.getfield 439, 3) := by decide +kernel
theorem dX12_games_143 : decode cX12_games 143 = .ok (.aload_n 0, 1) := by decide +kernel
theorem dX12_games_144 : decode cX12_games 144 = .ok (.getfield 35, 3) := by decide +kernel
theorem dX12_games_147 : decode cX12_games 147 = .ok (.bipush 61, 2) := by decide +kernel
theorem dX12_games_149 : decode cX12_games 149 = .ok (.iload_n 1, 1) := by decide +kernel
theorem dX12_games_150 : decode cX12_games 150 = .ok (.iadd, 1) := by decide +kernel
theorem dX12_games_151 : decode cX12_games 151 = .ok (.iaload, 1) := by decide +kernel
theorem dX12_games_152 : decode cX12_games 152 = .ok (.i2l, 1) := by decide +kernel
theorem dX12_games_153 : decode cX12_games 153 = .ok (.ldiv, 1) := by decide +kernel
theorem dX12_games_154 : decode cX12_games 154 = .ok (.ladd, 1) := by decide +kernel
theorem dX12_games_155 : decode cX12_games 155 = .ok (.putfield 442, 3) := by decide +kernel
theorem dX12_games_158 : decode cX12_games 158 = .ok (.iinc 1 1, 3) := by decide +kernel
theorem dX12_games_161 : decode cX12_games 161 = .ok (.goto (-49), 3) := by decide +kernel
theorem dX12_games_164 : decode cX12_games 164 = .ok (.return_, 1) := by decide +kernel
theorem dX12_game_0 : decode cX12_game 0 = .ok (.aload_n 0, 1) := by decide +kernel
theorem dX12_game_1 : decode cX12_game 1 = .ok (.iconst 0, 1) := by decide +kernel
theorem dX12_game_2 : decode cX12_game 2 = .ok (.putfield 71, 3) := by decide +kernel
theorem dX12_game_5 : decode cX12_game 5 = .ok (.aload_n 0, 1) := by decide +kernel
theorem dX12_game_6 : decode cX12_game 6 = .ok (.iconst 0, 1) := by decide +kernel
theorem dX12_game_7 : decode cX12_game 7 = .ok (.putfield 74, 3) := by decide +kernel
theorem dX12_game_10 : decode cX12_game 10 = .ok (.aload_n 0, 1) := by decide +kernel
theorem dX12_game_11 : decode cX12_game 11 = .ok (.invokevirtual 445, 3) := by decide +kernel
theorem dX12_game_14 : decode cX12_game 14 = .ok (.aload_n 0, 1) := by decide +kernel
theorem dX12_game_15 : decode cX12_game 15 = .ok (.getfield 436, 3) := by decide +kernel
theorem dX12_game_18 : decode cX12_game 18 = .ok (.ifCond .ne 10, 3) := by decide +kernel
theorem dX12_game_21 : decode cX12_game 21 = .ok (.aload_n 0, 1) := by decide +kernel
theorem dX12_game_22 : decode cX12_game 22 = .ok (.bipush 8, 2) := by decide +kernel
theorem dX12_game_24 : decode cX12_game 24 = .ok (.invokevirtual 86, 3) := by decide +kernel
theorem dX12_game_27 : decode cX12_game 27 = .ok (.ireturn, 1) := by decide +kernel
theorem dX12_game_28 : decode cX12_game 28 = .ok (.aload_n 0, 1) := by decide +kernel
theorem dX12_game_29 : decode cX12_game 29 = .ok (.getfield 433, 3) := by decide +kernel
theorem dX12_game_32 : decode cX12_game 32 = .ok (.ifCond .lt 12, 3) := by decide +kernel
theorem dX12_game_35 : decode cX12_game 35 = .ok (.aload_n 0, 1) := by decide +kernel
theorem dX12_game_36 : decode cX12_game 36 = .ok (.lconst 0, 1) := by decide +kernel
theorem dX12_game_37 : decode cX12_game 37 = .ok (.lconst 1, 1) := by decide +kernel
theorem dX12_game_38 : decode cX12_game 38 = .ok (.invokevirtual 427, 3) := by decide +kernel
theorem dX12_game_41 : decode cX12_game 41 = .ok (.goto 19, 3) := by decide +kernel
theorem dX12_game_44 : decode cX12_game 44 = .ok (.aload_n 0, 1) := by decide +kernel
theorem dX12_game_45 : decode cX12_game 45 = .ok (.aload_n 0, 1) := by decide +kernel
theorem dX12_game_46 : decode cX12_game 46 = .ok (.getfield 439, 3) := by decide +kernel
theorem dX12_game_49 : decode cX12_game 49 = .ok (.ldc2_w 385, 3) := by decide +kernel
theorem dX12_game_52 : decode cX12_game 52 = .ok (.aload_n 0, 1) := by decide +kernel
theorem dX12_game_53 : decode cX12_game 53 = .ok (.getfield 442, 3) := by decide +kernel
theorem dX12_game_56 : decode cX12_game 56 = .ok (.lmul, 1) := by decide +kernel
theorem dX12_game_57 : decode cX12_game 57 = .ok (.invokevirtual 427, 3) := by decide +kernel
theorem dX12_game_60 : decode cX12_game 60 = .ok (.ireturn, 1) := by decide +kernel
theorem dX12_mix_0 : decode cX12_mix 0 = .ok (.aload_n 0, 1) := by decide +kernel
theorem dX12_mix_1 : decode cX12_mix 1 = .ok (.iconst 0, 1) := by decide +kernel
theorem dX12_mix_2 : decode cX12_mix 2 = .ok (.putfield 71, 3) := by decide +kernel
theorem dX12_mix_5 : decode cX12_mix 5 = .ok (.aload_n 0, 1) := by decide +kernel
theorem dX12_mix_6 : decode cX12_mix 6 = .ok (.iconst 0, 1) := by decide +kernel
theorem dX12_mix_7 : decode cX12_mix 7 = .ok (.putfield 74, 3) := by decide +kernel
theorem dX12_mix_10 : decode cX12_mix 10 = .ok (.aload_n 0, 1) := by decide +kernel
theorem dX12_mix_11 : decode cX12_mix 11 = .ok (.iload_n 1, 1) := by decide +kernel
theorem dX12_mix_12 : decode cX12_mix 12 = .ok (.invokevirtual 341, 3) := by decide +kernel
theorem dX12_mix_15 : decode cX12_mix 15 = .ok (.ifCond .ne 9, 3) := by decide +kernel
theorem dX12_mix_18 : decode cX12_mix 18 = .ok (.aload_n 0, 1) := by decide +kernel
theorem dX12_mix_19 : decode cX12_mix 19 = .ok (.iconst 2, 1) := by decide +kernel
theorem dX12_mix_20 : decode cX12_mix 20 = .ok (.invokevirtual 86, 3) := by decide +kernel
theorem dX12_mix_23 : decode cX12_mix 23 = .ok (.ireturn, 1) := by decide +kernel
theorem dX12_mix_24 : decode cX12_mix 24 = .ok (.aload_n 0, 1) := by decide +kernel
theorem dX12_mix_25 : decode cX12_mix 25 = .ok (.iload_n 1, 1) := by decide +kernel
theorem dX12_mix_26 : decode cX12_mix 26 = .ok (.invokevirtual 356, 3) := by decide +kernel
theorem dX12_mix_29 : decode cX12_mix 29 = .ok (.ifCond .eq 10, 3) := by decide +kernel
theorem dX12_mix_32 : decode cX12_mix 32 = .ok (.aload_n 0, 1) := by decide +kernel
theorem dX12_mix_33 : decode cX12_mix 33 = .ok (.bipush 9, 2) := by decide +kernel
theorem dX12_mix_35 : decode cX12_mix 35 = .ok (.invokevirtual 86, 3) := by decide +kernel
theorem dX12_mix_38 : decode cX12_mix 38 = .ok (.ireturn, 1) := by decide +kernel
theorem dX12_mix_39 : decode cX12_mix 39 = .ok (.aload_n 0, 1) := by decide +kernel
theorem dX12_mix_40 : decode cX12_mix 40 = .ok (.invokevirtual 445, 3) := by decide +kernel
theorem dX12_mix_43 : decode cX12_mix 43 = .ok (.aload_n 0, 1) := by decide +kernel
theorem dX12_mix_44 : decode cX12_mix 44 = .ok (.getfield 433, 3) := by decide +kernel
theorem dX12_mix_47 : decode cX12_mix 47 = .ok (.ifCond .lt 22, 3) := by decide +kernel
theorem dX12_mix_50 : decode cX12_mix 50 = .ok (.aload_n 0, 1) := by decide +kernel
theorem dX12_mix_51 : decode cX12_mix 51 = .ok (.aload_n 0, 1) := by decide +kernel
theorem dX12_mix_52 : decode cX12_mix 52 = .ok (.getfield 433, 3) := by decide +kernel
theorem dX12_mix_55 : decode cX12_mix 55 = .ok (.iload_n 1, 1) := by decide +kernel
theorem dX12_mix_56 : decode cX12_mix 56 = .ok (.if_icmp .ne 7, 3) := by decide +kernel
theorem dX12_mix_59 : decode cX12_mix 59 = .ok (.lconst 1, 1) := by decide +kernel
theorem dX12_mix_60 : decode cX12_mix 60 = .ok (.goto 4, 3) := by decide +kernel
theorem dX12_mix_63 : decode cX12_mix 63 = .ok (.lconst 0, 1) := by decide +kernel
theorem dX12_mix_64 : decode cX12_mix 64 = .ok (.lconst 1, 1) := by decide +kernel
theorem dX12_mix_65 : decode cX12_mix 65 = .ok (.invokevirtual 427, 3) := by decide +kernel
theorem dX12_mix_68 : decode cX12_mix 68 = .ok (.ireturn, 1) := by decide +kernel
theorem dX12_mix_69 : decode cX12_mix 69 = .ok (.aload_n 0, 1) := by decide +kernel
theorem dX12_mix_70 : decode cX12_mix 70 = .ok (.aload_n 0, 1) := by decide +kernel
theorem dX12_mix_71 : decode cX12_mix 71 = .ok (.getfield 439, 3) := by decide +kernel
theorem dX12_mix_74 : decode cX12_mix 74 = .ok (.aload_n 0, 1) := by decide +kernel
theorem dX12_mix_75 : decode cX12_mix 75 = .ok (.getfield 35, 3) := by decide +kernel
theorem dX12_mix_78 : decode cX12_mix 78 = .ok (.bipush 61, 2) := by decide +kernel
theorem dX12_mix_80 : decode cX12_mix 80 = .ok (.iload_n 1, 1) := by decide +kernel
theorem dX12_mix_81 : decode cX12_mix 81 = .ok (.iadd, 1) := by decide +kernel
theorem dX12_mix_82 : decode cX12_mix 82 = .ok (.iaload, 1) := by decide +kernel
theorem dX12_mix_83 : decode cX12_mix 83 = .ok (.i2l, 1) := by decide +kernel
theorem dX12_mix_84 : decode cX12_mix 84 = .ok (.ldiv, 1) := by decide +kernel
theorem dX12_mix_85 : decode cX12_mix 85 = .ok (.aload_n 0, 1) := by decide +kernel
theorem dX12_mix_86 : decode cX12_mix 86 = .ok (.getfield 442, 3) := by decide +kernel
theorem dX12_mix_89 : decode cX12_mix 89 = .ok (.invokevirtual 427, 3) := by decide +kernel
theorem dX12_mix_92 : decode cX12_mix 92 = .ok (.ireturn, 1) := by decide +kernel
theorem dX12_whyNoWord_0 : decode cX12_whyNoWord 0 = .ok (.aload_n 0, 1) := by decide +kernel
theorem dX12_whyNoWord_1 : decode cX12_whyNoWord 1 = .ok (.iload_n 1, 1) := by decide +kernel
theorem dX12_whyNoWord_2 : decode cX12_whyNoWord 2 = .ok (.invokevirtual 353, 3) := by decide +kernel
theorem dX12_whyNoWord_5 : decode cX12_whyNoWord 5 = .ok (.ifCond .eq 11, 3) := by decide +kernel
theorem dX12_whyNoWord_8 : decode cX12_whyNoWord 8 = .ok (.aload_n 0, 1) := by decide +kernel
theorem dX12_whyNoWord_9 : decode cX12_whyNoWord 9 = .ok (.iload_n 3, 1) := by decide +kernel
theorem dX12_whyNoWord_10 : decode cX12_whyNoWord 10 = .ok (.invokevirtual 353, 3) := by decide +kernel
theorem dX12_whyNoWord_13 : decode cX12_whyNoWord 13 = .ok (.ifCond .ne 5, 3) := by decide +kernel
theorem dX12_whyNoWord_16 : decode cX12_whyNoWord 16 = .ok (.iconst 1, 1) := by decide +kernel
theorem dX12_whyNoWord_17 : decode cX12_whyNoWord 17 = .ok (.ireturn, 1) := by decide +kernel
theorem dX12_whyNoWord_18 : decode cX12_whyNoWord 18 = .ok (.aload_n 0, 1) := by decide +kernel
theorem dX12_whyNoWord_19 : decode cX12_whyNoWord 19 = .ok (.getfield 17, 3) := by decide +kernel
theorem dX12_whyNoWord_22 : decode cX12_whyNoWord 22 = .ok (.iload_n 1, 1) := by decide +kernel
theorem dX12_whyNoWord_23 : decode cX12_whyNoWord 23 = .ok (.iaload, 1) := by decide +kernel
theorem dX12_whyNoWord_24 : decode cX12_whyNoWord 24 = .ok (.ifCond .lt 12, 3) := by decide +kernel
theorem dX12_whyNoWord_27 : decode cX12_whyNoWord 27 = .ok (.aload_n 0, 1) := by decide +kernel
theorem dX12_whyNoWord_28 : decode cX12_whyNoWord 28 = .ok (.getfield 17, 3) := by decide +kernel
theorem dX12_whyNoWord_31 : decode cX12_whyNoWord 31 = .ok (.iload_n 3, 1) := by decide +kernel
theorem dX12_whyNoWord_32 : decode cX12_whyNoWord 32 = .ok (.iaload, 1) := by decide +kernel
theorem dX12_whyNoWord_33 : decode cX12_whyNoWord 33 = .ok (.ifCond .ge 5, 3) := by decide +kernel
theorem dX12_whyNoWord_36 : decode cX12_whyNoWord 36 = .ok (.iconst 3, 1) := by decide +kernel
theorem dX12_whyNoWord_37 : decode cX12_whyNoWord 37 = .ok (.ireturn, 1) := by decide +kernel
theorem dX12_whyNoWord_38 : decode cX12_whyNoWord 38 = .ok (.aload_n 0, 1) := by decide +kernel
theorem dX12_whyNoWord_39 : decode cX12_whyNoWord 39 = .ok (.getfield 17, 3) := by decide +kernel
theorem dX12_whyNoWord_42 : decode cX12_whyNoWord 42 = .ok (.iload_n 1, 1) := by decide +kernel
theorem dX12_whyNoWord_43 : decode cX12_whyNoWord 43 = .ok (.iaload, 1) := by decide +kernel
theorem dX12_whyNoWord_44 : decode cX12_whyNoWord 44 = .ok (.iload_n 2, 1) := by decide +kernel
theorem dX12_whyNoWord_45 : decode cX12_whyNoWord 45 = .ok (.if_icmp .lt 14, 3) := by decide +kernel
theorem dX12_whyNoWord_48 : decode cX12_whyNoWord 48 = .ok (.aload_n 0, 1) := by decide +kernel
theorem dX12_whyNoWord_49 : decode cX12_whyNoWord 49 = .ok (.getfield 17, 3) := by decide +kernel
theorem dX12_whyNoWord_52 : decode cX12_whyNoWord 52 = .ok (.iload_n 3, 1) := by decide +kernel
theorem dX12_whyNoWord_53 : decode cX12_whyNoWord 53 = .ok (.iaload, 1) := by decide +kernel
theorem dX12_whyNoWord_54 : decode cX12_whyNoWord 54 = .ok (.iload 4, 2) := by decide +kernel
theorem dX12_whyNoWord_56 : decode cX12_whyNoWord 56 = .ok (.if_icmp .ge 5, 3) := by decide +kernel
theorem dX12_whyNoWord_59 : decode cX12_whyNoWord 59 = .ok (.iconst 4, 1) := by decide +kernel
theorem dX12_whyNoWord_60 : decode cX12_whyNoWord 60 = .ok (.ireturn, 1) := by decide +kernel
theorem dX12_whyNoWord_61 : decode cX12_whyNoWord 61 = .ok (.iload_n 2, 1) := by decide +kernel
theorem dX12_whyNoWord_62 : decode cX12_whyNoWord 62 = .ok (.i2l, 1) := by decide +kernel
theorem dX12_whyNoWord_63 : decode cX12_whyNoWord 63 = .ok (.lconst 1, 1) := by decide +kernel
theorem dX12_whyNoWord_64 : decode cX12_whyNoWord 64 = .ok (.ldc2_w 448, 3) := by decide +kernel
theorem dX12_whyNoWord_67 : decode cX12_whyNoWord 67 = .ok (.invokestatic 106, 3) := by decide +kernel
theorem dX12_whyNoWord_70 : decode cX12_whyNoWord 70 = .ok (.ifCond .eq 16, 3) := by decide +kernel
theorem dX12_whyNoWord_73 : decode cX12_whyNoWord 73 = .ok (.iload 4, 2) := by decide +kernel
theorem dX12_whyNoWord_75 : decode cX12_whyNoWord 75 = .ok (.i2l, 1) := by decide +kernel
theorem dX12_whyNoWord_76 : decode cX12_whyNoWord 76 = .ok (.lconst 1, 1) := by decide +kernel
theorem dX12_whyNoWord_77 : decode cX12_whyNoWord 77 = .ok (.ldc2_w 450, 3) := by decide +kernel
theorem dX12_whyNoWord_80 : decode cX12_whyNoWord 80 = .ok (.invokestatic 106, 3) := by decide +kernel
theorem dX12_whyNoWord_83 : decode cX12_whyNoWord 83 = .ok (.ifCond .ne 5, 3) := by decide +kernel
theorem dX12_whyNoWord_86 : decode cX12_whyNoWord 86 = .ok (.iconst 5, 1) := by decide +kernel
theorem dX12_whyNoWord_87 : decode cX12_whyNoWord 87 = .ok (.ireturn, 1) := by decide +kernel
theorem dX12_whyNoWord_88 : decode cX12_whyNoWord 88 = .ok (.iconst 0, 1) := by decide +kernel
theorem dX12_whyNoWord_89 : decode cX12_whyNoWord 89 = .ok (.istore 5, 2) := by decide +kernel
theorem dX12_whyNoWord_91 : decode cX12_whyNoWord 91 = .ok (.iload 5, 2) := by decide +kernel
theorem dX12_whyNoWord_93 : decode cX12_whyNoWord 93 = .ok (.iload_n 2, 1) := by decide +kernel
theorem dX12_whyNoWord_94 : decode cX12_whyNoWord 94 = .ok (.if_icmp .ge 28, 3) := by decide +kernel
theorem dX12_whyNoWord_97 : decode cX12_whyNoWord 97 = .ok (.aload_n 0, 1) := by decide +kernel
theorem dX12_whyNoWord_98 : decode cX12_whyNoWord 98 = .ok (.iload_n 1, 1) := by decide +kernel
theorem dX12_whyNoWord_99 : decode cX12_whyNoWord 99 = .ok (.iload 5, 2) := by decide +kernel
theorem dX12_whyNoWord_101 : decode cX12_whyNoWord 101 = .ok (.invokevirtual 452, 3) := by decide +kernel
theorem dX12_whyNoWord_104 : decode cX12_whyNoWord 104 = .ok (.lconst 1, 1) := by decide +kernel
theorem dX12_whyNoWord_105 : decode cX12_whyNoWord 105 = .ok (.ldc2_w 456, 3) := by decide +kernel
theorem dX12_whyNoWord_108 : decode cX12_whyNoWord 108 = .ok (.invokestatic 106, 3) := by decide +kernel
theorem dX12_whyNoWord_111 : decode cX12_whyNoWord 111 = .ok (.ifCond .ne 5, 3) := by decide +kernel
theorem dX12_whyNoWord_114 : decode cX12_whyNoWord 114 = .ok (.iconst 5, 1) := by decide +kernel
theorem dX12_whyNoWord_115 : decode cX12_whyNoWord 115 = .ok (.ireturn, 1) := by decide +kernel
theorem dX12_whyNoWord_116 : decode cX12_whyNoWord 116 = .ok (.iinc 5 1, 3) := by decide +kernel
theorem dX12_whyNoWord_119 : decode cX12_whyNoWord 119 = .ok (.goto (-28), 3) := by decide +kernel
theorem dX12_whyNoWord_122 : decode cX12_whyNoWord 122 = .ok (.iconst 0, 1) := by decide +kernel
theorem dX12_whyNoWord_123 : decode cX12_whyNoWord 123 = .ok (.istore 5, 2) := by decide +kernel
theorem dX12_whyNoWord_125 : decode cX12_whyNoWord 125 = .ok (.iload 5, 2) := by decide +kernel
theorem dX12_whyNoWord_127 : decode cX12_whyNoWord 127 = .ok (.iload 4, 2) := by decide +kernel
theorem dX12_whyNoWord_129 : decode cX12_whyNoWord 129 = .ok (.if_icmp .ge 28, 3) := by decide +kernel
theorem dX12_whyNoWord_132 : decode cX12_whyNoWord 132 = .ok (.aload_n 0, 1) := by decide +kernel
theorem dX12_whyNoWord_133 : decode cX12_whyNoWord 133 = .ok (.iload_n 3, 1) := by decide +kernel
theorem dX12_whyNoWord_134 : decode cX12_whyNoWord 134 = .ok (.iload 5, 2) := by decide +kernel
theorem dX12_whyNoWord_136 : decode cX12_whyNoWord 136 = .ok (.invokevirtual 452, 3) := by decide +kernel
theorem dX12_whyNoWord_139 : decode cX12_whyNoWord 139 = .ok (.lconst 1, 1) := by decide +kernel
theorem dX12_whyNoWord_140 : decode cX12_whyNoWord 140 = .ok (.ldc2_w 456, 3) := by decide +kernel
theorem dX12_whyNoWord_143 : decode cX12_whyNoWord 143 = .ok (.invokestatic 106, 3) := by decide +kernel
theorem dX12_whyNoWord_146 : decode cX12_whyNoWord 146 = .ok (.ifCond .ne 5, 3) := by decide +kernel
theorem dX12_whyNoWord_149 : decode cX12_whyNoWord 149 = .ok (.iconst 5, 1) := by decide +kernel
theorem dX12_whyNoWord_150 : decode cX12_whyNoWord 150 = .ok (.ireturn, 1) := by decide +kernel
theorem dX12_whyNoWord_151 : decode cX12_whyNoWord 151 = .ok (.iinc 5 1, 3) := by decide +kernel
theorem dX12_whyNoWord_154 : decode cX12_whyNoWord 154 = .ok (.goto (-29), 3) := by decide +kernel
theorem dX12_whyNoWord_157 : decode cX12_whyNoWord 157 = .ok (.iconst 0, 1) := by decide +kernel
theorem dX12_whyNoWord_158 : decode cX12_whyNoWord 158 = .ok (.ireturn, 1) := by decide +kernel
theorem dX12_pricked_0 : decode cX12_pricked 0 = .ok (.aload_n 0, 1) := by decide +kernel
theorem dX12_pricked_1 : decode cX12_pricked 1 = .ok (.iconst 0, 1) := by decide +kernel
theorem dX12_pricked_2 : decode cX12_pricked 2 = .ok (.putfield 71, 3) := by decide +kernel
theorem dX12_pricked_5 : decode cX12_pricked 5 = .ok (.aload_n 0, 1) := by decide +kernel
theorem dX12_pricked_6 : decode cX12_pricked 6 = .ok (.aload_n 0, 1) := by decide +kernel
theorem dX12_pricked_7 : decode cX12_pricked 7 = .ok (.iload_n 1, 1) := by decide +kernel
theorem dX12_pricked_8 : decode cX12_pricked 8 = .ok (.iload_n 2, 1) := by decide +kernel
theorem dX12_pricked_9 : decode cX12_pricked 9 = .ok (.iload_n 3, 1) := by decide +kernel
theorem dX12_pricked_10 : decode cX12_pricked 10 = .ok (.iload 4, 2) := by decide +kernel
theorem dX12_pricked_12 : decode cX12_pricked 12 = .ok (.invokevirtual 458, 3) := by decide +kernel
theorem dX12_pricked_15 : decode cX12_pricked 15 = .ok (.putfield 74, 3) := by decide +kernel
theorem dX12_pricked_18 : decode cX12_pricked 18 = .ok (.aload_n 0, 1) := by decide +kernel
theorem dX12_pricked_19 : decode cX12_pricked 19 = .ok (.getfield 74, 3) := by decide +kernel
theorem dX12_pricked_22 : decode cX12_pricked 22 = .ok (.ifCond .le 7, 3) := by decide +kernel
theorem dX12_pricked_25 : decode cX12_pricked 25 = .ok (.ldc2_w 102, 3) := by decide +kernel
theorem dX12_pricked_28 : decode cX12_pricked 28 = .ok (.lreturn, 1) := by decide +kernel
theorem dX12_pricked_29 : decode cX12_pricked 29 = .ok (.iconst 0, 1) := by decide +kernel
theorem dX12_pricked_30 : decode cX12_pricked 30 = .ok (.istore 5, 2) := by decide +kernel
theorem dX12_pricked_32 : decode cX12_pricked 32 = .ok (.iload 5, 2) := by decide +kernel
theorem dX12_pricked_34 : decode cX12_pricked 34 = .ok (.iload_n 2, 1) := by decide +kernel
theorem dX12_pricked_35 : decode cX12_pricked 35 = .ok (.if_icmp .gt 26, 3) := by decide +kernel
theorem dX12_pricked_38 : decode cX12_pricked 38 = .ok (.aload_n 0, 1) := by decide +kernel
theorem dX12_pricked_39 : decode cX12_pricked 39 = .ok (.getfield 59, 3) := by decide +kernel
theorem dX12_pricked_42 : decode cX12_pricked 42 = .ok (.iload 5, 2) := by decide +kernel
theorem dX12_pricked_44 : decode cX12_pricked 44 = .ok (.iload 5, 2) := by decide +kernel
theorem dX12_pricked_46 : decode cX12_pricked 46 = .ok (.ifCond .ne 7, 3) := by decide +kernel
theorem dX12_pricked_49 : decode cX12_pricked 49 = .ok (.lconst 1, 1) := by decide +kernel
theorem dX12_pricked_50 : decode cX12_pricked 50 = .ok (.goto 4, 3) := by decide +kernel
theorem dX12_pricked_53 : decode cX12_pricked 53 = .ok (.lconst 0, 1) := by decide +kernel
theorem dX12_pricked_54 : decode cX12_pricked 54 = .ok (.lastore, 1) := by decide +kernel
theorem dX12_pricked_55 : decode cX12_pricked 55 = .ok (.iinc 5 1, 3) := by decide +kernel
theorem dX12_pricked_58 : decode cX12_pricked 58 = .ok (.goto (-26), 3) := by decide +kernel
theorem dX12_pricked_61 : decode cX12_pricked 61 = .ok (.iconst 0, 1) := by decide +kernel
theorem dX12_pricked_62 : decode cX12_pricked 62 = .ok (.istore 5, 2) := by decide +kernel
theorem dX12_pricked_64 : decode cX12_pricked 64 = .ok (.iload 5, 2) := by decide +kernel
theorem dX12_pricked_66 : decode cX12_pricked 66 = .ok (.iload 4, 2) := by decide +kernel
theorem dX12_pricked_68 : decode cX12_pricked 68 = .ok (.if_icmp .ge 62, 3) := by decide +kernel
theorem dX12_pricked_71 : decode cX12_pricked 71 = .ok (.iload_n 2, 1) := by decide +kernel
theorem dX12_pricked_72 : decode cX12_pricked 72 = .ok (.istore 6, 2) := by decide +kernel
theorem dX12_pricked_74 : decode cX12_pricked 74 = .ok (.iload 6, 2) := by decide +kernel
theorem dX12_pricked_76 : decode cX12_pricked 76 = .ok (.ifCond .le 48, 3) := by decide +kernel
theorem dX12_pricked_79 : decode cX12_pricked 79 = .ok (.aload_n 0, 1) := by decide +kernel
theorem dX12_pricked_80 : decode cX12_pricked 80 = .ok (.iload_n 1, 1) := by decide +kernel
theorem dX12_pricked_81 : decode cX12_pricked 81 = .ok (.iload 6, 2) := by decide +kernel
theorem dX12_pricked_83 : decode cX12_pricked 83 = .ok (.iconst 1, 1) := by decide +kernel
theorem dX12_pricked_84 : decode cX12_pricked 84 = .ok (.isub, 1) := by decide +kernel
theorem dX12_pricked_85 : decode cX12_pricked 85 = .ok (.invokevirtual 452, 3) := by decide +kernel
theorem dX12_pricked_88 : decode cX12_pricked 88 = .ok (.aload_n 0, 1) := by decide +kernel
theorem dX12_pricked_89 : decode cX12_pricked 89 = .ok (.iload_n 3, 1) := by decide +kernel
theorem dX12_pricked_90 : decode cX12_pricked 90 = .ok (.iload 5, 2) := by decide +kernel
theorem dX12_pricked_92 : decode cX12_pricked 92 = .ok (.invokevirtual 452, 3) := by decide +kernel
theorem dX12_pricked_95 : decode cX12_pricked 95 = .ok (.lcmp, 1) := by decide +kernel
theorem dX12_pricked_96 : decode cX12_pricked 96 = .ok (.ifCond .ne 22, 3) := by decide +kernel
theorem dX12_pricked_99 : decode cX12_pricked 99 = .ok (.aload_n 0, 1) := by decide +kernel
theorem dX12_pricked_100 : decode cX12_pricked 100 = .ok (.getfield 59, 3) := by decide +kernel
theorem dX12_pricked_103 : decode cX12_pricked 103 = .ok (.iload 6, 2) := by decide +kernel
theorem dX12_pricked_105 : decode cX12_pricked 105 = .ok (.dup2, 1) := by decide +kernel
theorem dX12_pricked_106 : decode cX12_pricked 106 = .ok (.laload, 1) := by decide +kernel
theorem dX12_pricked_107 : decode cX12_pricked 107 = .ok (.aload_n 0, 1) := by decide +kernel
theorem dX12_pricked_108 : decode cX12_pricked 108 = .ok (.getfield 59, 3) := by decide +kernel
theorem dX12_pricked_111 : decode cX12_pricked 111 = .ok (.iload 6, 2) := by decide +kernel
theorem dX12_pricked_113 : decode cX12_pricked 113 = .ok (.iconst 1, 1) := by decide +kernel
theorem dX12_pricked_114 : decode cX12_pricked 114 = .ok (.isub, 1) := by decide +kernel
theorem dX12_pricked_115 : decode cX12_pricked 115 = .ok (.laload, 1) := by decide +kernel
theorem dX12_pricked_116 : decode cX12_pricked 116 = .ok (.ladd, 1) := by decide +kernel
theorem dX12_pricked_117 : decode cX12_pricked 117 = .ok (.lastore, 1) := by decide +kernel
theorem dX12_pricked_118 : decode cX12_pricked 118 = .ok (.iinc 6 (-1), 3) := by decide +kernel
theorem dX12_pricked_121 : decode cX12_pricked 121 = .ok (.goto (-47), 3) := by decide +kernel
theorem dX12_pricked_124 : decode cX12_pricked 124 = .ok (.iinc 5 1, 3) := by decide +kernel
theorem dX12_pricked_127 : decode cX12_pricked 127 = .ok (.goto (-63), 3) := by decide +kernel
theorem dX12_pricked_130 : decode cX12_pricked 130 = .ok (.aload_n 0, 1) := by decide +kernel
theorem dX12_pricked_131 : decode cX12_pricked 131 = .ok (.getfield 59, 3) := by decide +kernel
theorem dX12_pricked_134 : decode cX12_pricked 134 = .ok (.iload_n 2, 1) := by decide +kernel
theorem dX12_pricked_135 : decode cX12_pricked 135 = .ok (.laload, 1) := by decide +kernel
theorem dX12_pricked_136 : decode cX12_pricked 136 = .ok (.lreturn, 1) := by decide +kernel
theorem dX12_laysFrom_0 : decode cX12_laysFrom 0 = .ok (.iload 5, 2) := by decide +kernel
theorem dX12_laysFrom_2 : decode cX12_laysFrom 2 = .ok (.istore 6, 2) := by decide +kernel
theorem dX12_laysFrom_4 : decode cX12_laysFrom 4 = .ok (.iconst 0, 1) := by decide +kernel
theorem dX12_laysFrom_5 : decode cX12_laysFrom 5 = .ok (.istore 7, 2) := by decide +kernel
theorem dX12_laysFrom_7 : decode cX12_laysFrom 7 = .ok (.iload 7, 2) := by decide +kernel
theorem dX12_laysFrom_9 : decode cX12_laysFrom 9 = .ok (.iload_n 2, 1) := by decide +kernel
theorem dX12_laysFrom_10 : decode cX12_laysFrom 10 = .ok (.if_icmp .ge 61, 3) := by decide +kernel
theorem dX12_laysFrom_13 : decode cX12_laysFrom 13 = .ok (.iload 6, 2) := by decide +kernel
theorem dX12_laysFrom_15 : decode cX12_laysFrom 15 = .ok (.iload 4, 2) := by decide +kernel
theorem dX12_laysFrom_17 : decode cX12_laysFrom 17 = .ok (.if_icmp .ge 27, 3) := by decide +kernel
theorem dX12_laysFrom_20 : decode cX12_laysFrom 20 = .ok (.aload_n 0, 1) := by decide +kernel
theorem dX12_laysFrom_21 : decode cX12_laysFrom 21 = .ok (.iload_n 3, 1) := by decide +kernel
theorem dX12_laysFrom_22 : decode cX12_laysFrom 22 = .ok (.iload 6, 2) := by decide +kernel
theorem dX12_laysFrom_24 : decode cX12_laysFrom 24 = .ok (.invokevirtual 452, 3) := by decide +kernel
theorem dX12_laysFrom_27 : decode cX12_laysFrom 27 = .ok (.aload_n 0, 1) := by decide +kernel
theorem dX12_laysFrom_28 : decode cX12_laysFrom 28 = .ok (.iload_n 1, 1) := by decide +kernel
theorem dX12_laysFrom_29 : decode cX12_laysFrom 29 = .ok (.iload 7, 2) := by decide +kernel
theorem dX12_laysFrom_31 : decode cX12_laysFrom 31 = .ok (.invokevirtual 452, 3) := by decide +kernel
theorem dX12_laysFrom_34 : decode cX12_laysFrom 34 = .ok (.lcmp, 1) := by decide +kernel
theorem dX12_laysFrom_35 : decode cX12_laysFrom 35 = .ok (.ifCond .eq 9, 3) := by decide +kernel
theorem dX12_laysFrom_38 : decode cX12_laysFrom 38 = .ok (.iinc 6 1, 3) := by decide +kernel
theorem dX12_laysFrom_41 : decode cX12_laysFrom 41 = .ok (.goto (-28), 3) := by decide +kernel
theorem dX12_laysFrom_44 : decode cX12_laysFrom 44 = .ok (.iload 6, 2) := by decide +kernel
theorem dX12_laysFrom_46 : decode cX12_laysFrom 46 = .ok (.iload 4, 2) := by decide +kernel
theorem dX12_laysFrom_48 : decode cX12_laysFrom 48 = .ok (.if_icmp .ne 5, 3) := by decide +kernel
theorem dX12_laysFrom_51 : decode cX12_laysFrom 51 = .ok (.iconst 0, 1) := by decide +kernel
theorem dX12_laysFrom_52 : decode cX12_laysFrom 52 = .ok (.ireturn, 1) := by decide +kernel
theorem dX12_laysFrom_53 : decode cX12_laysFrom 53 = .ok (.aload_n 0, 1) := by decide +kernel
theorem dX12_laysFrom_54 : decode cX12_laysFrom 54 = .ok (.getfield 62, 3) := by decide +kernel
theorem dX12_laysFrom_57 : decode cX12_laysFrom 57 = .ok (.iload 7, 2) := by decide +kernel
theorem dX12_laysFrom_59 : decode cX12_laysFrom 59 = .ok (.iload 6, 2) := by decide +kernel
theorem dX12_laysFrom_61 : decode cX12_laysFrom 61 = .ok (.iastore, 1) := by decide +kernel
theorem dX12_laysFrom_62 : decode cX12_laysFrom 62 = .ok (.iinc 6 1, 3) := by decide +kernel
theorem dX12_laysFrom_65 : decode cX12_laysFrom 65 = .ok (.iinc 7 1, 3) := by decide +kernel
theorem dX12_laysFrom_68 : decode cX12_laysFrom 68 = .ok (.goto (-61), 3) := by decide +kernel
theorem dX12_laysFrom_71 : decode cX12_laysFrom 71 = .ok (.iconst 1, 1) := by decide +kernel
theorem dX12_laysFrom_72 : decode cX12_laysFrom 72 = .ok (.ireturn, 1) := by decide +kernel
theorem dX12_prickAt_0 : decode cX12_prickAt 0 = .ok (.aload_n 0, 1) := by decide +kernel
theorem dX12_prickAt_1 : decode cX12_prickAt 1 = .ok (.iconst 0, 1) := by decide +kernel
theorem dX12_prickAt_2 : decode cX12_prickAt 2 = .ok (.putfield 71, 3) := by decide +kernel
theorem dX12_prickAt_5 : decode cX12_prickAt 5 = .ok (.aload_n 0, 1) := by decide +kernel
theorem dX12_prickAt_6 : decode cX12_prickAt 6 = .ok (.aload_n 0, 1) := by decide +kernel
theorem dX12_prickAt_7 : decode cX12_prickAt 7 = .ok (.iload_n 1, 1) := by decide +kernel
theorem dX12_prickAt_8 : decode cX12_prickAt 8 = .ok (.iload_n 2, 1) := by decide +kernel
theorem dX12_prickAt_9 : decode cX12_prickAt 9 = .ok (.iload_n 3, 1) := by decide +kernel
theorem dX12_prickAt_10 : decode cX12_prickAt 10 = .ok (.iload 4, 2) := by decide +kernel
theorem dX12_prickAt_12 : decode cX12_prickAt 12 = .ok (.invokevirtual 458, 3) := by decide +kernel
theorem dX12_prickAt_15 : decode cX12_prickAt 15 = .ok (.putfield 74, 3) := by decide +kernel
theorem dX12_prickAt_18 : decode cX12_prickAt 18 = .ok (.aload_n 0, 1) := by decide +kernel
theorem dX12_prickAt_19 : decode cX12_prickAt 19 = .ok (.getfield 74, 3) := by decide +kernel
theorem dX12_prickAt_22 : decode cX12_prickAt 22 = .ok (.ifCond .ne 22, 3) := by decide +kernel
theorem dX12_prickAt_25 : decode cX12_prickAt 25 = .ok (.iload 5, 2) := by decide +kernel
theorem dX12_prickAt_27 : decode cX12_prickAt 27 = .ok (.i2l, 1) := by decide +kernel
theorem dX12_prickAt_28 : decode cX12_prickAt 28 = .ok (.lconst 0, 1) := by decide +kernel
theorem dX12_prickAt_29 : decode cX12_prickAt 29 = .ok (.iload_n 2, 1) := by decide +kernel
theorem dX12_prickAt_30 : decode cX12_prickAt 30 = .ok (.iconst 1, 1) := by decide +kernel
theorem dX12_prickAt_31 : decode cX12_prickAt 31 = .ok (.isub, 1) := by decide +kernel
theorem dX12_prickAt_32 : decode cX12_prickAt 32 = .ok (.i2l, 1) := by decide +kernel
theorem dX12_prickAt_33 : decode cX12_prickAt 33 = .ok (.invokestatic 106, 3) := by decide +kernel
theorem dX12_prickAt_36 : decode cX12_prickAt 36 = .ok (.ifCond .ne 8, 3) := by decide +kernel
theorem dX12_prickAt_39 : decode cX12_prickAt 39 = .ok (.aload_n 0, 1) := by decide +kernel
theorem dX12_prickAt_40 : decode cX12_prickAt 40 = .ok (.iconst 5, 1) := by decide +kernel
theorem dX12_prickAt_41 : decode cX12_prickAt 41 = .ok (.putfield 74, 3) := by decide +kernel
theorem dX12_prickAt_44 : decode cX12_prickAt 44 = .ok (.aload_n 0, 1) := by decide +kernel
theorem dX12_prickAt_45 : decode cX12_prickAt 45 = .ok (.getfield 74, 3) := by decide +kernel
theorem dX12_prickAt_48 : decode cX12_prickAt 48 = .ok (.ifCond .le 5, 3) := by decide +kernel
theorem dX12_prickAt_51 : decode cX12_prickAt 51 = .ok (.iconst (-1), 1) := by decide +kernel
theorem dX12_prickAt_52 : decode cX12_prickAt 52 = .ok (.ireturn, 1) := by decide +kernel
theorem dX12_prickAt_53 : decode cX12_prickAt 53 = .ok (.aload_n 0, 1) := by decide +kernel
theorem dX12_prickAt_54 : decode cX12_prickAt 54 = .ok (.iload_n 1, 1) := by decide +kernel
theorem dX12_prickAt_55 : decode cX12_prickAt 55 = .ok (.iload_n 2, 1) := by decide +kernel
theorem dX12_prickAt_56 : decode cX12_prickAt 56 = .ok (.iload_n 3, 1) := by decide +kernel
theorem dX12_prickAt_57 : decode cX12_prickAt 57 = .ok (.iload 4, 2) := by decide +kernel
theorem dX12_prickAt_59 : decode cX12_prickAt 59 = .ok (.iconst 0, 1) := by decide +kernel
theorem dX12_prickAt_60 : decode cX12_prickAt 60 = .ok (.invokevirtual 462, 3) := by decide +kernel
theorem dX12_prickAt_63 : decode cX12_prickAt 63 = .ok (.ifCond .eq 13, 3) := by decide +kernel
theorem dX12_prickAt_66 : decode cX12_prickAt 66 = .ok (.aload_n 0, 1) := by decide +kernel
theorem dX12_prickAt_67 : decode cX12_prickAt 67 = .ok (.getfield 62, 3) := by decide +kernel
theorem dX12_prickAt_70 : decode cX12_prickAt 70 = .ok (.iload 5, 2) := by decide +kernel
theorem dX12_prickAt_72 : decode cX12_prickAt 72 = .ok (.iaload, 1) := by decide +kernel
theorem dX12_prickAt_73 : decode cX12_prickAt 73 = .ok (.goto 9, 3) := by decide +kernel
theorem dX12_prickAt_76 : decode cX12_prickAt 76 = .ok (.aload_n 0, 1) := by decide +kernel
theorem dX12_prickAt_77 : decode cX12_prickAt 77 = .ok (.bipush 8, 2) := by decide +kernel
theorem dX12_prickAt_79 : decode cX12_prickAt 79 = .ok (.invokevirtual 324, 3) := by decide +kernel
theorem dX12_prickAt_82 : decode cX12_prickAt 82 = .ok (.ireturn, 1) := by decide +kernel
theorem dX12_shortest_0 : decode cX12_shortest 0 = .ok (.aload_n 0, 1) := by decide +kernel
theorem dX12_shortest_1 : decode cX12_shortest 1 = .ok (.iconst 0, 1) := by decide +kernel
theorem dX12_shortest_2 : decode cX12_shortest 2 = .ok (.putfield 71, 3) := by decide +kernel
theorem dX12_shortest_5 : decode cX12_shortest 5 = .ok (.aload_n 0, 1) := by decide +kernel
theorem dX12_shortest_6 : decode cX12_shortest 6 = .ok (.aload_n 0, 1) := by decide +kernel
theorem dX12_shortest_7 : decode cX12_shortest 7 = .ok (.iload_n 1, 1) := by decide +kernel
theorem dX12_shortest_8 : decode cX12_shortest 8 = .ok (.iload_n 2, 1) := by decide +kernel
theorem dX12_shortest_9 : decode cX12_shortest 9 = .ok (.iload_n 3, 1) := by decide +kernel
theorem dX12_shortest_10 : decode cX12_shortest 10 = .ok (.iload 4, 2) := by decide +kernel
theorem dX12_shortest_12 : decode cX12_shortest 12 = .ok (.invokevirtual 458, 3) := by decide +kernel
theorem dX12_shortest_15 : decode cX12_shortest 15 = .ok (.putfield 74, 3) := by decide +kernel
theorem dX12_shortest_18 : decode cX12_shortest 18 = .ok (.aload_n 0, 1) := by decide +kernel
theorem dX12_shortest_19 : decode cX12_shortest 19 = .ok (.getfield 74, 3) := by decide +kernel
theorem dX12_shortest_22 : decode cX12_shortest 22 = .ok (.ifCond .le 5, 3) := by decide +kernel
theorem dX12_shortest_25 : decode cX12_shortest 25 = .ok (.iconst (-1), 1) := by decide +kernel
theorem dX12_shortest_26 : decode cX12_shortest 26 = .ok (.ireturn, 1) := by decide +kernel
theorem dX12_shortest_27 : decode cX12_shortest 27 = .ok (.iconst (-1), 1) := by decide +kernel
theorem dX12_shortest_28 : decode cX12_shortest 28 = .ok (.istore 5, 2) := by decide +kernel
theorem dX12_shortest_30 : decode cX12_shortest 30 = .ok (.iconst 0, 1) := by decide +kernel
theorem dX12_shortest_31 : decode cX12_shortest 31 = .ok (.istore 6, 2) := by decide +kernel
theorem dX12_shortest_33 : decode cX12_shortest 33 = .ok (.iload 6, 2) := by decide +kernel
theorem dX12_shortest_35 : decode cX12_shortest 35 = .ok (.iload 4, 2) := by decide +kernel
theorem dX12_shortest_37 : decode cX12_shortest 37 = .ok (.if_icmp .ge 64, 3) := by decide +kernel
theorem dX12_shortest_40 : decode cX12_shortest 40 = .ok (.aload_n 0, 1) := by decide +kernel
theorem dX12_shortest_41 : decode cX12_shortest 41 = .ok (.iload_n 1, 1) := by decide +kernel
theorem dX12_shortest_42 : decode cX12_shortest 42 = .ok (.iload_n 2, 1) := by decide +kernel
theorem dX12_shortest_43 : decode cX12_shortest 43 = .ok (.iload_n 3, 1) := by decide +kernel
theorem dX12_shortest_44 : decode cX12_shortest 44 = .ok (.iload 4, 2) := by decide +kernel
theorem dX12_shortest_46 : decode cX12_shortest 46 = .ok (.iload 6, 2) := by decide +kernel
theorem dX12_shortest_48 : decode cX12_shortest 48 = .ok (.invokevirtual 462, 3) := by decide +kernel
theorem dX12_shortest_51 : decode cX12_shortest 51 = .ok (.ifCond .ne 6, 3) := by decide +kernel
theorem dX12_shortest_54 : decode cX12_shortest 54 = .ok (.goto 41, 3) := by decide +kernel
theorem dX12_shortest_57 : decode cX12_shortest 57 = .ok (.aload_n 0, 1) := by decide +kernel
theorem dX12_shortest_58 : decode cX12_shortest 58 = .ok (.getfield 62, 3) := by decide +kernel
theorem dX12_shortest_61 : decode cX12_shortest 61 = .ok (.iload_n 2, 1) := by decide +kernel
theorem dX12_shortest_62 : decode cX12_shortest 62 = .ok (.iconst 1, 1) := by decide +kernel
theorem dX12_shortest_63 : decode cX12_shortest 63 = .ok (.isub, 1) := by decide +kernel
theorem dX12_shortest_64 : decode cX12_shortest 64 = .ok (.iaload, 1) := by decide +kernel
theorem dX12_shortest_65 : decode cX12_shortest 65 = .ok (.aload_n 0, 1) := by decide +kernel
theorem dX12_shortest_66 : decode cX12_shortest 66 = .ok (.getfield 62, 3) := by decide +kernel
theorem dX12_shortest_69 : decode cX12_shortest 69 = .ok (.iconst 0, 1) := by decide +kernel
theorem dX12_shortest_70 : decode cX12_shortest 70 = .ok (.iaload, 1) := by decide +kernel
theorem dX12_shortest_71 : decode cX12_shortest 71 = .ok (.isub, 1) := by decide +kernel
theorem dX12_shortest_72 : decode cX12_shortest 72 = .ok (.iconst 1, 1) := by decide +kernel
theorem dX12_shortest_73 : decode cX12_shortest 73 = .ok (.iadd, 1) := by decide +kernel
theorem dX12_shortest_74 : decode cX12_shortest 74 = .ok (.istore 7, 2) := by decide +kernel
theorem dX12_shortest_76 : decode cX12_shortest 76 = .ok (.iload 5, 2) := by decide +kernel
theorem dX12_shortest_78 : decode cX12_shortest 78 = .ok (.ifCond .ge 8, 3) := by decide +kernel
theorem dX12_shortest_81 : decode cX12_shortest 81 = .ok (.iload 7, 2) := by decide +kernel
theorem dX12_shortest_83 : decode cX12_shortest 83 = .ok (.goto 10, 3) := by decide +kernel
theorem dX12_shortest_86 : decode cX12_shortest 86 = .ok (.iload 5, 2) := by decide +kernel
theorem dX12_shortest_88 : decode cX12_shortest 88 = .ok (.iload 7, 2) := by decide +kernel
theorem dX12_shortest_90 : decode cX12_shortest 90 = .ok (.invokestatic 365, 3) := by decide +kernel
theorem dX12_shortest_93 : decode cX12_shortest 93 = .ok (.istore 5, 2) := by decide +kernel
theorem dX12_shortest_95 : decode cX12_shortest 95 = .ok (.iinc 6 1, 3) := by decide +kernel
theorem dX12_shortest_98 : decode cX12_shortest 98 = .ok (.goto (-65), 3) := by decide +kernel
theorem dX12_shortest_101 : decode cX12_shortest 101 = .ok (.iload 5, 2) := by decide +kernel
theorem dX12_shortest_103 : decode cX12_shortest 103 = .ok (.ifCond .ge 12, 3) := by decide +kernel
theorem dX12_shortest_106 : decode cX12_shortest 106 = .ok (.aload_n 0, 1) := by decide +kernel
theorem dX12_shortest_107 : decode cX12_shortest 107 = .ok (.bipush 8, 2) := by decide +kernel
theorem dX12_shortest_109 : decode cX12_shortest 109 = .ok (.invokevirtual 324, 3) := by decide +kernel
theorem dX12_shortest_112 : decode cX12_shortest 112 = .ok (.goto 5, 3) := by decide +kernel
theorem dX12_shortest_115 : decode cX12_shortest 115 = .ok (.iload 5, 2) := by decide +kernel
theorem dX12_shortest_117 : decode cX12_shortest 117 = .ok (.ireturn, 1) := by decide +kernel
theorem dX12_draw_0 : decode cX12_draw 0 = .ok (.aload_n 0, 1) := by decide +kernel
theorem dX12_draw_1 : decode cX12_draw 1 = .ok (.aload_n 0, 1) := by decide +kernel
theorem dX12_draw_2 : decode cX12_draw 2 = .ok (.getfield 466, 3) := by decide +kernel
theorem dX12_draw_5 : decode cX12_draw 5 = .ok (.sipush 2969, 3) := by decide +kernel
theorem dX12_draw_8 : decode cX12_draw 8 = .ok (.imul, 1) := by decide +kernel
theorem dX12_draw_9 : decode cX12_draw 9 = .ok (.sipush 10651, 3) := by decide +kernel
theorem dX12_draw_12 : decode cX12_draw 12 = .ok (.iadd, 1) := by decide +kernel
theorem dX12_draw_13 : decode cX12_draw 13 = .ok (.ldc_w 469, 3) := by decide +kernel
theorem dX12_draw_16 : decode cX12_draw 16 = .ok (.irem, 1) := by decide +kernel
theorem dX12_draw_17 : decode cX12_draw 17 = .ok (.putfield 466, 3) := by decide +kernel
theorem dX12_draw_20 : decode cX12_draw 20 = .ok (.aload_n 0, 1) := by decide +kernel
theorem dX12_draw_21 : decode cX12_draw 21 = .ok (.getfield 466, 3) := by decide +kernel
theorem dX12_draw_24 : decode cX12_draw 24 = .ok (.bipush 8, 2) := by decide +kernel
theorem dX12_draw_26 : decode cX12_draw 26 = .ok (.idiv, 1) := by decide +kernel
theorem dX12_draw_27 : decode cX12_draw 27 = .ok (.iload_n 1, 1) := by decide +kernel
theorem dX12_draw_28 : decode cX12_draw 28 = .ok (.irem, 1) := by decide +kernel
theorem dX12_draw_29 : decode cX12_draw 29 = .ok (.ireturn, 1) := by decide +kernel
theorem dX12_anyTurns_0 : decode cX12_anyTurns 0 = .ok (.aload_n 0, 1) := by decide +kernel
theorem dX12_anyTurns_1 : decode cX12_anyTurns 1 = .ok (.getfield 35, 3) := by decide +kernel
theorem dX12_anyTurns_4 : decode cX12_anyTurns 4 = .ok (.iconst 4, 1) := by decide +kernel
theorem dX12_anyTurns_5 : decode cX12_anyTurns 5 = .ok (.iaload, 1) := by decide +kernel
theorem dX12_anyTurns_6 : decode cX12_anyTurns 6 = .ok (.iload_n 1, 1) := by decide +kernel
theorem dX12_anyTurns_7 : decode cX12_anyTurns 7 = .ok (.iadd, 1) := by decide +kernel
theorem dX12_anyTurns_8 : decode cX12_anyTurns 8 = .ok (.sipush 9999, 3) := by decide +kernel
theorem dX12_anyTurns_11 : decode cX12_anyTurns 11 = .ok (.if_icmp .le 5, 3) := by decide +kernel
theorem dX12_anyTurns_14 : decode cX12_anyTurns 14 = .ok (.iconst 0, 1) := by decide +kernel
theorem dX12_anyTurns_15 : decode cX12_anyTurns 15 = .ok (.ireturn, 1) := by decide +kernel
theorem dX12_anyTurns_16 : decode cX12_anyTurns 16 = .ok (.iconst 0, 1) := by decide +kernel
theorem dX12_anyTurns_17 : decode cX12_anyTurns 17 = .ok (.istore_n 2, 1) := by decide +kernel
theorem dX12_anyTurns_18 : decode cX12_anyTurns 18 = .ok (.iload_n 2, 1) := by decide +kernel
theorem dX12_anyTurns_19 : decode cX12_anyTurns 19 = .ok (.iload_n 1, 1) := by decide +kernel
theorem dX12_anyTurns_20 : decode cX12_anyTurns 20 = .ok (.if_icmp .ge 13, 3) := by decide +kernel
theorem dX12_anyTurns_23 : decode cX12_anyTurns 23 = .ok (.aload_n 0, 1) := by decide +kernel
theorem dX12_anyTurns_24 : decode cX12_anyTurns 24 = .ok (.invokevirtual 376, 3) := by decide +kernel
theorem dX12_anyTurns_27 : decode cX12_anyTurns 27 = .ok (.iinc 2 1, 3) := by decide +kernel
theorem dX12_anyTurns_30 : decode cX12_anyTurns 30 = .ok (.goto (-12), 3) := by decide +kernel
theorem dX12_anyTurns_33 : decode cX12_anyTurns 33 = .ok (.aload_n 0, 1) := by decide +kernel
theorem dX12_anyTurns_34 : decode cX12_anyTurns 34 = .ok (.dup, 1) := by decide +kernel
theorem dX12_anyTurns_35 : decode cX12_anyTurns 35 = .ok (.getfield 470, 3) := by decide +kernel
theorem dX12_anyTurns_38 : decode cX12_anyTurns 38 = .ok (.iload_n 1, 1) := by decide +kernel
theorem dX12_anyTurns_39 : decode cX12_anyTurns 39 = .ok (.iadd, 1) := by decide +kernel
theorem dX12_anyTurns_40 : decode cX12_anyTurns 40 = .ok (.putfield 470, 3) := by decide +kernel
theorem dX12_anyTurns_43 : decode cX12_anyTurns 43 = .ok (.iconst 1, 1) := by decide +kernel
theorem dX12_anyTurns_44 : decode cX12_anyTurns 44 = .ok (.ireturn, 1) := by decide +kernel
theorem dX12_warder_0 : decode cX12_warder 0 = .ok (.iconst 0, 1) := by decide +kernel
theorem dX12_warder_1 : decode cX12_warder 1 = .ok (.istore_n 1, 1) := by decide +kernel
theorem dX12_warder_2 : decode cX12_warder 2 = .ok (.iconst 0, 1) := by decide +kernel
theorem dX12_warder_3 : decode cX12_warder 3 = .ok (.istore_n 2, 1) := by decide +kernel
theorem dX12_warder_4 : decode cX12_warder 4 = .ok (.iload_n 2, 1) := by decide +kernel
theorem dX12_warder_5 : decode cX12_warder 5 = .ok (.aload_n 0, 1) := by decide +kernel
theorem dX12_warder_6 : decode cX12_warder 6 = .ok (.getfield 35, 3) := by decide +kernel
theorem dX12_warder_9 : decode cX12_warder 9 = .ok (.iconst 2, 1) := by decide +kernel
theorem dX12_warder_10 : decode cX12_warder 10 = .ok (.iaload, 1) := by decide +kernel
theorem dX12_warder_11 : decode cX12_warder 11 = .ok (.if_icmp .ge 43, 3) := by decide +kernel
theorem dX12_warder_14 : decode cX12_warder 14 = .ok (.aload_n 0, 1) := by decide +kernel
theorem dX12_warder_15 : decode cX12_warder 15 = .ok (.iload_n 2, 1) := by decide +kernel
theorem dX12_warder_16 : decode cX12_warder 16 = .ok (.invokevirtual 356, 3) := by decide +kernel
theorem dX12_warder_19 : decode cX12_warder 19 = .ok (.ifCond .ne 29, 3) := by decide +kernel
theorem dX12_warder_22 : decode cX12_warder 22 = .ok (.aload_n 0, 1) := by decide +kernel
theorem dX12_warder_23 : decode cX12_warder 23 = .ok (.bipush 16, 2) := by decide +kernel
theorem dX12_warder_25 : decode cX12_warder 25 = .ok (.invokevirtual 473, 3) := by decide +kernel
theorem dX12_warder_28 : decode cX12_warder 28 = .ok (.aload_n 0, 1) := by decide +kernel
theorem dX12_warder_29 : decode cX12_warder 29 = .ok (.getfield 35, 3) := by decide +kernel
theorem dX12_warder_32 : decode cX12_warder 32 = .ok (.bipush 61, 2) := by decide +kernel
theorem dX12_warder_34 : decode cX12_warder 34 = .ok (.iload_n 2, 1) := by decide +kernel
theorem dX12_warder_35 : decode cX12_warder 35 = .ok (.iadd, 1) := by decide +kernel
theorem dX12_warder_36 : decode cX12_warder 36 = .ok (.iaload, 1) := by decide +kernel
theorem dX12_warder_37 : decode cX12_warder 37 = .ok (.if_icmp .ge 11, 3) := by decide +kernel
theorem dX12_warder_40 : decode cX12_warder 40 = .ok (.iload_n 1, 1) := by decide +kernel
theorem dX12_warder_41 : decode cX12_warder 41 = .ok (.aload_n 0, 1) := by decide +kernel
theorem dX12_warder_42 : decode cX12_warder 42 = .ok (.iload_n 2, 1) := by decide +kernel
theorem dX12_warder_43 : decode cX12_warder 43 = .ok (.invokevirtual 379, 3) := by decide +kernel
theorem dX12_warder_46 : decode cX12_warder 46 = .ok (.iadd, 1) := by decide +kernel
theorem dX12_warder_47 : decode cX12_warder 47 = .ok (.istore_n 1, 1) := by decide +kernel
theorem dX12_warder_48 : decode cX12_warder 48 = .ok (.iinc 2 1, 3) := by decide +kernel
theorem dX12_warder_51 : decode cX12_warder 51 = .ok (.goto (-47), 3) := by decide +kernel
theorem dX12_warder_54 : decode cX12_warder 54 = .ok (.aload_n 0, 1) := by decide +kernel
theorem dX12_warder_55 : decode cX12_warder 55 = .ok (.dup, 1) := by decide +kernel
theorem dX12_warder_56 : decode cX12_warder 56 = .ok (.getfield 476, 3) := by decide +kernel
theorem dX12_warder_59 : decode cX12_warder 59 = .ok (.iload_n 1, 1) := by decide +kernel
theorem dX12_warder_60 : decode cX12_warder 60 = .ok (.iadd, 1) := by decide +kernel
theorem dX12_warder_61 : decode cX12_warder 61 = .ok (.putfield 476, 3) := by decide +kernel
theorem dX12_warder_64 : decode cX12_warder 64 = .ok (.iload_n 1, 1) := by decide +kernel
theorem dX12_warder_65 : decode cX12_warder 65 = .ok (.ifCond .le 7, 3) := by decide +kernel
theorem dX12_warder_68 : decode cX12_warder 68 = .ok (.iconst 1, 1) := by decide +kernel
theorem dX12_warder_69 : decode cX12_warder 69 = .ok (.goto 4, 3) := by decide +kernel
theorem dX12_warder_72 : decode cX12_warder 72 = .ok (.iconst 0, 1) := by decide +kernel
theorem dX12_warder_73 : decode cX12_warder 73 = .ok (.ireturn, 1) := by decide +kernel
theorem dX12_does_0 : decode cX12_does 0 = .ok (.aload_n 0, 1) := by decide +kernel
theorem dX12_does_1 : decode cX12_does 1 = .ok (.getfield 35, 3) := by decide +kernel
theorem dX12_does_4 : decode cX12_does 4 = .ok (.iload_n 1, 1) := by decide +kernel
theorem dX12_does_5 : decode cX12_does 5 = .ok (.iaload, 1) := by decide +kernel
theorem dX12_does_6 : decode cX12_does 6 = .ok (.istore_n 2, 1) := by decide +kernel
theorem dX12_does_7 : decode cX12_does 7 = .ok (.aload_n 0, 1) := by decide +kernel
theorem dX12_does_8 : decode cX12_does 8 = .ok (.getfield 35, 3) := by decide +kernel
theorem dX12_does_11 : decode cX12_does 11 = .ok (.iload_n 1, 1) := by decide +kernel
theorem dX12_does_12 : decode cX12_does 12 = .ok (.iconst 1, 1) := by decide +kernel
theorem dX12_does_13 : decode cX12_does 13 = .ok (.iadd, 1) := by decide +kernel
theorem dX12_does_14 : decode cX12_does 14 = .ok (.iaload, 1) := by decide +kernel
theorem dX12_does_15 : decode cX12_does 15 = .ok (.istore_n 3, 1) := by decide +kernel
theorem dX12_does_16 : decode cX12_does 16 = .ok (.iload_n 2, 1) := by decide +kernel
theorem dX12_does_17 : decode cX12_does 17 = .ok (.ifCond .ne 9, 3) := by decide +kernel
theorem dX12_does_20 : decode cX12_does 20 = .ok (.aload_n 0, 1) := by decide +kernel
theorem dX12_does_21 : decode cX12_does 21 = .ok (.iload_n 3, 1) := by decide +kernel
theorem dX12_does_22 : decode cX12_does 22 = .ok (.invokevirtual 479, 3) := by decide +kernel
theorem dX12_does_25 : decode cX12_does 25 = .ok (.ireturn, 1) := by decide +kernel
theorem dX12_does_26 : decode cX12_does 26 = .ok (.iload_n 2, 1) := by decide +kernel
theorem dX12_does_27 : decode cX12_does 27 = .ok (.iconst 2, 1) := by decide +kernel
theorem dX12_does_28 : decode cX12_does 28 = .ok (.if_icmp .ne 17, 3) := by decide +kernel
theorem dX12_does_31 : decode cX12_does 31 = .ok (.aload_n 0, 1) := by decide +kernel
theorem dX12_does_32 : decode cX12_does 32 = .ok (.iload_n 3, 1) := by decide +kernel
theorem dX12_does_33 : decode cX12_does 33 = .ok (.aload_n 0, 1) := by decide +kernel
theorem dX12_does_34 : decode cX12_does 34 = .ok (.getfield 35, 3) := by decide +kernel
theorem dX12_does_37 : decode cX12_does 37 = .ok (.iload_n 1, 1) := by decide +kernel
theorem dX12_does_38 : decode cX12_does 38 = .ok (.iconst 2, 1) := by decide +kernel
theorem dX12_does_39 : decode cX12_does 39 = .ok (.iadd, 1) := by decide +kernel
theorem dX12_does_40 : decode cX12_does 40 = .ok (.iaload, 1) := by decide +kernel
theorem dX12_does_41 : decode cX12_does 41 = .ok (.invokevirtual 382, 3) := by decide +kernel
theorem dX12_does_44 : decode cX12_does 44 = .ok (.ireturn, 1) := by decide +kernel
theorem dX12_does_45 : decode cX12_does 45 = .ok (.iload_n 2, 1) := by decide +kernel
theorem dX12_does_46 : decode cX12_does 46 = .ok (.iconst 3, 1) := by decide +kernel
theorem dX12_does_47 : decode cX12_does 47 = .ok (.if_icmp .ne 17, 3) := by decide +kernel
theorem dX12_does_50 : decode cX12_does 50 = .ok (.aload_n 0, 1) := by decide +kernel
theorem dX12_does_51 : decode cX12_does 51 = .ok (.iload_n 3, 1) := by decide +kernel
theorem dX12_does_52 : decode cX12_does 52 = .ok (.invokevirtual 379, 3) := by decide +kernel
theorem dX12_does_55 : decode cX12_does 55 = .ok (.ifCond .le 7, 3) := by decide +kernel
theorem dX12_does_58 : decode cX12_does 58 = .ok (.iconst 1, 1) := by decide +kernel
theorem dX12_does_59 : decode cX12_does 59 = .ok (.goto 4, 3) := by decide +kernel
theorem dX12_does_62 : decode cX12_does 62 = .ok (.iconst 0, 1) := by decide +kernel
theorem dX12_does_63 : decode cX12_does 63 = .ok (.ireturn, 1) := by decide +kernel
theorem dX12_does_64 : decode cX12_does 64 = .ok (.iload_n 2, 1) := by decide +kernel
theorem dX12_does_65 : decode cX12_does 65 = .ok (.iconst 5, 1) := by decide +kernel
theorem dX12_does_66 : decode cX12_does 66 = .ok (.if_icmp .ne 8, 3) := by decide +kernel
theorem dX12_does_69 : decode cX12_does 69 = .ok (.aload_n 0, 1) := by decide +kernel
theorem dX12_does_70 : decode cX12_does 70 = .ok (.invokevirtual 482, 3) := by decide +kernel
theorem dX12_does_73 : decode cX12_does 73 = .ok (.ireturn, 1) := by decide +kernel
theorem dX12_does_74 : decode cX12_does 74 = .ok (.iload_n 2, 1) := by decide +kernel
theorem dX12_does_75 : decode cX12_does 75 = .ok (.iconst 1, 1) := by decide +kernel
theorem dX12_does_76 : decode cX12_does 76 = .ok (.if_icmp .ne 19, 3) := by decide +kernel
theorem dX12_does_79 : decode cX12_does 79 = .ok (.aload_n 0, 1) := by decide +kernel
theorem dX12_does_80 : decode cX12_does 80 = .ok (.getfield 35, 3) := by decide +kernel
theorem dX12_does_83 : decode cX12_does 83 = .ok (.bipush 6, 2) := by decide +kernel
theorem dX12_does_85 : decode cX12_does 85 = .ok (.dup2, 1) := by decide +kernel
theorem dX12_does_86 : decode cX12_does 86 = .ok (.iaload, 1) := by decide +kernel
theorem dX12_does_87 : decode cX12_does 87 = .ok (.iconst 1, 1) := by decide +kernel
theorem dX12_does_88 : decode cX12_does 88 = .ok (.iload_n 3, 1) := by decide +kernel
theorem dX12_does_89 : decode cX12_does 89 = .ok (.ishl, 1) := by decide +kernel
theorem dX12_does_90 : decode cX12_does 90 = .ok (.ixor, 1) := by decide +kernel
theorem dX12_does_91 : decode cX12_does 91 = .ok (.iastore, 1) := by decide +kernel
theorem dX12_does_92 : decode cX12_does 92 = .ok (.goto 16, 3) := by decide +kernel
theorem dX12_does_95 : decode cX12_does 95 = .ok (.aload_n 0, 1) := by decide +kernel
theorem dX12_does_96 : decode cX12_does 96 = .ok (.getfield 35, 3) := by decide +kernel
theorem dX12_does_99 : decode cX12_does 99 = .ok (.bipush 7, 2) := by decide +kernel
theorem dX12_does_101 : decode cX12_does 101 = .ok (.dup2, 1) := by decide +kernel
theorem dX12_does_102 : decode cX12_does 102 = .ok (.iaload, 1) := by decide +kernel
theorem dX12_does_103 : decode cX12_does 103 = .ok (.iconst 1, 1) := by decide +kernel
theorem dX12_does_104 : decode cX12_does 104 = .ok (.iload_n 3, 1) := by decide +kernel
theorem dX12_does_105 : decode cX12_does 105 = .ok (.ishl, 1) := by decide +kernel
theorem dX12_does_106 : decode cX12_does 106 = .ok (.ixor, 1) := by decide +kernel
theorem dX12_does_107 : decode cX12_does 107 = .ok (.iastore, 1) := by decide +kernel
theorem dX12_does_108 : decode cX12_does 108 = .ok (.iconst 1, 1) := by decide +kernel
theorem dX12_does_109 : decode cX12_does 109 = .ok (.ireturn, 1) := by decide +kernel
theorem dX12_isSo_0 : decode cX12_isSo 0 = .ok (.aload_n 0, 1) := by decide +kernel
theorem dX12_isSo_1 : decode cX12_isSo 1 = .ok (.getfield 35, 3) := by decide +kernel
theorem dX12_isSo_4 : decode cX12_isSo 4 = .ok (.iload_n 1, 1) := by decide +kernel
theorem dX12_isSo_5 : decode cX12_isSo 5 = .ok (.bipush 6, 2) := by decide +kernel
theorem dX12_isSo_7 : decode cX12_isSo 7 = .ok (.iadd, 1) := by decide +kernel
theorem dX12_isSo_8 : decode cX12_isSo 8 = .ok (.iaload, 1) := by decide +kernel
theorem dX12_isSo_9 : decode cX12_isSo 9 = .ok (.istore_n 2, 1) := by decide +kernel
theorem dX12_isSo_10 : decode cX12_isSo 10 = .ok (.iload_n 2, 1) := by decide +kernel
theorem dX12_isSo_11 : decode cX12_isSo 11 = .ok (.ifCond .ne 31, 3) := by decide +kernel
theorem dX12_isSo_14 : decode cX12_isSo 14 = .ok (.aload_n 0, 1) := by decide +kernel
theorem dX12_isSo_15 : decode cX12_isSo 15 = .ok (.getfield 35, 3) := by decide +kernel
theorem dX12_isSo_18 : decode cX12_isSo 18 = .ok (.bipush 33, 2) := by decide +kernel
theorem dX12_isSo_20 : decode cX12_isSo 20 = .ok (.aload_n 0, 1) := by decide +kernel
theorem dX12_isSo_21 : decode cX12_isSo 21 = .ok (.getfield 35, 3) := by decide +kernel
theorem dX12_isSo_24 : decode cX12_isSo 24 = .ok (.iload_n 1, 1) := by decide +kernel
theorem dX12_isSo_25 : decode cX12_isSo 25 = .ok (.iconst 1, 1) := by decide +kernel
theorem dX12_isSo_26 : decode cX12_isSo 26 = .ok (.iadd, 1) := by decide +kernel
theorem dX12_isSo_27 : decode cX12_isSo 27 = .ok (.iaload, 1) := by decide +kernel
theorem dX12_isSo_28 : decode cX12_isSo 28 = .ok (.iadd, 1) := by decide +kernel
theorem dX12_isSo_29 : decode cX12_isSo 29 = .ok (.iaload, 1) := by decide +kernel
theorem dX12_isSo_30 : decode cX12_isSo 30 = .ok (.aload_n 0, 1) := by decide +kernel
theorem dX12_isSo_31 : decode cX12_isSo 31 = .ok (.getfield 35, 3) := by decide +kernel
theorem dX12_isSo_34 : decode cX12_isSo 34 = .ok (.iload_n 1, 1) := by decide +kernel
theorem dX12_isSo_35 : decode cX12_isSo 35 = .ok (.iconst 2, 1) := by decide +kernel
theorem dX12_isSo_36 : decode cX12_isSo 36 = .ok (.iadd, 1) := by decide +kernel
theorem dX12_isSo_37 : decode cX12_isSo 37 = .ok (.iaload, 1) := by decide +kernel
theorem dX12_isSo_38 : decode cX12_isSo 38 = .ok (.invokestatic 110, 3) := by decide +kernel
theorem dX12_isSo_41 : decode cX12_isSo 41 = .ok (.ireturn, 1) := by decide +kernel
theorem dX12_isSo_42 : decode cX12_isSo 42 = .ok (.iload_n 2, 1) := by decide +kernel
theorem dX12_isSo_43 : decode cX12_isSo 43 = .ok (.iconst 1, 1) := by decide +kernel
theorem dX12_isSo_44 : decode cX12_isSo 44 = .ok (.if_icmp .ne 26, 3) := by decide +kernel
theorem dX12_isSo_47 : decode cX12_isSo 47 = .ok (.aload_n 0, 1) := by decide +kernel
theorem dX12_isSo_48 : decode cX12_isSo 48 = .ok (.aload_n 0, 1) := by decide +kernel
theorem dX12_isSo_49 : decode cX12_isSo 49 = .ok (.getfield 35, 3) := by decide +kernel
theorem dX12_isSo_52 : decode cX12_isSo 52 = .ok (.iload_n 1, 1) := by decide +kernel
theorem dX12_isSo_53 : decode cX12_isSo 53 = .ok (.iconst 1, 1) := by decide +kernel
theorem dX12_isSo_54 : decode cX12_isSo 54 = .ok (.iadd, 1) := by decide +kernel
theorem dX12_isSo_55 : decode cX12_isSo 55 = .ok (.iaload, 1) := by decide +kernel
theorem dX12_isSo_56 : decode cX12_isSo 56 = .ok (.invokevirtual 344, 3) := by decide +kernel
theorem dX12_isSo_59 : decode cX12_isSo 59 = .ok (.ifCond .ne 7, 3) := by decide +kernel
theorem dX12_isSo_62 : decode cX12_isSo 62 = .ok (.iconst 1, 1) := by decide +kernel
theorem dX12_isSo_63 : decode cX12_isSo 63 = .ok (.goto 22, 3) := by decide +kernel
theorem dX12_isSo_66 : decode cX12_isSo 66 = .ok (.iconst 0, 1) := by decide +kernel
theorem dX12_isSo_67 : decode cX12_isSo 67 = .ok (.goto 18, 3) := by decide +kernel
theorem dX12_isSo_70 : decode cX12_isSo 70 = .ok (.aload_n 0, 1) := by decide +kernel
theorem dX12_isSo_71 : decode cX12_isSo 71 = .ok (.invokevirtual 390, 3) := by decide +kernel
theorem dX12_isSo_74 : decode cX12_isSo 74 = .ok (.aload_n 0, 1) := by decide +kernel
theorem dX12_isSo_75 : decode cX12_isSo 75 = .ok (.getfield 35, 3) := by decide +kernel
theorem dX12_isSo_78 : decode cX12_isSo 78 = .ok (.iload_n 1, 1) := by decide +kernel
theorem dX12_isSo_79 : decode cX12_isSo 79 = .ok (.iconst 1, 1) := by decide +kernel
theorem dX12_isSo_80 : decode cX12_isSo 80 = .ok (.iadd, 1) := by decide +kernel
theorem dX12_isSo_81 : decode cX12_isSo 81 = .ok (.iaload, 1) := by decide +kernel
theorem dX12_isSo_82 : decode cX12_isSo 82 = .ok (.invokestatic 110, 3) := by decide +kernel
theorem dX12_isSo_85 : decode cX12_isSo 85 = .ok (.ireturn, 1) := by decide +kernel
theorem dX12_doOne_0 : decode cX12_doOne 0 = .ok (.aload_n 0, 1) := by decide +kernel
theorem dX12_doOne_1 : decode cX12_doOne 1 = .ok (.getfield 485, 3) := by decide +kernel
theorem dX12_doOne_4 : decode cX12_doOne 4 = .ok (.sipush 300, 3) := by decide +kernel
theorem dX12_doOne_7 : decode cX12_doOne 7 = .ok (.if_icmp .ne 14, 3) := by decide +kernel
theorem dX12_doOne_10 : decode cX12_doOne 10 = .ok (.aload_n 0, 1) := by decide +kernel
theorem dX12_doOne_11 : decode cX12_doOne 11 = .ok (.iconst 1, 1) := by decide +kernel
theorem dX12_doOne_12 : decode cX12_doOne 12 = .ok (.putfield 488, 3) := by decide +kernel
theorem dX12_doOne_15 : decode cX12_doOne 15 = .ok (.aload_n 0, 1) := by decide +kernel
theorem dX12_doOne_16 : decode cX12_doOne 16 = .ok (.iconst 1, 1) := by decide +kernel
theorem dX12_doOne_17 : decode cX12_doOne 17 = .ok (.putfield 491, 3) := by decide +kernel
theorem dX12_doOne_20 : decode cX12_doOne 20 = .ok (.return_, 1) := by decide +kernel
theorem dX12_doOne_21 : decode cX12_doOne 21 = .ok (.aload_n 0, 1) := by decide +kernel
theorem dX12_doOne_22 : decode cX12_doOne 22 = .ok (.dup, 1) := by decide +kernel
theorem dX12_doOne_23 : decode cX12_doOne 23 = .ok (.getfield 485, 3) := by decide +kernel
theorem dX12_doOne_26 : decode cX12_doOne 26 = .ok (.iconst 1, 1) := by decide +kernel
theorem dX12_doOne_27 : decode cX12_doOne 27 = .ok (.iadd, 1) := by decide +kernel
theorem dX12_doOne_28 : decode cX12_doOne 28 = .ok (.putfield 485, 3) := by decide +kernel
theorem dX12_doOne_31 : decode cX12_doOne 31 = .ok (.bipush 113, 2) := by decide +kernel
theorem dX12_doOne_33 : decode cX12_doOne 33 = .ok (.bipush 9, 2) := by decide +kernel
theorem dX12_doOne_35 : decode cX12_doOne 35 = .ok (.iload_n 1, 1) := by decide +kernel
theorem dX12_doOne_36 : decode cX12_doOne 36 = .ok (.imul, 1) := by decide +kernel
theorem dX12_doOne_37 : decode cX12_doOne 37 = .ok (.iadd, 1) := by decide +kernel
theorem dX12_doOne_38 : decode cX12_doOne 38 = .ok (.istore_n 2, 1) := by decide +kernel
theorem dX12_doOne_39 : decode cX12_doOne 39 = .ok (.aload_n 0, 1) := by decide +kernel
theorem dX12_doOne_40 : decode cX12_doOne 40 = .ok (.getfield 35, 3) := by decide +kernel
theorem dX12_doOne_43 : decode cX12_doOne 43 = .ok (.iload_n 2, 1) := by decide +kernel
theorem dX12_doOne_44 : decode cX12_doOne 44 = .ok (.iaload, 1) := by decide +kernel
theorem dX12_doOne_45 : decode cX12_doOne 45 = .ok (.istore_n 3, 1) := by decide +kernel
theorem dX12_doOne_46 : decode cX12_doOne 46 = .ok (.iload_n 3, 1) := by decide +kernel
theorem dX12_doOne_47 : decode cX12_doOne 47 = .ok (.bipush 6, 2) := by decide +kernel
theorem dX12_doOne_49 : decode cX12_doOne 49 = .ok (.if_icmp .ge 28, 3) := by decide +kernel
theorem dX12_doOne_52 : decode cX12_doOne 52 = .ok (.aload_n 0, 1) := by decide +kernel
theorem dX12_doOne_53 : decode cX12_doOne 53 = .ok (.dup, 1) := by decide +kernel
theorem dX12_doOne_54 : decode cX12_doOne 54 = .ok (.getfield 494, 3) := by decide +kernel
theorem dX12_doOne_57 : decode cX12_doOne 57 = .ok (.aload_n 0, 1) := by decide +kernel
theorem dX12_doOne_58 : decode cX12_doOne 58 = .ok (.iload_n 2, 1) := by decide +kernel
theorem dX12_doOne_59 : decode cX12_doOne 59 = .ok (.invokevirtual 497, 3) := by decide +kernel
theorem dX12_doOne_62 : decode cX12_doOne 62 = .ok (.ifCond .eq 7, 3) := by decide +kernel
theorem dX12_doOne_65 : decode cX12_doOne 65 = .ok (.iconst 0, 1) := by decide +kernel
theorem dX12_doOne_66 : decode cX12_doOne 66 = .ok (.goto 4, 3) := by decide +kernel
theorem dX12_doOne_69 : decode cX12_doOne 69 = .ok (.iconst 1, 1) := by decide +kernel
theorem dX12_doOne_70 : decode cX12_doOne 70 = .ok (.iadd, 1) := by decide +kernel
theorem dX12_doOne_71 : decode cX12_doOne 71 = .ok (.putfield 494, 3) := by decide +kernel
theorem dX12_doOne_74 : decode cX12_doOne 74 = .ok (.goto 101, 3) := by decide +kernel
theorem dX12_doOne_77 : decode cX12_doOne 77 = .ok (.iload_n 3, 1) := by decide +kernel
theorem dX12_doOne_78 : decode cX12_doOne 78 = .ok (.bipush 6, 2) := by decide +kernel
theorem dX12_doOne_80 : decode cX12_doOne 80 = .ok (.if_icmp .ne 30, 3) := by decide +kernel
theorem dX12_doOne_83 : decode cX12_doOne 83 = .ok (.aload_n 0, 1) := by decide +kernel
theorem dX12_doOne_84 : decode cX12_doOne 84 = .ok (.iload_n 2, 1) := by decide +kernel
theorem dX12_doOne_85 : decode cX12_doOne 85 = .ok (.invokevirtual 500, 3) := by decide +kernel
theorem dX12_doOne_88 : decode cX12_doOne 88 = .ok (.ifCond .eq 22, 3) := by decide +kernel
theorem dX12_doOne_91 : decode cX12_doOne 91 = .ok (.aload_n 0, 1) := by decide +kernel
theorem dX12_doOne_92 : decode cX12_doOne 92 = .ok (.iload_n 1, 1) := by decide +kernel
theorem dX12_doOne_93 : decode cX12_doOne 93 = .ok (.iconst 1, 1) := by decide +kernel
theorem dX12_doOne_94 : decode cX12_doOne 94 = .ok (.iadd, 1) := by decide +kernel
theorem dX12_doOne_95 : decode cX12_doOne 95 = .ok (.aload_n 0, 1) := by decide +kernel
theorem dX12_doOne_96 : decode cX12_doOne 96 = .ok (.getfield 35, 3) := by decide +kernel
theorem dX12_doOne_99 : decode cX12_doOne 99 = .ok (.iload_n 2, 1) := by decide +kernel
theorem dX12_doOne_100 : decode cX12_doOne 100 = .ok (.bipush 8, 2) := by decide +kernel
theorem dX12_doOne_102 : decode cX12_doOne 102 = .ok (.iadd, 1) := by decide +kernel
theorem dX12_doOne_103 : decode cX12_doOne 103 = .ok (.iaload, 1) := by decide +kernel
theorem dX12_doOne_104 : decode cX12_doOne 104 = .ok (.invokevirtual 503, 3) := by decide +kernel
theorem dX12_doOne_107 : decode cX12_doOne 107 = .ok (.goto 68, 3) := by decide +kernel
theorem dX12_doOne_110 : decode cX12_doOne 110 = .ok (.iload_n 3, 1) := by decide +kernel
theorem dX12_doOne_111 : decode cX12_doOne 111 = .ok (.bipush 7, 2) := by decide +kernel
theorem dX12_doOne_113 : decode cX12_doOne 113 = .ok (.if_icmp .ne 51, 3) := by decide +kernel
theorem dX12_doOne_116 : decode cX12_doOne 116 = .ok (.iconst 0, 1) := by decide +kernel
theorem dX12_doOne_117 : decode cX12_doOne 117 = .ok (.istore 4, 2) := by decide +kernel
theorem dX12_doOne_119 : decode cX12_doOne 119 = .ok (.iload 4, 2) := by decide +kernel
theorem dX12_doOne_121 : decode cX12_doOne 121 = .ok (.aload_n 0, 1) := by decide +kernel
theorem dX12_doOne_122 : decode cX12_doOne 122 = .ok (.getfield 35, 3) := by decide +kernel
theorem dX12_doOne_125 : decode cX12_doOne 125 = .ok (.iload_n 2, 1) := by decide +kernel
theorem dX12_doOne_126 : decode cX12_doOne 126 = .ok (.iconst 1, 1) := by decide +kernel
theorem dX12_doOne_127 : decode cX12_doOne 127 = .ok (.iadd, 1) := by decide +kernel
theorem dX12_doOne_128 : decode cX12_doOne 128 = .ok (.iaload, 1) := by decide +kernel
theorem dX12_doOne_129 : decode cX12_doOne 129 = .ok (.if_icmp .ge 32, 3) := by decide +kernel
theorem dX12_doOne_132 : decode cX12_doOne 132 = .ok (.aload_n 0, 1) := by decide +kernel
theorem dX12_doOne_133 : decode cX12_doOne 133 = .ok (.getfield 488, 3) := by decide +kernel
theorem dX12_doOne_136 : decode cX12_doOne 136 = .ok (.ifCond .ne 25, 3) := by decide +kernel
theorem dX12_doOne_139 : decode cX12_doOne 139 = .ok (.aload_n 0, 1) := by decide +kernel
theorem dX12_doOne_140 : decode cX12_doOne 140 = .ok (.iload_n 1, 1) := by decide +kernel
theorem dX12_doOne_141 : decode cX12_doOne 141 = .ok (.iconst 1, 1) := by decide +kernel
theorem dX12_doOne_142 : decode cX12_doOne 142 = .ok (.iadd, 1) := by decide +kernel
theorem dX12_doOne_143 : decode cX12_doOne 143 = .ok (.aload_n 0, 1) := by decide +kernel
theorem dX12_doOne_144 : decode cX12_doOne 144 = .ok (.getfield 35, 3) := by decide +kernel
theorem dX12_doOne_147 : decode cX12_doOne 147 = .ok (.iload_n 2, 1) := by decide +kernel
theorem dX12_doOne_148 : decode cX12_doOne 148 = .ok (.bipush 8, 2) := by decide +kernel
theorem dX12_doOne_150 : decode cX12_doOne 150 = .ok (.iadd, 1) := by decide +kernel
theorem dX12_doOne_151 : decode cX12_doOne 151 = .ok (.iaload, 1) := by decide +kernel
theorem dX12_doOne_152 : decode cX12_doOne 152 = .ok (.invokevirtual 503, 3) := by decide +kernel
theorem dX12_doOne_155 : decode cX12_doOne 155 = .ok (.iinc 4 1, 3) := by decide +kernel
theorem dX12_doOne_158 : decode cX12_doOne 158 = .ok (.goto (-39), 3) := by decide +kernel
theorem dX12_doOne_161 : decode cX12_doOne 161 = .ok (.goto 14, 3) := by decide +kernel
theorem dX12_doOne_164 : decode cX12_doOne 164 = .ok (.iload_n 3, 1) := by decide +kernel
theorem dX12_doOne_165 : decode cX12_doOne 165 = .ok (.bipush 7, 2) := by decide +kernel
theorem dX12_doOne_167 : decode cX12_doOne 167 = .ok (.if_icmp .le 8, 3) := by decide +kernel
theorem dX12_doOne_170 : decode cX12_doOne 170 = .ok (.aload_n 0, 1) := by decide +kernel
theorem dX12_doOne_171 : decode cX12_doOne 171 = .ok (.iconst 1, 1) := by decide +kernel
theorem dX12_doOne_172 : decode cX12_doOne 172 = .ok (.putfield 488, 3) := by decide +kernel
theorem dX12_doOne_175 : decode cX12_doOne 175 = .ok (.return_, 1) := by decide +kernel
theorem dX12_doAll_0 : decode cX12_doAll 0 = .ok (.iload_n 1, 1) := by decide +kernel
theorem dX12_doAll_1 : decode cX12_doAll 1 = .ok (.istore_n 3, 1) := by decide +kernel
theorem dX12_doAll_2 : decode cX12_doAll 2 = .ok (.iload_n 3, 1) := by decide +kernel
theorem dX12_doAll_3 : decode cX12_doAll 3 = .ok (.iload_n 2, 1) := by decide +kernel
theorem dX12_doAll_4 : decode cX12_doAll 4 = .ok (.if_icmp .ge 34, 3) := by decide +kernel
theorem dX12_doAll_7 : decode cX12_doAll 7 = .ok (.aload_n 0, 1) := by decide +kernel
theorem dX12_doAll_8 : decode cX12_doAll 8 = .ok (.getfield 488, 3) := by decide +kernel
theorem dX12_doAll_11 : decode cX12_doAll 11 = .ok (.ifCond .ne 27, 3) := by decide +kernel
theorem dX12_doAll_14 : decode cX12_doAll 14 = .ok (.aload_n 0, 1) := by decide +kernel
theorem dX12_doAll_15 : decode cX12_doAll 15 = .ok (.iload_n 3, 1) := by decide +kernel
theorem dX12_doAll_16 : decode cX12_doAll 16 = .ok (.invokevirtual 506, 3) := by decide +kernel
theorem dX12_doAll_19 : decode cX12_doAll 19 = .ok (.aload_n 0, 1) := by decide +kernel
theorem dX12_doAll_20 : decode cX12_doAll 20 = .ok (.getfield 35, 3) := by decide +kernel
theorem dX12_doAll_23 : decode cX12_doAll 23 = .ok (.bipush 113, 2) := by decide +kernel
theorem dX12_doAll_25 : decode cX12_doAll 25 = .ok (.bipush 9, 2) := by decide +kernel
theorem dX12_doAll_27 : decode cX12_doAll 27 = .ok (.iload_n 3, 1) := by decide +kernel
theorem dX12_doAll_28 : decode cX12_doAll 28 = .ok (.imul, 1) := by decide +kernel
theorem dX12_doAll_29 : decode cX12_doAll 29 = .ok (.iadd, 1) := by decide +kernel
theorem dX12_doAll_30 : decode cX12_doAll 30 = .ok (.bipush 8, 2) := by decide +kernel
theorem dX12_doAll_32 : decode cX12_doAll 32 = .ok (.iadd, 1) := by decide +kernel
theorem dX12_doAll_33 : decode cX12_doAll 33 = .ok (.iaload, 1) := by decide +kernel
theorem dX12_doAll_34 : decode cX12_doAll 34 = .ok (.istore_n 3, 1) := by decide +kernel
theorem dX12_doAll_35 : decode cX12_doAll 35 = .ok (.goto (-33), 3) := by decide +kernel
theorem dX12_doAll_38 : decode cX12_doAll 38 = .ok (.return_, 1) := by decide +kernel
theorem dX12_runsRounds_0 : decode cX12_runsRounds 0 = .ok (.aload_n 0, 1) := by decide +kernel
theorem dX12_runsRounds_1 : decode cX12_runsRounds 1 = .ok (.iload_n 1, 1) := by decide +kernel
theorem dX12_runsRounds_2 : decode cX12_runsRounds 2 = .ok (.putfield 466, 3) := by decide +kernel
theorem dX12_runsRounds_5 : decode cX12_runsRounds 5 = .ok (.aload_n 0, 1) := by decide +kernel
theorem dX12_runsRounds_6 : decode cX12_runsRounds 6 = .ok (.iconst 0, 1) := by decide +kernel
theorem dX12_runsRounds_7 : decode cX12_runsRounds 7 = .ok (.putfield 485, 3) := by decide +kernel
theorem dX12_runsRounds_10 : decode cX12_runsRounds 10 = .ok (.aload_n 0, 1) := by decide +kernel
theorem dX12_runsRounds_11 : decode cX12_runsRounds 11 = .ok (.iconst 0, 1) := by decide +kernel
theorem dX12_runsRounds_12 : decode cX12_runsRounds 12 = .ok (.putfield 494, 3) := by decide +kernel
theorem dX12_runsRounds_15 : decode cX12_runsRounds 15 = .ok (.aload_n 0, 1) := by decide +kernel
theorem dX12_runsRounds_16 : decode cX12_runsRounds 16 = .ok (.iconst 0, 1) := by decide +kernel
theorem dX12_runsRounds_17 : decode cX12_runsRounds 17 = .ok (.putfield 470, 3) := by decide +kernel
theorem dX12_runsRounds_20 : decode cX12_runsRounds 20 = .ok (.aload_n 0, 1) := by decide +kernel
theorem dX12_runsRounds_21 : decode cX12_runsRounds 21 = .ok (.iconst 0, 1) := by decide +kernel
theorem dX12_runsRounds_22 : decode cX12_runsRounds 22 = .ok (.putfield 476, 3) := by decide +kernel
theorem dX12_runsRounds_25 : decode cX12_runsRounds 25 = .ok (.aload_n 0, 1) := by decide +kernel
theorem dX12_runsRounds_26 : decode cX12_runsRounds 26 = .ok (.iconst 0, 1) := by decide +kernel
theorem dX12_runsRounds_27 : decode cX12_runsRounds 27 = .ok (.putfield 491, 3) := by decide +kernel
theorem dX12_runsRounds_30 : decode cX12_runsRounds 30 = .ok (.aload_n 0, 1) := by decide +kernel
theorem dX12_runsRounds_31 : decode cX12_runsRounds 31 = .ok (.iconst 0, 1) := by decide +kernel
theorem dX12_runsRounds_32 : decode cX12_runsRounds 32 = .ok (.putfield 488, 3) := by decide +kernel
theorem dX12_runsRounds_35 : decode cX12_runsRounds 35 = .ok (.aload_n 0, 1) := by decide +kernel
theorem dX12_runsRounds_36 : decode cX12_runsRounds 36 = .ok (.iconst 0, 1) := by decide +kernel
theorem dX12_runsRounds_37 : decode cX12_runsRounds 37 = .ok (.aload_n 0, 1) := by decide +kernel
theorem dX12_runsRounds_38 : decode cX12_runsRounds 38 = .ok (.getfield 35, 3) := by decide +kernel
theorem dX12_runsRounds_41 : decode cX12_runsRounds 41 = .ok (.bipush 112, 2) := by decide +kernel
theorem dX12_runsRounds_43 : decode cX12_runsRounds 43 = .ok (.iaload, 1) := by decide +kernel
theorem dX12_runsRounds_44 : decode cX12_runsRounds 44 = .ok (.invokevirtual 503, 3) := by decide +kernel
theorem dX12_runsRounds_47 : decode cX12_runsRounds 47 = .ok (.return_, 1) := by decide +kernel
theorem dX12_live_0 : decode cX12_live 0 = .ok (.aload_n 0, 1) := by decide +kernel
theorem dX12_live_1 : decode cX12_live 1 = .ok (.iconst 0, 1) := by decide +kernel
theorem dX12_live_2 : decode cX12_live 2 = .ok (.putfield 71, 3) := by decide +kernel
theorem dX12_live_5 : decode cX12_live 5 = .ok (.aload_n 0, 1) := by decide +kernel
theorem dX12_live_6 : decode cX12_live 6 = .ok (.iconst 0, 1) := by decide +kernel
theorem dX12_live_7 : decode cX12_live 7 = .ok (.putfield 74, 3) := by decide +kernel
theorem dX12_live_10 : decode cX12_live 10 = .ok (.iload_n 1, 1) := by decide +kernel
theorem dX12_live_11 : decode cX12_live 11 = .ok (.i2l, 1) := by decide +kernel
theorem dX12_live_12 : decode cX12_live 12 = .ok (.lconst 0, 1) := by decide +kernel
theorem dX12_live_13 : decode cX12_live 13 = .ok (.ldc2_w 509, 3) := by decide +kernel
theorem dX12_live_16 : decode cX12_live 16 = .ok (.invokestatic 106, 3) := by decide +kernel
theorem dX12_live_19 : decode cX12_live 19 = .ok (.ifCond .ne 9, 3) := by decide +kernel
theorem dX12_live_22 : decode cX12_live 22 = .ok (.aload_n 0, 1) := by decide +kernel
theorem dX12_live_23 : decode cX12_live 23 = .ok (.iconst 5, 1) := by decide +kernel
theorem dX12_live_24 : decode cX12_live 24 = .ok (.invokevirtual 324, 3) := by decide +kernel
theorem dX12_live_27 : decode cX12_live 27 = .ok (.ireturn, 1) := by decide +kernel
theorem dX12_live_28 : decode cX12_live 28 = .ok (.aload_n 0, 1) := by decide +kernel
theorem dX12_live_29 : decode cX12_live 29 = .ok (.getfield 35, 3) := by decide +kernel
theorem dX12_live_32 : decode cX12_live 32 = .ok (.bipush 111, 2) := by decide +kernel
theorem dX12_live_34 : decode cX12_live 34 = .ok (.iaload, 1) := by decide +kernel
theorem dX12_live_35 : decode cX12_live 35 = .ok (.ifCond .ne 10, 3) := by decide +kernel
theorem dX12_live_38 : decode cX12_live 38 = .ok (.aload_n 0, 1) := by decide +kernel
theorem dX12_live_39 : decode cX12_live 39 = .ok (.bipush 8, 2) := by decide +kernel
theorem dX12_live_41 : decode cX12_live 41 = .ok (.invokevirtual 324, 3) := by decide +kernel
theorem dX12_live_44 : decode cX12_live 44 = .ok (.ireturn, 1) := by decide +kernel
theorem dX12_live_45 : decode cX12_live 45 = .ok (.aload_n 0, 1) := by decide +kernel
theorem dX12_live_46 : decode cX12_live 46 = .ok (.getfield 35, 3) := by decide +kernel
theorem dX12_live_49 : decode cX12_live 49 = .ok (.iconst 5, 1) := by decide +kernel
theorem dX12_live_50 : decode cX12_live 50 = .ok (.iaload, 1) := by decide +kernel
theorem dX12_live_51 : decode cX12_live 51 = .ok (.istore_n 2, 1) := by decide +kernel
theorem dX12_live_52 : decode cX12_live 52 = .ok (.aload_n 0, 1) := by decide +kernel
theorem dX12_live_53 : decode cX12_live 53 = .ok (.iload_n 1, 1) := by decide +kernel
theorem dX12_live_54 : decode cX12_live 54 = .ok (.invokevirtual 511, 3) := by decide +kernel
theorem dX12_live_57 : decode cX12_live 57 = .ok (.aload_n 0, 1) := by decide +kernel
theorem dX12_live_58 : decode cX12_live 58 = .ok (.getfield 65, 3) := by decide +kernel
theorem dX12_live_61 : decode cX12_live 61 = .ok (.iconst 0, 1) := by decide +kernel
theorem dX12_live_62 : decode cX12_live 62 = .ok (.aload_n 0, 1) := by decide +kernel
theorem dX12_live_63 : decode cX12_live 63 = .ok (.getfield 494, 3) := by decide +kernel
theorem dX12_live_66 : decode cX12_live 66 = .ok (.iastore, 1) := by decide +kernel
theorem dX12_live_67 : decode cX12_live 67 = .ok (.aload_n 0, 1) := by decide +kernel
theorem dX12_live_68 : decode cX12_live 68 = .ok (.getfield 65, 3) := by decide +kernel
theorem dX12_live_71 : decode cX12_live 71 = .ok (.iconst 1, 1) := by decide +kernel
theorem dX12_live_72 : decode cX12_live 72 = .ok (.aload_n 0, 1) := by decide +kernel
theorem dX12_live_73 : decode cX12_live 73 = .ok (.getfield 470, 3) := by decide +kernel
theorem dX12_live_76 : decode cX12_live 76 = .ok (.iastore, 1) := by decide +kernel
theorem dX12_live_77 : decode cX12_live 77 = .ok (.aload_n 0, 1) := by decide +kernel
theorem dX12_live_78 : decode cX12_live 78 = .ok (.getfield 65, 3) := by decide +kernel
theorem dX12_live_81 : decode cX12_live 81 = .ok (.iconst 2, 1) := by decide +kernel
theorem dX12_live_82 : decode cX12_live 82 = .ok (.aload_n 0, 1) := by decide +kernel
theorem dX12_live_83 : decode cX12_live 83 = .ok (.getfield 35, 3) := by decide +kernel
theorem dX12_live_86 : decode cX12_live 86 = .ok (.iconst 5, 1) := by decide +kernel
theorem dX12_live_87 : decode cX12_live 87 = .ok (.iaload, 1) := by decide +kernel
theorem dX12_live_88 : decode cX12_live 88 = .ok (.iload_n 2, 1) := by decide +kernel
theorem dX12_live_89 : decode cX12_live 89 = .ok (.isub, 1) := by decide +kernel
theorem dX12_live_90 : decode cX12_live 90 = .ok (.iastore, 1) := by decide +kernel
theorem dX12_live_91 : decode cX12_live 91 = .ok (.aload_n 0, 1) := by decide +kernel
theorem dX12_live_92 : decode cX12_live 92 = .ok (.getfield 65, 3) := by decide +kernel
theorem dX12_live_95 : decode cX12_live 95 = .ok (.iconst 3, 1) := by decide +kernel
theorem dX12_live_96 : decode cX12_live 96 = .ok (.aload_n 0, 1) := by decide +kernel
theorem dX12_live_97 : decode cX12_live 97 = .ok (.getfield 476, 3) := by decide +kernel
theorem dX12_live_100 : decode cX12_live 100 = .ok (.iastore, 1) := by decide +kernel
theorem dX12_live_101 : decode cX12_live 101 = .ok (.aload_n 0, 1) := by decide +kernel
theorem dX12_live_102 : decode cX12_live 102 = .ok (.getfield 65, 3) := by decide +kernel
theorem dX12_live_105 : decode cX12_live 105 = .ok (.iconst 4, 1) := by decide +kernel
theorem dX12_live_106 : decode cX12_live 106 = .ok (.aload_n 0, 1) := by decide +kernel
theorem dX12_live_107 : decode cX12_live 107 = .ok (.getfield 491, 3) := by decide +kernel
theorem dX12_live_110 : decode cX12_live 110 = .ok (.iastore, 1) := by decide +kernel
theorem dX12_live_111 : decode cX12_live 111 = .ok (.aload_n 0, 1) := by decide +kernel
theorem dX12_live_112 : decode cX12_live 112 = .ok (.iconst 1, 1) := by decide +kernel
theorem dX12_live_113 : decode cX12_live 113 = .ok (.putfield 514, 3) := by decide +kernel
theorem dX12_live_116 : decode cX12_live 116 = .ok (.aload_n 0, 1) := by decide +kernel
theorem dX12_live_117 : decode cX12_live 117 = .ok (.getfield 485, 3) := by decide +kernel
theorem dX12_live_120 : decode cX12_live 120 = .ok (.ireturn, 1) := by decide +kernel
theorem dX12_lived_0 : decode cX12_lived 0 = .ok (.aload_n 0, 1) := by decide +kernel
theorem dX12_lived_1 : decode cX12_lived 1 = .ok (.iconst 0, 1) := by decide +kernel
theorem dX12_lived_2 : decode cX12_lived 2 = .ok (.putfield 71, 3) := by decide +kernel
theorem dX12_lived_5 : decode cX12_lived 5 = .ok (.aload_n 0, 1) := by decide +kernel
theorem dX12_lived_6 : decode cX12_lived 6 = .ok (.iconst 0, 1) := by decide +kernel
theorem dX12_lived_7 : decode cX12_lived 7 = .ok (.putfield 74, 3) := by decide +kernel
theorem dX12_lived_10 : decode cX12_lived 10 = .ok (.iload_n 1, 1) := by decide +kernel
theorem dX12_lived_11 : decode cX12_lived 11 = .ok (.i2l, 1) := by decide +kernel
theorem dX12_lived_12 : decode cX12_lived 12 = .ok (.lconst 0, 1) := by decide +kernel
theorem dX12_lived_13 : decode cX12_lived 13 = .ok (.ldc2_w 517, 3) := by decide +kernel
theorem dX12_lived_16 : decode cX12_lived 16 = .ok (.invokestatic 106, 3) := by decide +kernel
theorem dX12_lived_19 : decode cX12_lived 19 = .ok (.ifCond .ne 9, 3) := by decide +kernel
theorem dX12_lived_22 : decode cX12_lived 22 = .ok (.aload_n 0, 1) := by decide +kernel
theorem dX12_lived_23 : decode cX12_lived 23 = .ok (.iconst 5, 1) := by decide +kernel
theorem dX12_lived_24 : decode cX12_lived 24 = .ok (.invokevirtual 324, 3) := by decide +kernel
theorem dX12_lived_27 : decode cX12_lived 27 = .ok (.ireturn, 1) := by decide +kernel
theorem dX12_lived_28 : decode cX12_lived 28 = .ok (.aload_n 0, 1) := by decide +kernel
theorem dX12_lived_29 : decode cX12_lived 29 = .ok (.getfield 514, 3) := by decide +kernel
theorem dX12_lived_32 : decode cX12_lived 32 = .ok (.ifCond .eq 12, 3) := by decide +kernel
theorem dX12_lived_35 : decode cX12_lived 35 = .ok (.aload_n 0, 1) := by decide +kernel
theorem dX12_lived_36 : decode cX12_lived 36 = .ok (.getfield 65, 3) := by decide +kernel
theorem dX12_lived_39 : decode cX12_lived 39 = .ok (.iload_n 1, 1) := by decide +kernel
theorem dX12_lived_40 : decode cX12_lived 40 = .ok (.iaload, 1) := by decide +kernel
theorem dX12_lived_41 : decode cX12_lived 41 = .ok (.goto 9, 3) := by decide +kernel
theorem dX12_lived_44 : decode cX12_lived 44 = .ok (.aload_n 0, 1) := by decide +kernel
theorem dX12_lived_45 : decode cX12_lived 45 = .ok (.bipush 8, 2) := by decide +kernel
theorem dX12_lived_47 : decode cX12_lived 47 = .ok (.invokevirtual 324, 3) := by decide +kernel
theorem dX12_lived_50 : decode cX12_lived 50 = .ok (.ireturn, 1) := by decide +kernel
theorem dX12_mean_0 : decode cX12_mean 0 = .ok (.aload_n 0, 1) := by decide +kernel
theorem dX12_mean_1 : decode cX12_mean 1 = .ok (.iconst 0, 1) := by decide +kernel
theorem dX12_mean_2 : decode cX12_mean 2 = .ok (.putfield 71, 3) := by decide +kernel
theorem dX12_mean_5 : decode cX12_mean 5 = .ok (.aload_n 0, 1) := by decide +kernel
theorem dX12_mean_6 : decode cX12_mean 6 = .ok (.iconst 0, 1) := by decide +kernel
theorem dX12_mean_7 : decode cX12_mean 7 = .ok (.putfield 74, 3) := by decide +kernel
theorem dX12_mean_10 : decode cX12_mean 10 = .ok (.aload_n 0, 1) := by decide +kernel
theorem dX12_mean_11 : decode cX12_mean 11 = .ok (.iload_n 1, 1) := by decide +kernel
theorem dX12_mean_12 : decode cX12_mean 12 = .ok (.invokevirtual 330, 3) := by decide +kernel
theorem dX12_mean_15 : decode cX12_mean 15 = .ok (.ifCond .ne 9, 3) := by decide +kernel
theorem dX12_mean_18 : decode cX12_mean 18 = .ok (.aload_n 0, 1) := by decide +kernel
theorem dX12_mean_19 : decode cX12_mean 19 = .ok (.iconst 2, 1) := by decide +kernel
theorem dX12_mean_20 : decode cX12_mean 20 = .ok (.invokevirtual 86, 3) := by decide +kernel
theorem dX12_mean_23 : decode cX12_mean 23 = .ok (.ireturn, 1) := by decide +kernel
theorem dX12_mean_24 : decode cX12_mean 24 = .ok (.iload_n 3, 1) := by decide +kernel
theorem dX12_mean_25 : decode cX12_mean 25 = .ok (.i2l, 1) := by decide +kernel
theorem dX12_mean_26 : decode cX12_mean 26 = .ok (.lconst 1, 1) := by decide +kernel
theorem dX12_mean_27 : decode cX12_mean 27 = .ok (.ldc2_w 519, 3) := by decide +kernel
theorem dX12_mean_30 : decode cX12_mean 30 = .ok (.invokestatic 106, 3) := by decide +kernel
theorem dX12_mean_33 : decode cX12_mean 33 = .ok (.ifCond .eq 18, 3) := by decide +kernel
theorem dX12_mean_36 : decode cX12_mean 36 = .ok (.iload_n 2, 1) := by decide +kernel
theorem dX12_mean_37 : decode cX12_mean 37 = .ok (.i2l, 1) := by decide +kernel
theorem dX12_mean_38 : decode cX12_mean 38 = .ok (.lconst 0, 1) := by decide +kernel
theorem dX12_mean_39 : decode cX12_mean 39 = .ok (.sipush 10000, 3) := by decide +kernel
theorem dX12_mean_42 : decode cX12_mean 42 = .ok (.iload_n 3, 1) := by decide +kernel
theorem dX12_mean_43 : decode cX12_mean 43 = .ok (.isub, 1) := by decide +kernel
theorem dX12_mean_44 : decode cX12_mean 44 = .ok (.i2l, 1) := by decide +kernel
theorem dX12_mean_45 : decode cX12_mean 45 = .ok (.invokestatic 106, 3) := by decide +kernel
theorem dX12_mean_48 : decode cX12_mean 48 = .ok (.ifCond .ne 9, 3) := by decide +kernel
theorem dX12_mean_51 : decode cX12_mean 51 = .ok (.aload_n 0, 1) := by decide +kernel
theorem dX12_mean_52 : decode cX12_mean 52 = .ok (.iconst 5, 1) := by decide +kernel
theorem dX12_mean_53 : decode cX12_mean 53 = .ok (.invokevirtual 86, 3) := by decide +kernel
theorem dX12_mean_56 : decode cX12_mean 56 = .ok (.ireturn, 1) := by decide +kernel
theorem dX12_mean_57 : decode cX12_mean 57 = .ok (.aload_n 0, 1) := by decide +kernel
theorem dX12_mean_58 : decode cX12_mean 58 = .ok (.getfield 35, 3) := by decide +kernel
theorem dX12_mean_61 : decode cX12_mean 61 = .ok (.bipush 111, 2) := by decide +kernel
theorem dX12_mean_63 : decode cX12_mean 63 = .ok (.iaload, 1) := by decide +kernel
theorem dX12_mean_64 : decode cX12_mean 64 = .ok (.ifCond .ne 10, 3) := by decide +kernel
theorem dX12_mean_67 : decode cX12_mean 67 = .ok (.aload_n 0, 1) := by decide +kernel
theorem dX12_mean_68 : decode cX12_mean 68 = .ok (.bipush 8, 2) := by decide +kernel
theorem dX12_mean_70 : decode cX12_mean 70 = .ok (.invokevirtual 86, 3) := by decide +kernel
theorem dX12_mean_73 : decode cX12_mean 73 = .ok (.ireturn, 1) := by decide +kernel
theorem dX12_mean_74 : decode cX12_mean 74 = .ok (.iconst 0, 1) := by decide +kernel
theorem dX12_mean_75 : decode cX12_mean 75 = .ok (.istore 4, 2) := by decide +kernel
theorem dX12_mean_77 : decode cX12_mean 77 = .ok (.iload 4, 2) := by decide +kernel
theorem dX12_mean_79 : decode cX12_mean 79 = .ok (.bipush 111, 2) := by decide +kernel
theorem dX12_mean_81 : decode cX12_mean 81 = .ok (.if_icmp .ge 23, 3) := by decide +kernel
theorem dX12_mean_84 : decode cX12_mean 84 = .ok (.aload_n 0, 1) := by decide +kernel
theorem dX12_mean_85 : decode cX12_mean 85 = .ok (.getfield 68, 3) := by decide +kernel
theorem dX12_mean_88 : decode cX12_mean 88 = .ok (.iload 4, 2) := by decide +kernel
theorem dX12_mean_90 : decode cX12_mean 90 = .ok (.aload_n 0, 1) := by decide +kernel
theorem dX12_mean_91 : decode cX12_mean 91 = .ok (.getfield 35, 3) := by decide +kernel
theorem dX12_mean_94 : decode cX12_mean 94 = .ok (.iload 4, 2) := by decide +kernel
theorem dX12_mean_96 : decode cX12_mean 96 = .ok (.iaload, 1) := by decide +kernel
theorem dX12_mean_97 : decode cX12_mean 97 = .ok (.iastore, 1) := by decide +kernel
theorem dX12_mean_98 : decode cX12_mean 98 = .ok (.iinc 4 1, 3) := by decide +kernel
theorem dX12_mean_101 : decode cX12_mean 101 = .ok (.goto (-24), 3) := by decide +kernel
theorem dX12_mean_104 : decode cX12_mean 104 = .ok (.lconst 0, 1) := by decide +kernel
theorem dX12_mean_105 : decode cX12_mean 105 = .ok (.lstore 4, 2) := by decide +kernel
theorem dX12_mean_107 : decode cX12_mean 107 = .ok (.iconst 0, 1) := by decide +kernel
theorem dX12_mean_108 : decode cX12_mean 108 = .ok (.istore 6, 2) := by decide +kernel
theorem dX12_mean_110 : decode cX12_mean 110 = .ok (.iload 6, 2) := by decide +kernel
theorem dX12_mean_112 : decode cX12_mean 112 = .ok (.iload_n 3, 1) := by decide +kernel
theorem dX12_mean_113 : decode cX12_mean 113 = .ok (.if_icmp .ge 65, 3) := by decide +kernel
theorem dX12_mean_116 : decode cX12_mean 116 = .ok (.aload_n 0, 1) := by decide +kernel
theorem dX12_mean_117 : decode cX12_mean 117 = .ok (.iload_n 2, 1) := by decide +kernel
theorem dX12_mean_118 : decode cX12_mean 118 = .ok (.iload 6, 2) := by decide +kernel
theorem dX12_mean_120 : decode cX12_mean 120 = .ok (.iadd, 1) := by decide +kernel
theorem dX12_mean_121 : decode cX12_mean 121 = .ok (.invokevirtual 511, 3) := by decide +kernel
theorem dX12_mean_124 : decode cX12_mean 124 = .ok (.lload 4, 2) := by decide +kernel
theorem dX12_mean_126 : decode cX12_mean 126 = .ok (.aload_n 0, 1) := by decide +kernel
theorem dX12_mean_127 : decode cX12_mean 127 = .ok (.getfield 35, 3) := by decide +kernel
theorem dX12_mean_130 : decode cX12_mean 130 = .ok (.bipush 33, 2) := by decide +kernel
theorem dX12_mean_132 : decode cX12_mean 132 = .ok (.iload_n 1, 1) := by decide +kernel
theorem dX12_mean_133 : decode cX12_mean 133 = .ok (.iadd, 1) := by decide +kernel
theorem dX12_mean_134 : decode cX12_mean 134 = .ok (.iaload, 1) := by decide +kernel
theorem dX12_mean_135 : decode cX12_mean 135 = .ok (.invokestatic 414, 3) := by decide +kernel
theorem dX12_mean_138 : decode cX12_mean 138 = .ok (.i2l, 1) := by decide +kernel
theorem dX12_mean_139 : decode cX12_mean 139 = .ok (.ladd, 1) := by decide +kernel
theorem dX12_mean_140 : decode cX12_mean 140 = .ok (.lstore 4, 2) := by decide +kernel
theorem dX12_mean_142 : decode cX12_mean 142 = .ok (.iconst 0, 1) := by decide +kernel
theorem dX12_mean_143 : decode cX12_mean 143 = .ok (.istore 7, 2) := by decide +kernel
theorem dX12_mean_145 : decode cX12_mean 145 = .ok (.iload 7, 2) := by decide +kernel
theorem dX12_mean_147 : decode cX12_mean 147 = .ok (.bipush 111, 2) := by decide +kernel
theorem dX12_mean_149 : decode cX12_mean 149 = .ok (.if_icmp .ge 23, 3) := by decide +kernel
theorem dX12_mean_152 : decode cX12_mean 152 = .ok (.aload_n 0, 1) := by decide +kernel
theorem dX12_mean_153 : decode cX12_mean 153 = .ok (.getfield 35, 3) := by decide +kernel
theorem dX12_mean_156 : decode cX12_mean 156 = .ok (.iload 7, 2) := by decide +kernel
theorem dX12_mean_158 : decode cX12_mean 158 = .ok (.aload_n 0, 1) := by decide +kernel
theorem dX12_mean_159 : decode cX12_mean 159 = .ok (.getfield 68, 3) := by decide +kernel
theorem dX12_mean_162 : decode cX12_mean 162 = .ok (.iload 7, 2) := by decide +kernel
theorem dX12_mean_164 : decode cX12_mean 164 = .ok (.iaload, 1) := by decide +kernel
theorem dX12_mean_165 : decode cX12_mean 165 = .ok (.iastore, 1) := by decide +kernel
theorem dX12_mean_166 : decode cX12_mean 166 = .ok (.iinc 7 1, 3) := by decide +kernel
theorem dX12_mean_169 : decode cX12_mean 169 = .ok (.goto (-24), 3) := by decide +kernel
theorem dX12_mean_172 : decode cX12_mean 172 = .ok (.iinc 6 1, 3) := by decide +kernel
theorem dX12_mean_175 : decode cX12_mean 175 = .ok (.goto (-65), 3) := by decide +kernel
theorem dX12_mean_178 : decode cX12_mean 178 = .ok (.aload_n 0, 1) := by decide +kernel
theorem dX12_mean_179 : decode cX12_mean 179 = .ok (.lload 4, 2) := by decide +kernel
theorem dX12_mean_181 : decode cX12_mean 181 = .ok (.iload_n 3, 1) := by decide +kernel
theorem dX12_mean_182 : decode cX12_mean 182 = .ok (.i2l, 1) := by decide +kernel
theorem dX12_mean_183 : decode cX12_mean 183 = .ok (.invokevirtual 427, 3) := by decide +kernel
theorem dX12_mean_186 : decode cX12_mean 186 = .ok (.ireturn, 1) := by decide +kernel
theorem dX12_copy_0 : decode cX12_copy 0 = .ok (.iconst 0, 1) := by decide +kernel
theorem dX12_copy_1 : decode cX12_copy 1 = .ok (.istore_n 3, 1) := by decide +kernel
theorem dX12_copy_2 : decode cX12_copy 2 = .ok (.iload_n 3, 1) := by decide +kernel
theorem dX12_copy_3 : decode cX12_copy 3 = .ok (.sipush 390, 3) := by decide +kernel
theorem dX12_copy_6 : decode cX12_copy 6 = .ok (.if_icmp .ge 33, 3) := by decide +kernel
theorem dX12_copy_9 : decode cX12_copy 9 = .ok (.aload_n 0, 1) := by decide +kernel
theorem dX12_copy_10 : decode cX12_copy 10 = .ok (.getfield 35, 3) := by decide +kernel
theorem dX12_copy_13 : decode cX12_copy 13 = .ok (.sipush 390, 3) := by decide +kernel
theorem dX12_copy_16 : decode cX12_copy 16 = .ok (.iload_n 2, 1) := by decide +kernel
theorem dX12_copy_17 : decode cX12_copy 17 = .ok (.imul, 1) := by decide +kernel
theorem dX12_copy_18 : decode cX12_copy 18 = .ok (.iload_n 3, 1) := by decide +kernel
theorem dX12_copy_19 : decode cX12_copy 19 = .ok (.iadd, 1) := by decide +kernel
theorem dX12_copy_20 : decode cX12_copy 20 = .ok (.aload_n 0, 1) := by decide +kernel
theorem dX12_copy_21 : decode cX12_copy 21 = .ok (.getfield 35, 3) := by decide +kernel
theorem dX12_copy_24 : decode cX12_copy 24 = .ok (.sipush 390, 3) := by decide +kernel
theorem dX12_copy_27 : decode cX12_copy 27 = .ok (.iload_n 1, 1) := by decide +kernel
theorem dX12_copy_28 : decode cX12_copy 28 = .ok (.imul, 1) := by decide +kernel
theorem dX12_copy_29 : decode cX12_copy 29 = .ok (.iload_n 3, 1) := by decide +kernel
theorem dX12_copy_30 : decode cX12_copy 30 = .ok (.iadd, 1) := by decide +kernel
theorem dX12_copy_31 : decode cX12_copy 31 = .ok (.iaload, 1) := by decide +kernel
theorem dX12_copy_32 : decode cX12_copy 32 = .ok (.iastore, 1) := by decide +kernel
theorem dX12_copy_33 : decode cX12_copy 33 = .ok (.iinc 3 1, 3) := by decide +kernel
theorem dX12_copy_36 : decode cX12_copy 36 = .ok (.goto (-34), 3) := by decide +kernel
theorem dX12_copy_39 : decode cX12_copy 39 = .ok (.iconst 0, 1) := by decide +kernel
theorem dX12_copy_40 : decode cX12_copy 40 = .ok (.istore_n 3, 1) := by decide +kernel
theorem dX12_copy_41 : decode cX12_copy 41 = .ok (.iload_n 3, 1) := by decide +kernel
theorem dX12_copy_42 : decode cX12_copy 42 = .ok (.bipush 20, 2) := by decide +kernel
theorem dX12_copy_44 : decode cX12_copy 44 = .ok (.if_icmp .ge 31, 3) := by decide +kernel
theorem dX12_copy_47 : decode cX12_copy 47 = .ok (.aload_n 0, 1) := by decide +kernel
theorem dX12_copy_48 : decode cX12_copy 48 = .ok (.getfield 41, 3) := by decide +kernel
theorem dX12_copy_51 : decode cX12_copy 51 = .ok (.bipush 20, 2) := by decide +kernel
theorem dX12_copy_53 : decode cX12_copy 53 = .ok (.iload_n 2, 1) := by decide +kernel
theorem dX12_copy_54 : decode cX12_copy 54 = .ok (.imul, 1) := by decide +kernel
theorem dX12_copy_55 : decode cX12_copy 55 = .ok (.iload_n 3, 1) := by decide +kernel
theorem dX12_copy_56 : decode cX12_copy 56 = .ok (.iadd, 1) := by decide +kernel
theorem dX12_copy_57 : decode cX12_copy 57 = .ok (.aload_n 0, 1) := by decide +kernel
theorem dX12_copy_58 : decode cX12_copy 58 = .ok (.getfield 41, 3) := by decide +kernel
theorem dX12_copy_61 : decode cX12_copy 61 = .ok (.bipush 20, 2) := by decide +kernel
theorem dX12_copy_63 : decode cX12_copy 63 = .ok (.iload_n 1, 1) := by decide +kernel
theorem dX12_copy_64 : decode cX12_copy 64 = .ok (.imul, 1) := by decide +kernel
theorem dX12_copy_65 : decode cX12_copy 65 = .ok (.iload_n 3, 1) := by decide +kernel
theorem dX12_copy_66 : decode cX12_copy 66 = .ok (.iadd, 1) := by decide +kernel
theorem dX12_copy_67 : decode cX12_copy 67 = .ok (.laload, 1) := by decide +kernel
theorem dX12_copy_68 : decode cX12_copy 68 = .ok (.lastore, 1) := by decide +kernel
theorem dX12_copy_69 : decode cX12_copy 69 = .ok (.iinc 3 1, 3) := by decide +kernel
theorem dX12_copy_72 : decode cX12_copy 72 = .ok (.goto (-31), 3) := by decide +kernel
theorem dX12_copy_75 : decode cX12_copy 75 = .ok (.return_, 1) := by decide +kernel
theorem dX12_mark_0 : decode cX12_mark 0 = .ok (.aload_n 0, 1) := by decide +kernel
theorem dX12_mark_1 : decode cX12_mark 1 = .ok (.iconst 0, 1) := by decide +kernel
theorem dX12_mark_2 : decode cX12_mark 2 = .ok (.putfield 71, 3) := by decide +kernel
theorem dX12_mark_5 : decode cX12_mark 5 = .ok (.aload_n 0, 1) := by decide +kernel
theorem dX12_mark_6 : decode cX12_mark 6 = .ok (.iconst 0, 1) := by decide +kernel
theorem dX12_mark_7 : decode cX12_mark 7 = .ok (.putfield 74, 3) := by decide +kernel
theorem dX12_mark_10 : decode cX12_mark 10 = .ok (.aload_n 0, 1) := by decide +kernel
theorem dX12_mark_11 : decode cX12_mark 11 = .ok (.getfield 521, 3) := by decide +kernel
theorem dX12_mark_14 : decode cX12_mark 14 = .ok (.iconst 3, 1) := by decide +kernel
theorem dX12_mark_15 : decode cX12_mark 15 = .ok (.if_icmp .ne 10, 3) := by decide +kernel
theorem dX12_mark_18 : decode cX12_mark 18 = .ok (.aload_n 0, 1) := by decide +kernel
theorem dX12_mark_19 : decode cX12_mark 19 = .ok (.bipush 7, 2) := by decide +kernel
theorem dX12_mark_21 : decode cX12_mark 21 = .ok (.invokevirtual 324, 3) := by decide +kernel
theorem dX12_mark_24 : decode cX12_mark 24 = .ok (.ireturn, 1) := by decide +kernel
theorem dX12_mark_25 : decode cX12_mark 25 = .ok (.aload_n 0, 1) := by decide +kernel
theorem dX12_mark_26 : decode cX12_mark 26 = .ok (.dup, 1) := by decide +kernel
theorem dX12_mark_27 : decode cX12_mark 27 = .ok (.getfield 521, 3) := by decide +kernel
theorem dX12_mark_30 : decode cX12_mark 30 = .ok (.iconst 1, 1) := by decide +kernel
theorem dX12_mark_31 : decode cX12_mark 31 = .ok (.iadd, 1) := by decide +kernel
theorem dX12_mark_32 : decode cX12_mark 32 = .ok (.putfield 521, 3) := by decide +kernel
theorem dX12_mark_35 : decode cX12_mark 35 = .ok (.aload_n 0, 1) := by decide +kernel
theorem dX12_mark_36 : decode cX12_mark 36 = .ok (.iconst 0, 1) := by decide +kernel
theorem dX12_mark_37 : decode cX12_mark 37 = .ok (.aload_n 0, 1) := by decide +kernel
theorem dX12_mark_38 : decode cX12_mark 38 = .ok (.getfield 521, 3) := by decide +kernel
theorem dX12_mark_41 : decode cX12_mark 41 = .ok (.invokevirtual 301, 3) := by decide +kernel
theorem dX12_mark_44 : decode cX12_mark 44 = .ok (.aload_n 0, 1) := by decide +kernel
theorem dX12_mark_45 : decode cX12_mark 45 = .ok (.getfield 521, 3) := by decide +kernel
theorem dX12_mark_48 : decode cX12_mark 48 = .ok (.ireturn, 1) := by decide +kernel
theorem dX12_back_0 : decode cX12_back 0 = .ok (.aload_n 0, 1) := by decide +kernel
theorem dX12_back_1 : decode cX12_back 1 = .ok (.iconst 0, 1) := by decide +kernel
theorem dX12_back_2 : decode cX12_back 2 = .ok (.putfield 71, 3) := by decide +kernel
theorem dX12_back_5 : decode cX12_back 5 = .ok (.aload_n 0, 1) := by decide +kernel
theorem dX12_back_6 : decode cX12_back 6 = .ok (.iconst 0, 1) := by decide +kernel
theorem dX12_back_7 : decode cX12_back 7 = .ok (.putfield 74, 3) := by decide +kernel
theorem dX12_back_10 : decode cX12_back 10 = .ok (.aload_n 0, 1) := by decide +kernel
theorem dX12_back_11 : decode cX12_back 11 = .ok (.getfield 521, 3) := by decide +kernel
theorem dX12_back_14 : decode cX12_back 14 = .ok (.ifCond .ne 10, 3) := by decide +kernel
theorem dX12_back_17 : decode cX12_back 17 = .ok (.aload_n 0, 1) := by decide +kernel
theorem dX12_back_18 : decode cX12_back 18 = .ok (.bipush 8, 2) := by decide +kernel
theorem dX12_back_20 : decode cX12_back 20 = .ok (.invokevirtual 324, 3) := by decide +kernel
theorem dX12_back_23 : decode cX12_back 23 = .ok (.ireturn, 1) := by decide +kernel
theorem dX12_back_24 : decode cX12_back 24 = .ok (.aload_n 0, 1) := by decide +kernel
theorem dX12_back_25 : decode cX12_back 25 = .ok (.aload_n 0, 1) := by decide +kernel
theorem dX12_back_26 : decode cX12_back 26 = .ok (.getfield 521, 3) := by decide +kernel
theorem dX12_back_29 : decode cX12_back 29 = .ok (.iconst 0, 1) := by decide +kernel
theorem dX12_back_30 : decode cX12_back 30 = .ok (.invokevirtual 301, 3) := by decide +kernel
theorem dX12_back_33 : decode cX12_back 33 = .ok (.aload_n 0, 1) := by decide +kernel
theorem dX12_back_34 : decode cX12_back 34 = .ok (.dup, 1) := by decide +kernel
theorem dX12_back_35 : decode cX12_back 35 = .ok (.getfield 521, 3) := by decide +kernel
theorem dX12_back_38 : decode cX12_back 38 = .ok (.iconst 1, 1) := by decide +kernel
theorem dX12_back_39 : decode cX12_back 39 = .ok (.isub, 1) := by decide +kernel
theorem dX12_back_40 : decode cX12_back 40 = .ok (.putfield 521, 3) := by decide +kernel
theorem dX12_back_43 : decode cX12_back 43 = .ok (.aload_n 0, 1) := by decide +kernel
theorem dX12_back_44 : decode cX12_back 44 = .ok (.getfield 521, 3) := by decide +kernel
theorem dX12_back_47 : decode cX12_back 47 = .ok (.ireturn, 1) := by decide +kernel
