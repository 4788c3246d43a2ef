theorem dL_put_0 : decode cL_put 0 = .ok (.aload_n 1, 1) := by decide +kernel
theorem dL_put_1 : decode cL_put 1 = .ok (.aload_n 1, 1) := by decide +kernel
theorem dL_put_2 : decode cL_put 2 = .ok (.bipush 20, 2) := by decide +kernel
theorem dL_put_4 : decode cL_put 4 = .ok (.iaload, 1) := by decide +kernel
theorem dL_put_5 : decode cL_put 5 = .ok (.iload_n 2, 1) := by decide +kernel
theorem dL_put_6 : decode cL_put 6 = .ok (.iastore, 1) := by decide +kernel
theorem dL_put_7 : decode cL_put 7 = .ok (.aload_n 1, 1) := by decide +kernel
theorem dL_put_8 : decode cL_put 8 = .ok (.bipush 20, 2) := by decide +kernel
theorem dL_put_10 : decode cL_put 10 = .ok (.dup2, 1) := by decide +kernel
theorem dL_put_11 : decode cL_put 11 = .ok (.iaload, 1) := by decide +kernel
theorem dL_put_12 : decode cL_put 12 = .ok (.iconst 1, 1) := by decide +kernel
theorem dL_put_13 : decode cL_put 13 = .ok (.iadd, 1) := by decide +kernel
theorem dL_put_14 : decode cL_put 14 = .ok (.iastore, 1) := by decide +kernel
theorem dL_put_15 : decode cL_put 15 = .ok (.aload_n 1, 1) := by decide +kernel
theorem dL_put_16 : decode cL_put 16 = .ok (.bipush 21, 2) := by decide +kernel
theorem dL_put_18 : decode cL_put 18 = .ok (.dup2, 1) := by decide +kernel
theorem dL_put_19 : decode cL_put 19 = .ok (.iaload, 1) := by decide +kernel
theorem dL_put_20 : decode cL_put 20 = .ok (.iconst 1, 1) := by decide +kernel
theorem dL_put_21 : decode cL_put 21 = .ok (.iadd, 1) := by decide +kernel
theorem dL_put_22 : decode cL_put 22 = .ok (.iastore, 1) := by decide +kernel
theorem dL_put_23 : decode cL_put 23 = .ok (.aload_n 1, 1) := by decide +kernel
theorem dL_put_24 : decode cL_put 24 = .ok (.bipush 20, 2) := by decide +kernel
theorem dL_put_26 : decode cL_put 26 = .ok (.iaload, 1) := by decide +kernel
theorem dL_put_27 : decode cL_put 27 = .ok (.bipush 20, 2) := by decide +kernel
theorem dL_put_29 : decode cL_put 29 = .ok (.if_icmp .ne 8, 3) := by decide +kernel
theorem dL_put_32 : decode cL_put 32 = .ok (.aload_n 0, 1) := by decide +kernel
theorem dL_put_33 : decode cL_put 33 = .ok (.aload_n 1, 1) := by decide +kernel
theorem dL_put_34 : decode cL_put 34 = .ok (.invokestatic 7, 3) := by decide +kernel
theorem dL_put_37 : decode cL_put 37 = .ok (.return_, 1) := by decide +kernel
theorem dL_feed_0 : decode cL_feed 0 = .ok (.aload_n 1, 1) := by decide +kernel
theorem dL_feed_1 : decode cL_feed 1 = .ok (.bipush 20, 2) := by decide +kernel
theorem dL_feed_3 : decode cL_feed 3 = .ok (.iaload, 1) := by decide +kernel
theorem dL_feed_4 : decode cL_feed 4 = .ok (.istore_n 2, 1) := by decide +kernel
theorem dL_feed_5 : decode cL_feed 5 = .ok (.iload_n 2, 1) := by decide +kernel
theorem dL_feed_6 : decode cL_feed 6 = .ok (.bipush 20, 2) := by decide +kernel
theorem dL_feed_8 : decode cL_feed 8 = .ok (.if_icmp .ge 14, 3) := by decide +kernel
theorem dL_feed_11 : decode cL_feed 11 = .ok (.aload_n 1, 1) := by decide +kernel
theorem dL_feed_12 : decode cL_feed 12 = .ok (.iload_n 2, 1) := by decide +kernel
theorem dL_feed_13 : decode cL_feed 13 = .ok (.bipush 32, 2) := by decide +kernel
theorem dL_feed_15 : decode cL_feed 15 = .ok (.iastore, 1) := by decide +kernel
theorem dL_feed_16 : decode cL_feed 16 = .ok (.iinc 2 1, 3) := by decide +kernel
theorem dL_feed_19 : decode cL_feed 19 = .ok (.goto (-14), 3) := by decide +kernel
theorem dL_feed_22 : decode cL_feed 22 = .ok (.aload_n 0, 1) := by decide +kernel
theorem dL_feed_23 : decode cL_feed 23 = .ok (.aload_n 1, 1) := by decide +kernel
theorem dL_feed_24 : decode cL_feed 24 = .ok (.iconst 0, 1) := by decide +kernel
theorem dL_feed_25 : decode cL_feed 25 = .ok (.invokestatic 13, 3) := by decide +kernel
theorem dL_feed_28 : decode cL_feed 28 = .ok (.aload_n 1, 1) := by decide +kernel
theorem dL_feed_29 : decode cL_feed 29 = .ok (.iconst 4, 1) := by decide +kernel
theorem dL_feed_30 : decode cL_feed 30 = .ok (.invokestatic 13, 3) := by decide +kernel
theorem dL_feed_33 : decode cL_feed 33 = .ok (.aload_n 1, 1) := by decide +kernel
theorem dL_feed_34 : decode cL_feed 34 = .ok (.bipush 8, 2) := by decide +kernel
theorem dL_feed_36 : decode cL_feed 36 = .ok (.invokestatic 13, 3) := by decide +kernel
theorem dL_feed_39 : decode cL_feed 39 = .ok (.aload_n 1, 1) := by decide +kernel
theorem dL_feed_40 : decode cL_feed 40 = .ok (.bipush 12, 2) := by decide +kernel
theorem dL_feed_42 : decode cL_feed 42 = .ok (.invokestatic 13, 3) := by decide +kernel
theorem dL_feed_45 : decode cL_feed 45 = .ok (.aload_n 1, 1) := by decide +kernel
theorem dL_feed_46 : decode cL_feed 46 = .ok (.bipush 16, 2) := by decide +kernel
theorem dL_feed_48 : decode cL_feed 48 = .ok (.invokestatic 13, 3) := by decide +kernel
theorem dL_feed_51 : decode cL_feed 51 = .ok (.invokevirtual 17, 3) := by decide +kernel
theorem dL_feed_54 : decode cL_feed 54 = .ok (.pop, 1) := by decide +kernel
theorem dL_feed_55 : decode cL_feed 55 = .ok (.aload_n 1, 1) := by decide +kernel
theorem dL_feed_56 : decode cL_feed 56 = .ok (.bipush 20, 2) := by decide +kernel
theorem dL_feed_58 : decode cL_feed 58 = .ok (.iconst 0, 1) := by decide +kernel
theorem dL_feed_59 : decode cL_feed 59 = .ok (.iastore, 1) := by decide +kernel
theorem dL_feed_60 : decode cL_feed 60 = .ok (.return_, 1) := by decide +kernel
theorem dL_four_0 : decode cL_four 0 = .ok (.aload_n 0, 1) := by decide +kernel
theorem dL_four_1 : decode cL_four 1 = .ok (.iload_n 1, 1) := by decide +kernel
theorem dL_four_2 : decode cL_four 2 = .ok (.iaload, 1) := by decide +kernel
theorem dL_four_3 : decode cL_four 3 = .ok (.bipush 24, 2) := by decide +kernel
theorem dL_four_5 : decode cL_four 5 = .ok (.ishl, 1) := by decide +kernel
theorem dL_four_6 : decode cL_four 6 = .ok (.aload_n 0, 1) := by decide +kernel
theorem dL_four_7 : decode cL_four 7 = .ok (.iload_n 1, 1) := by decide +kernel
theorem dL_four_8 : decode cL_four 8 = .ok (.iconst 1, 1) := by decide +kernel
theorem dL_four_9 : decode cL_four 9 = .ok (.iadd, 1) := by decide +kernel
theorem dL_four_10 : decode cL_four 10 = .ok (.iaload, 1) := by decide +kernel
theorem dL_four_11 : decode cL_four 11 = .ok (.bipush 16, 2) := by decide +kernel
theorem dL_four_13 : decode cL_four 13 = .ok (.ishl, 1) := by decide +kernel
theorem dL_four_14 : decode cL_four 14 = .ok (.ior, 1) := by decide +kernel
theorem dL_four_15 : decode cL_four 15 = .ok (.aload_n 0, 1) := by decide +kernel
theorem dL_four_16 : decode cL_four 16 = .ok (.iload_n 1, 1) := by decide +kernel
theorem dL_four_17 : decode cL_four 17 = .ok (.iconst 2, 1) := by decide +kernel
theorem dL_four_18 : decode cL_four 18 = .ok (.iadd, 1) := by decide +kernel
theorem dL_four_19 : decode cL_four 19 = .ok (.iaload, 1) := by decide +kernel
theorem dL_four_20 : decode cL_four 20 = .ok (.bipush 8, 2) := by decide +kernel
theorem dL_four_22 : decode cL_four 22 = .ok (.ishl, 1) := by decide +kernel
theorem dL_four_23 : decode cL_four 23 = .ok (.ior, 1) := by decide +kernel
theorem dL_four_24 : decode cL_four 24 = .ok (.aload_n 0, 1) := by decide +kernel
theorem dL_four_25 : decode cL_four 25 = .ok (.iload_n 1, 1) := by decide +kernel
theorem dL_four_26 : decode cL_four 26 = .ok (.iconst 3, 1) := by decide +kernel
theorem dL_four_27 : decode cL_four 27 = .ok (.iadd, 1) := by decide +kernel
theorem dL_four_28 : decode cL_four 28 = .ok (.iaload, 1) := by decide +kernel
theorem dL_four_29 : decode cL_four 29 = .ok (.ior, 1) := by decide +kernel
theorem dL_four_30 : decode cL_four 30 = .ok (.ireturn, 1) := by decide +kernel
theorem dL_say_0 : decode cL_say 0 = .ok (.iconst 0, 1) := by decide +kernel
theorem dL_say_1 : decode cL_say 1 = .ok (.istore_n 3, 1) := by decide +kernel
theorem dL_say_2 : decode cL_say 2 = .ok (.iload_n 3, 1) := by decide +kernel
theorem dL_say_3 : decode cL_say 3 = .ok (.aload_n 2, 1) := by decide +kernel
theorem dL_say_4 : decode cL_say 4 = .ok (.invokevirtual 22, 3) := by decide +kernel
theorem dL_say_7 : decode cL_say 7 = .ok (.if_icmp .ge 19, 3) := by decide +kernel
theorem dL_say_10 : decode cL_say 10 = .ok (.aload_n 0, 1) := by decide +kernel
theorem dL_say_11 : decode cL_say 11 = .ok (.aload_n 1, 1) := by decide +kernel
theorem dL_say_12 : decode cL_say 12 = .ok (.aload_n 2, 1) := by decide +kernel
theorem dL_say_13 : decode cL_say 13 = .ok (.iload_n 3, 1) := by decide +kernel
theorem dL_say_14 : decode cL_say 14 = .ok (.invokevirtual 28, 3) := by decide +kernel
theorem dL_say_17 : decode cL_say 17 = .ok (.invokestatic 32, 3) := by decide +kernel
theorem dL_say_20 : decode cL_say 20 = .ok (.iinc 3 1, 3) := by decide +kernel
theorem dL_say_23 : decode cL_say 23 = .ok (.goto (-21), 3) := by decide +kernel
theorem dL_say_26 : decode cL_say 26 = .ok (.return_, 1) := by decide +kernel
theorem dL_load_0 : decode cL_load 0 = .ok (.aload_n 1, 1) := by decide +kernel
theorem dL_load_1 : decode cL_load 1 = .ok (.bipush 21, 2) := by decide +kernel
theorem dL_load_3 : decode cL_load 3 = .ok (.iaload, 1) := by decide +kernel
theorem dL_load_4 : decode cL_load 4 = .ok (.istore_n 2, 1) := by decide +kernel
theorem dL_load_5 : decode cL_load 5 = .ok (.aload_n 1, 1) := by decide +kernel
theorem dL_load_6 : decode cL_load 6 = .ok (.bipush 20, 2) := by decide +kernel
theorem dL_load_8 : decode cL_load 8 = .ok (.iaload, 1) := by decide +kernel
theorem dL_load_9 : decode cL_load 9 = .ok (.ifCond .le 8, 3) := by decide +kernel
theorem dL_load_12 : decode cL_load 12 = .ok (.aload_n 0, 1) := by decide +kernel
theorem dL_load_13 : decode cL_load 13 = .ok (.aload_n 1, 1) := by decide +kernel
theorem dL_load_14 : decode cL_load 14 = .ok (.invokestatic 7, 3) := by decide +kernel
theorem dL_load_17 : decode cL_load 17 = .ok (.aload_n 1, 1) := by decide +kernel
theorem dL_load_18 : decode cL_load 18 = .ok (.bipush 21, 2) := by decide +kernel
theorem dL_load_20 : decode cL_load 20 = .ok (.iconst 0, 1) := by decide +kernel
theorem dL_load_21 : decode cL_load 21 = .ok (.iastore, 1) := by decide +kernel
theorem dL_load_22 : decode cL_load 22 = .ok (.aload_n 1, 1) := by decide +kernel
theorem dL_load_23 : decode cL_load 23 = .ok (.bipush 22, 2) := by decide +kernel
theorem dL_load_25 : decode cL_load 25 = .ok (.iaload, 1) := by decide +kernel
theorem dL_load_26 : decode cL_load 26 = .ok (.ifCond .ne 11, 3) := by decide +kernel
theorem dL_load_29 : decode cL_load 29 = .ok (.aload_n 0, 1) := by decide +kernel
theorem dL_load_30 : decode cL_load 30 = .ok (.iload_n 2, 1) := by decide +kernel
theorem dL_load_31 : decode cL_load 31 = .ok (.invokevirtual 36, 3) := by decide +kernel
theorem dL_load_34 : decode cL_load 34 = .ok (.goto 8, 3) := by decide +kernel
theorem dL_load_37 : decode cL_load 37 = .ok (.aload_n 0, 1) := by decide +kernel
theorem dL_load_38 : decode cL_load 38 = .ok (.iload_n 2, 1) := by decide +kernel
theorem dL_load_39 : decode cL_load 39 = .ok (.invokevirtual 40, 3) := by decide +kernel
theorem dL_load_42 : decode cL_load 42 = .ok (.ireturn, 1) := by decide +kernel
theorem dL_number_0 : decode cL_number 0 = .ok (.aload_n 0, 1) := by decide +kernel
theorem dL_number_1 : decode cL_number 1 = .ok (.aload_n 1, 1) := by decide +kernel
theorem dL_number_2 : decode cL_number 2 = .ok (.bipush 32, 2) := by decide +kernel
theorem dL_number_4 : decode cL_number 4 = .ok (.invokestatic 32, 3) := by decide +kernel
theorem dL_number_7 : decode cL_number 7 = .ok (.iload_n 2, 1) := by decide +kernel
theorem dL_number_8 : decode cL_number 8 = .ok (.bipush 9, 2) := by decide +kernel
theorem dL_number_10 : decode cL_number 10 = .ok (.if_icmp .le 15, 3) := by decide +kernel
theorem dL_number_13 : decode cL_number 13 = .ok (.aload_n 0, 1) := by decide +kernel
theorem dL_number_14 : decode cL_number 14 = .ok (.aload_n 1, 1) := by decide +kernel
theorem dL_number_15 : decode cL_number 15 = .ok (.bipush 48, 2) := by decide +kernel
theorem dL_number_17 : decode cL_number 17 = .ok (.iload_n 2, 1) := by decide +kernel
theorem dL_number_18 : decode cL_number 18 = .ok (.bipush 10, 2) := by decide +kernel
theorem dL_number_20 : decode cL_number 20 = .ok (.idiv, 1) := by decide +kernel
theorem dL_number_21 : decode cL_number 21 = .ok (.iadd, 1) := by decide +kernel
theorem dL_number_22 : decode cL_number 22 = .ok (.invokestatic 32, 3) := by decide +kernel
theorem dL_number_25 : decode cL_number 25 = .ok (.aload_n 0, 1) := by decide +kernel
theorem dL_number_26 : decode cL_number 26 = .ok (.aload_n 1, 1) := by decide +kernel
theorem dL_number_27 : decode cL_number 27 = .ok (.bipush 48, 2) := by decide +kernel
theorem dL_number_29 : decode cL_number 29 = .ok (.iload_n 2, 1) := by decide +kernel
theorem dL_number_30 : decode cL_number 30 = .ok (.bipush 10, 2) := by decide +kernel
theorem dL_number_32 : decode cL_number 32 = .ok (.irem, 1) := by decide +kernel
theorem dL_number_33 : decode cL_number 33 = .ok (.iadd, 1) := by decide +kernel
theorem dL_number_34 : decode cL_number 34 = .ok (.invokestatic 32, 3) := by decide +kernel
theorem dL_number_37 : decode cL_number 37 = .ok (.return_, 1) := by decide +kernel
theorem dL_name_0 : decode cL_name 0 = .ok (.aload_n 0, 1) := by decide +kernel
theorem dL_name_1 : decode cL_name 1 = .ok (.aload_n 1, 1) := by decide +kernel
theorem dL_name_2 : decode cL_name 2 = .ok (.bipush 32, 2) := by decide +kernel
theorem dL_name_4 : decode cL_name 4 = .ok (.invokestatic 32, 3) := by decide +kernel
theorem dL_name_7 : decode cL_name 7 = .ok (.aload_n 0, 1) := by decide +kernel
theorem dL_name_8 : decode cL_name 8 = .ok (.aload_n 1, 1) := by decide +kernel
theorem dL_name_9 : decode cL_name 9 = .ok (.iload_n 2, 1) := by decide +kernel
theorem dL_name_10 : decode cL_name 10 = .ok (.invokestatic 32, 3) := by decide +kernel
theorem dL_name_13 : decode cL_name 13 = .ok (.aload_n 0, 1) := by decide +kernel
theorem dL_name_14 : decode cL_name 14 = .ok (.aload_n 1, 1) := by decide +kernel
theorem dL_name_15 : decode cL_name 15 = .ok (.bipush 97, 2) := by decide +kernel
theorem dL_name_17 : decode cL_name 17 = .ok (.iload_n 3, 1) := by decide +kernel
theorem dL_name_18 : decode cL_name 18 = .ok (.iadd, 1) := by decide +kernel
theorem dL_name_19 : decode cL_name 19 = .ok (.invokestatic 32, 3) := by decide +kernel
theorem dL_name_22 : decode cL_name 22 = .ok (.return_, 1) := by decide +kernel
theorem dL_lay_0 : decode cL_lay 0 = .ok (.aload_n 1, 1) := by decide +kernel
theorem dL_lay_1 : decode cL_lay 1 = .ok (.bipush 22, 2) := by decide +kernel
theorem dL_lay_3 : decode cL_lay 3 = .ok (.iconst 0, 1) := by decide +kernel
theorem dL_lay_4 : decode cL_lay 4 = .ok (.iastore, 1) := by decide +kernel
theorem dL_lay_5 : decode cL_lay 5 = .ok (.iconst 0, 1) := by decide +kernel
theorem dL_lay_6 : decode cL_lay 6 = .ok (.istore_n 3, 1) := by decide +kernel
theorem dL_lay_7 : decode cL_lay 7 = .ok (.iload_n 3, 1) := by decide +kernel
theorem dL_lay_8 : decode cL_lay 8 = .ok (.aload_n 2, 1) := by decide +kernel
theorem dL_lay_9 : decode cL_lay 9 = .ok (.iconst 0, 1) := by decide +kernel
theorem dL_lay_10 : decode cL_lay 10 = .ok (.iaload, 1) := by decide +kernel
theorem dL_lay_11 : decode cL_lay 11 = .ok (.if_icmp .ge 80, 3) := by decide +kernel
theorem dL_lay_14 : decode cL_lay 14 = .ok (.aload_n 0, 1) := by decide +kernel
theorem dL_lay_15 : decode cL_lay 15 = .ok (.aload_n 1, 1) := by decide +kernel
theorem dL_lay_16 : decode cL_lay 16 = .ok (.ldc 43, 2) := by decide +kernel
theorem dL_lay_18 : decode cL_lay 18 = .ok (.invokestatic 45, 3) := by decide +kernel
theorem dL_lay_21 : decode cL_lay 21 = .ok (.aload_n 0, 1) := by decide +kernel
theorem dL_lay_22 : decode cL_lay 22 = .ok (.aload_n 1, 1) := by decide +kernel
theorem dL_lay_23 : decode cL_lay 23 = .ok (.bipush 99, 2) := by decide +kernel
theorem dL_lay_25 : decode cL_lay 25 = .ok (.iload_n 3, 1) := by decide +kernel
theorem dL_lay_26 : decode cL_lay 26 = .ok (.invokestatic 49, 3) := by decide +kernel
theorem dL_lay_29 : decode cL_lay 29 = .ok (.aload_n 0, 1) := by decide +kernel
theorem dL_lay_30 : decode cL_lay 30 = .ok (.aload_n 1, 1) := by decide +kernel
theorem dL_lay_31 : decode cL_lay 31 = .ok (.ldc 53, 2) := by decide +kernel
theorem dL_lay_33 : decode cL_lay 33 = .ok (.invokestatic 45, 3) := by decide +kernel
theorem dL_lay_36 : decode cL_lay 36 = .ok (.aload_n 0, 1) := by decide +kernel
theorem dL_lay_37 : decode cL_lay 37 = .ok (.aload_n 1, 1) := by decide +kernel
theorem dL_lay_38 : decode cL_lay 38 = .ok (.aload_n 2, 1) := by decide +kernel
theorem dL_lay_39 : decode cL_lay 39 = .ok (.iconst 4, 1) := by decide +kernel
theorem dL_lay_40 : decode cL_lay 40 = .ok (.iload_n 3, 1) := by decide +kernel
theorem dL_lay_41 : decode cL_lay 41 = .ok (.iadd, 1) := by decide +kernel
theorem dL_lay_42 : decode cL_lay 42 = .ok (.iaload, 1) := by decide +kernel
theorem dL_lay_43 : decode cL_lay 43 = .ok (.invokestatic 55, 3) := by decide +kernel
theorem dL_lay_46 : decode cL_lay 46 = .ok (.aload_n 2, 1) := by decide +kernel
theorem dL_lay_47 : decode cL_lay 47 = .ok (.bipush 12, 2) := by decide +kernel
theorem dL_lay_49 : decode cL_lay 49 = .ok (.iload_n 3, 1) := by decide +kernel
theorem dL_lay_50 : decode cL_lay 50 = .ok (.iadd, 1) := by decide +kernel
theorem dL_lay_51 : decode cL_lay 51 = .ok (.iaload, 1) := by decide +kernel
theorem dL_lay_52 : decode cL_lay 52 = .ok (.iconst 1, 1) := by decide +kernel
theorem dL_lay_53 : decode cL_lay 53 = .ok (.if_icmp .ne 10, 3) := by decide +kernel
theorem dL_lay_56 : decode cL_lay 56 = .ok (.aload_n 0, 1) := by decide +kernel
theorem dL_lay_57 : decode cL_lay 57 = .ok (.aload_n 1, 1) := by decide +kernel
theorem dL_lay_58 : decode cL_lay 58 = .ok (.ldc 58, 2) := by decide +kernel
theorem dL_lay_60 : decode cL_lay 60 = .ok (.invokestatic 45, 3) := by decide +kernel
theorem dL_lay_63 : decode cL_lay 63 = .ok (.aload_n 0, 1) := by decide +kernel
theorem dL_lay_64 : decode cL_lay 64 = .ok (.aload_n 1, 1) := by decide +kernel
theorem dL_lay_65 : decode cL_lay 65 = .ok (.aload_n 2, 1) := by decide +kernel
theorem dL_lay_66 : decode cL_lay 66 = .ok (.bipush 20, 2) := by decide +kernel
theorem dL_lay_68 : decode cL_lay 68 = .ok (.iload_n 3, 1) := by decide +kernel
theorem dL_lay_69 : decode cL_lay 69 = .ok (.iadd, 1) := by decide +kernel
theorem dL_lay_70 : decode cL_lay 70 = .ok (.iaload, 1) := by decide +kernel
theorem dL_lay_71 : decode cL_lay 71 = .ok (.iconst 1, 1) := by decide +kernel
theorem dL_lay_72 : decode cL_lay 72 = .ok (.if_icmp .ne 8, 3) := by decide +kernel
theorem dL_lay_75 : decode cL_lay 75 = .ok (.ldc 60, 2) := by decide +kernel
theorem dL_lay_77 : decode cL_lay 77 = .ok (.goto 5, 3) := by decide +kernel
theorem dL_lay_80 : decode cL_lay 80 = .ok (.ldc 62, 2) := by decide +kernel
theorem dL_lay_82 : decode cL_lay 82 = .ok (.invokestatic 45, 3) := by decide +kernel
theorem dL_lay_85 : decode cL_lay 85 = .ok (.iinc 3 1, 3) := by decide +kernel
theorem dL_lay_88 : decode cL_lay 88 = .ok (.goto (-81), 3) := by decide +kernel
theorem dL_lay_91 : decode cL_lay 91 = .ok (.iconst 0, 1) := by decide +kernel
theorem dL_lay_92 : decode cL_lay 92 = .ok (.istore_n 3, 1) := by decide +kernel
theorem dL_lay_93 : decode cL_lay 93 = .ok (.iload_n 3, 1) := by decide +kernel
theorem dL_lay_94 : decode cL_lay 94 = .ok (.aload_n 2, 1) := by decide +kernel
theorem dL_lay_95 : decode cL_lay 95 = .ok (.iconst 1, 1) := by decide +kernel
theorem dL_lay_96 : decode cL_lay 96 = .ok (.iaload, 1) := by decide +kernel
theorem dL_lay_97 : decode cL_lay 97 = .ok (.if_icmp .ge 49, 3) := by decide +kernel
theorem dL_lay_100 : decode cL_lay 100 = .ok (.aload_n 0, 1) := by decide +kernel
theorem dL_lay_101 : decode cL_lay 101 = .ok (.aload_n 1, 1) := by decide +kernel
theorem dL_lay_102 : decode cL_lay 102 = .ok (.ldc 64, 2) := by decide +kernel
theorem dL_lay_104 : decode cL_lay 104 = .ok (.invokestatic 45, 3) := by decide +kernel
theorem dL_lay_107 : decode cL_lay 107 = .ok (.aload_n 0, 1) := by decide +kernel
theorem dL_lay_108 : decode cL_lay 108 = .ok (.aload_n 1, 1) := by decide +kernel
theorem dL_lay_109 : decode cL_lay 109 = .ok (.bipush 115, 2) := by decide +kernel
theorem dL_lay_111 : decode cL_lay 111 = .ok (.iload_n 3, 1) := by decide +kernel
theorem dL_lay_112 : decode cL_lay 112 = .ok (.invokestatic 49, 3) := by decide +kernel
theorem dL_lay_115 : decode cL_lay 115 = .ok (.aload_n 0, 1) := by decide +kernel
theorem dL_lay_116 : decode cL_lay 116 = .ok (.aload_n 1, 1) := by decide +kernel
theorem dL_lay_117 : decode cL_lay 117 = .ok (.ldc 66, 2) := by decide +kernel
theorem dL_lay_119 : decode cL_lay 119 = .ok (.invokestatic 45, 3) := by decide +kernel
theorem dL_lay_122 : decode cL_lay 122 = .ok (.aload_n 0, 1) := by decide +kernel
theorem dL_lay_123 : decode cL_lay 123 = .ok (.aload_n 1, 1) := by decide +kernel
theorem dL_lay_124 : decode cL_lay 124 = .ok (.aload_n 2, 1) := by decide +kernel
theorem dL_lay_125 : decode cL_lay 125 = .ok (.bipush 36, 2) := by decide +kernel
theorem dL_lay_127 : decode cL_lay 127 = .ok (.iload_n 3, 1) := by decide +kernel
theorem dL_lay_128 : decode cL_lay 128 = .ok (.iadd, 1) := by decide +kernel
theorem dL_lay_129 : decode cL_lay 129 = .ok (.iaload, 1) := by decide +kernel
theorem dL_lay_130 : decode cL_lay 130 = .ok (.invokestatic 55, 3) := by decide +kernel
theorem dL_lay_133 : decode cL_lay 133 = .ok (.aload_n 0, 1) := by decide +kernel
theorem dL_lay_134 : decode cL_lay 134 = .ok (.aload_n 1, 1) := by decide +kernel
theorem dL_lay_135 : decode cL_lay 135 = .ok (.ldc 62, 2) := by decide +kernel
theorem dL_lay_137 : decode cL_lay 137 = .ok (.invokestatic 45, 3) := by decide +kernel
theorem dL_lay_140 : decode cL_lay 140 = .ok (.iinc 3 1, 3) := by decide +kernel
theorem dL_lay_143 : decode cL_lay 143 = .ok (.goto (-50), 3) := by decide +kernel
theorem dL_lay_146 : decode cL_lay 146 = .ok (.iconst 0, 1) := by decide +kernel
theorem dL_lay_147 : decode cL_lay 147 = .ok (.istore_n 3, 1) := by decide +kernel
theorem dL_lay_148 : decode cL_lay 148 = .ok (.iload_n 3, 1) := by decide +kernel
theorem dL_lay_149 : decode cL_lay 149 = .ok (.aload_n 2, 1) := by decide +kernel
theorem dL_lay_150 : decode cL_lay 150 = .ok (.iconst 2, 1) := by decide +kernel
theorem dL_lay_151 : decode cL_lay 151 = .ok (.iaload, 1) := by decide +kernel
theorem dL_lay_152 : decode cL_lay 152 = .ok (.if_icmp .ge 82, 3) := by decide +kernel
theorem dL_lay_155 : decode cL_lay 155 = .ok (.aload_n 0, 1) := by decide +kernel
theorem dL_lay_156 : decode cL_lay 156 = .ok (.aload_n 1, 1) := by decide +kernel
theorem dL_lay_157 : decode cL_lay 157 = .ok (.ldc 68, 2) := by decide +kernel
theorem dL_lay_159 : decode cL_lay 159 = .ok (.invokestatic 45, 3) := by decide +kernel
theorem dL_lay_162 : decode cL_lay 162 = .ok (.aload_n 0, 1) := by decide +kernel
theorem dL_lay_163 : decode cL_lay 163 = .ok (.aload_n 1, 1) := by decide +kernel
theorem dL_lay_164 : decode cL_lay 164 = .ok (.bipush 112, 2) := by decide +kernel
theorem dL_lay_166 : decode cL_lay 166 = .ok (.iload_n 3, 1) := by decide +kernel
theorem dL_lay_167 : decode cL_lay 167 = .ok (.invokestatic 49, 3) := by decide +kernel
theorem dL_lay_170 : decode cL_lay 170 = .ok (.aload_n 0, 1) := by decide +kernel
theorem dL_lay_171 : decode cL_lay 171 = .ok (.aload_n 1, 1) := by decide +kernel
theorem dL_lay_172 : decode cL_lay 172 = .ok (.ldc 70, 2) := by decide +kernel
theorem dL_lay_174 : decode cL_lay 174 = .ok (.invokestatic 45, 3) := by decide +kernel
theorem dL_lay_177 : decode cL_lay 177 = .ok (.aload_n 0, 1) := by decide +kernel
theorem dL_lay_178 : decode cL_lay 178 = .ok (.aload_n 1, 1) := by decide +kernel
theorem dL_lay_179 : decode cL_lay 179 = .ok (.aload_n 2, 1) := by decide +kernel
theorem dL_lay_180 : decode cL_lay 180 = .ok (.bipush 42, 2) := by decide +kernel
theorem dL_lay_182 : decode cL_lay 182 = .ok (.iload_n 3, 1) := by decide +kernel
theorem dL_lay_183 : decode cL_lay 183 = .ok (.iadd, 1) := by decide +kernel
theorem dL_lay_184 : decode cL_lay 184 = .ok (.iaload, 1) := by decide +kernel
theorem dL_lay_185 : decode cL_lay 185 = .ok (.invokestatic 55, 3) := by decide +kernel
theorem dL_lay_188 : decode cL_lay 188 = .ok (.aload_n 0, 1) := by decide +kernel
theorem dL_lay_189 : decode cL_lay 189 = .ok (.aload_n 1, 1) := by decide +kernel
theorem dL_lay_190 : decode cL_lay 190 = .ok (.ldc 72, 2) := by decide +kernel
theorem dL_lay_192 : decode cL_lay 192 = .ok (.invokestatic 45, 3) := by decide +kernel
theorem dL_lay_195 : decode cL_lay 195 = .ok (.aload_n 0, 1) := by decide +kernel
theorem dL_lay_196 : decode cL_lay 196 = .ok (.aload_n 1, 1) := by decide +kernel
theorem dL_lay_197 : decode cL_lay 197 = .ok (.bipush 112, 2) := by decide +kernel
theorem dL_lay_199 : decode cL_lay 199 = .ok (.iload_n 3, 1) := by decide +kernel
theorem dL_lay_200 : decode cL_lay 200 = .ok (.invokestatic 49, 3) := by decide +kernel
theorem dL_lay_203 : decode cL_lay 203 = .ok (.aload_n 0, 1) := by decide +kernel
theorem dL_lay_204 : decode cL_lay 204 = .ok (.aload_n 1, 1) := by decide +kernel
theorem dL_lay_205 : decode cL_lay 205 = .ok (.ldc 74, 2) := by decide +kernel
theorem dL_lay_207 : decode cL_lay 207 = .ok (.invokestatic 45, 3) := by decide +kernel
theorem dL_lay_210 : decode cL_lay 210 = .ok (.aload_n 0, 1) := by decide +kernel
theorem dL_lay_211 : decode cL_lay 211 = .ok (.aload_n 1, 1) := by decide +kernel
theorem dL_lay_212 : decode cL_lay 212 = .ok (.aload_n 2, 1) := by decide +kernel
theorem dL_lay_213 : decode cL_lay 213 = .ok (.bipush 48, 2) := by decide +kernel
theorem dL_lay_215 : decode cL_lay 215 = .ok (.iload_n 3, 1) := by decide +kernel
theorem dL_lay_216 : decode cL_lay 216 = .ok (.iadd, 1) := by decide +kernel
theorem dL_lay_217 : decode cL_lay 217 = .ok (.iaload, 1) := by decide +kernel
theorem dL_lay_218 : decode cL_lay 218 = .ok (.invokestatic 55, 3) := by decide +kernel
theorem dL_lay_221 : decode cL_lay 221 = .ok (.aload_n 0, 1) := by decide +kernel
theorem dL_lay_222 : decode cL_lay 222 = .ok (.aload_n 1, 1) := by decide +kernel
theorem dL_lay_223 : decode cL_lay 223 = .ok (.ldc 62, 2) := by decide +kernel
theorem dL_lay_225 : decode cL_lay 225 = .ok (.invokestatic 45, 3) := by decide +kernel
theorem dL_lay_228 : decode cL_lay 228 = .ok (.iinc 3 1, 3) := by decide +kernel
theorem dL_lay_231 : decode cL_lay 231 = .ok (.goto (-83), 3) := by decide +kernel
theorem dL_lay_234 : decode cL_lay 234 = .ok (.iconst 0, 1) := by decide +kernel
theorem dL_lay_235 : decode cL_lay 235 = .ok (.istore_n 3, 1) := by decide +kernel
theorem dL_lay_236 : decode cL_lay 236 = .ok (.iload_n 3, 1) := by decide +kernel
theorem dL_lay_237 : decode cL_lay 237 = .ok (.aload_n 2, 1) := by decide +kernel
theorem dL_lay_238 : decode cL_lay 238 = .ok (.iconst 0, 1) := by decide +kernel
theorem dL_lay_239 : decode cL_lay 239 = .ok (.iaload, 1) := by decide +kernel
theorem dL_lay_240 : decode cL_lay 240 = .ok (.if_icmp .ge 74, 3) := by decide +kernel
theorem dL_lay_243 : decode cL_lay 243 = .ok (.iconst 0, 1) := by decide +kernel
theorem dL_lay_244 : decode cL_lay 244 = .ok (.istore 4, 2) := by decide +kernel
theorem dL_lay_246 : decode cL_lay 246 = .ok (.iload 4, 2) := by decide +kernel
theorem dL_lay_248 : decode cL_lay 248 = .ok (.aload_n 2, 1) := by decide +kernel
theorem dL_lay_249 : decode cL_lay 249 = .ok (.iconst 1, 1) := by decide +kernel
theorem dL_lay_250 : decode cL_lay 250 = .ok (.iaload, 1) := by decide +kernel
theorem dL_lay_251 : decode cL_lay 251 = .ok (.if_icmp .ge 57, 3) := by decide +kernel
theorem dL_lay_254 : decode cL_lay 254 = .ok (.aload_n 2, 1) := by decide +kernel
theorem dL_lay_255 : decode cL_lay 255 = .ok (.bipush 28, 2) := by decide +kernel
theorem dL_lay_257 : decode cL_lay 257 = .ok (.iload_n 3, 1) := by decide +kernel
theorem dL_lay_258 : decode cL_lay 258 = .ok (.iadd, 1) := by decide +kernel
theorem dL_lay_259 : decode cL_lay 259 = .ok (.iaload, 1) := by decide +kernel
theorem dL_lay_260 : decode cL_lay 260 = .ok (.iload 4, 2) := by decide +kernel
theorem dL_lay_262 : decode cL_lay 262 = .ok (.ishr, 1) := by decide +kernel
theorem dL_lay_263 : decode cL_lay 263 = .ok (.iconst 1, 1) := by decide +kernel
theorem dL_lay_264 : decode cL_lay 264 = .ok (.iand, 1) := by decide +kernel
theorem dL_lay_265 : decode cL_lay 265 = .ok (.ifCond .ne 6, 3) := by decide +kernel
theorem dL_lay_268 : decode cL_lay 268 = .ok (.goto 34, 3) := by decide +kernel
theorem dL_lay_271 : decode cL_lay 271 = .ok (.aload_n 0, 1) := by decide +kernel
theorem dL_lay_272 : decode cL_lay 272 = .ok (.aload_n 1, 1) := by decide +kernel
theorem dL_lay_273 : decode cL_lay 273 = .ok (.ldc 76, 2) := by decide +kernel
theorem dL_lay_275 : decode cL_lay 275 = .ok (.invokestatic 45, 3) := by decide +kernel
theorem dL_lay_278 : decode cL_lay 278 = .ok (.aload_n 0, 1) := by decide +kernel
theorem dL_lay_279 : decode cL_lay 279 = .ok (.aload_n 1, 1) := by decide +kernel
theorem dL_lay_280 : decode cL_lay 280 = .ok (.bipush 99, 2) := by decide +kernel
theorem dL_lay_282 : decode cL_lay 282 = .ok (.iload_n 3, 1) := by decide +kernel
theorem dL_lay_283 : decode cL_lay 283 = .ok (.invokestatic 49, 3) := by decide +kernel
theorem dL_lay_286 : decode cL_lay 286 = .ok (.aload_n 0, 1) := by decide +kernel
theorem dL_lay_287 : decode cL_lay 287 = .ok (.aload_n 1, 1) := by decide +kernel
theorem dL_lay_288 : decode cL_lay 288 = .ok (.bipush 115, 2) := by decide +kernel
theorem dL_lay_290 : decode cL_lay 290 = .ok (.iload 4, 2) := by decide +kernel
theorem dL_lay_292 : decode cL_lay 292 = .ok (.invokestatic 49, 3) := by decide +kernel
theorem dL_lay_295 : decode cL_lay 295 = .ok (.aload_n 0, 1) := by decide +kernel
theorem dL_lay_296 : decode cL_lay 296 = .ok (.aload_n 1, 1) := by decide +kernel
theorem dL_lay_297 : decode cL_lay 297 = .ok (.ldc 62, 2) := by decide +kernel
theorem dL_lay_299 : decode cL_lay 299 = .ok (.invokestatic 45, 3) := by decide +kernel
theorem dL_lay_302 : decode cL_lay 302 = .ok (.iinc 4 1, 3) := by decide +kernel
theorem dL_lay_305 : decode cL_lay 305 = .ok (.goto (-59), 3) := by decide +kernel
theorem dL_lay_308 : decode cL_lay 308 = .ok (.iinc 3 1, 3) := by decide +kernel
theorem dL_lay_311 : decode cL_lay 311 = .ok (.goto (-75), 3) := by decide +kernel
theorem dL_lay_314 : decode cL_lay 314 = .ok (.aload_n 2, 1) := by decide +kernel
theorem dL_lay_315 : decode cL_lay 315 = .ok (.iconst 3, 1) := by decide +kernel
theorem dL_lay_316 : decode cL_lay 316 = .ok (.iaload, 1) := by decide +kernel
theorem dL_lay_317 : decode cL_lay 317 = .ok (.ifCond .le 10, 3) := by decide +kernel
theorem dL_lay_320 : decode cL_lay 320 = .ok (.aload_n 0, 1) := by decide +kernel
theorem dL_lay_321 : decode cL_lay 321 = .ok (.aload_n 1, 1) := by decide +kernel
theorem dL_lay_322 : decode cL_lay 322 = .ok (.ldc 78, 2) := by decide +kernel
theorem dL_lay_324 : decode cL_lay 324 = .ok (.invokestatic 45, 3) := by decide +kernel
theorem dL_lay_327 : decode cL_lay 327 = .ok (.iconst 0, 1) := by decide +kernel
theorem dL_lay_328 : decode cL_lay 328 = .ok (.istore_n 3, 1) := by decide +kernel
theorem dL_lay_329 : decode cL_lay 329 = .ok (.iload_n 3, 1) := by decide +kernel
theorem dL_lay_330 : decode cL_lay 330 = .ok (.aload_n 2, 1) := by decide +kernel
theorem dL_lay_331 : decode cL_lay 331 = .ok (.iconst 3, 1) := by decide +kernel
theorem dL_lay_332 : decode cL_lay 332 = .ok (.iaload, 1) := by decide +kernel
theorem dL_lay_333 : decode cL_lay 333 = .ok (.if_icmp .ge 22, 3) := by decide +kernel
theorem dL_lay_336 : decode cL_lay 336 = .ok (.aload_n 0, 1) := by decide +kernel
theorem dL_lay_337 : decode cL_lay 337 = .ok (.aload_n 1, 1) := by decide +kernel
theorem dL_lay_338 : decode cL_lay 338 = .ok (.bipush 99, 2) := by decide +kernel
theorem dL_lay_340 : decode cL_lay 340 = .ok (.aload_n 2, 1) := by decide +kernel
theorem dL_lay_341 : decode cL_lay 341 = .ok (.bipush 54, 2) := by decide +kernel
theorem dL_lay_343 : decode cL_lay 343 = .ok (.iload_n 3, 1) := by decide +kernel
theorem dL_lay_344 : decode cL_lay 344 = .ok (.iadd, 1) := by decide +kernel
theorem dL_lay_345 : decode cL_lay 345 = .ok (.iaload, 1) := by decide +kernel
theorem dL_lay_346 : decode cL_lay 346 = .ok (.invokestatic 49, 3) := by decide +kernel
theorem dL_lay_349 : decode cL_lay 349 = .ok (.iinc 3 1, 3) := by decide +kernel
theorem dL_lay_352 : decode cL_lay 352 = .ok (.goto (-23), 3) := by decide +kernel
theorem dL_lay_355 : decode cL_lay 355 = .ok (.aload_n 2, 1) := by decide +kernel
theorem dL_lay_356 : decode cL_lay 356 = .ok (.iconst 3, 1) := by decide +kernel
theorem dL_lay_357 : decode cL_lay 357 = .ok (.iaload, 1) := by decide +kernel
theorem dL_lay_358 : decode cL_lay 358 = .ok (.ifCond .le 10, 3) := by decide +kernel
theorem dL_lay_361 : decode cL_lay 361 = .ok (.aload_n 0, 1) := by decide +kernel
theorem dL_lay_362 : decode cL_lay 362 = .ok (.aload_n 1, 1) := by decide +kernel
theorem dL_lay_363 : decode cL_lay 363 = .ok (.ldc 62, 2) := by decide +kernel
theorem dL_lay_365 : decode cL_lay 365 = .ok (.invokestatic 45, 3) := by decide +kernel
theorem dL_lay_368 : decode cL_lay 368 = .ok (.aload_n 0, 1) := by decide +kernel
theorem dL_lay_369 : decode cL_lay 369 = .ok (.aload_n 1, 1) := by decide +kernel
theorem dL_lay_370 : decode cL_lay 370 = .ok (.invokestatic 80, 3) := by decide +kernel
theorem dL_lay_373 : decode cL_lay 373 = .ok (.aload_n 2, 1) := by decide +kernel
theorem dL_lay_374 : decode cL_lay 374 = .ok (.iconst 0, 1) := by decide +kernel
theorem dL_lay_375 : decode cL_lay 375 = .ok (.iaload, 1) := by decide +kernel
theorem dL_lay_376 : decode cL_lay 376 = .ok (.if_icmp .ne 7, 3) := by decide +kernel
theorem dL_lay_379 : decode cL_lay 379 = .ok (.iconst 1, 1) := by decide +kernel
theorem dL_lay_380 : decode cL_lay 380 = .ok (.goto 4, 3) := by decide +kernel
theorem dL_lay_383 : decode cL_lay 383 = .ok (.iconst 0, 1) := by decide +kernel
theorem dL_lay_384 : decode cL_lay 384 = .ok (.ireturn, 1) := by decide +kernel
theorem dL_draw_0 : decode cL_draw 0 = .ok (.aload_n 0, 1) := by decide +kernel
theorem dL_draw_1 : decode cL_draw 1 = .ok (.arraylength, 1) := by decide +kernel
theorem dL_draw_2 : decode cL_draw 2 = .ok (.ifCond .ne 9, 3) := by decide +kernel
theorem dL_draw_5 : decode cL_draw 5 = .ok (.sipush 7919, 3) := by decide +kernel
theorem dL_draw_8 : decode cL_draw 8 = .ok (.goto 6, 3) := by decide +kernel
theorem dL_draw_11 : decode cL_draw 11 = .ok (.aload_n 0, 1) := by decide +kernel
theorem dL_draw_12 : decode cL_draw 12 = .ok (.iconst 0, 1) := by decide +kernel
theorem dL_draw_13 : decode cL_draw 13 = .ok (.iaload, 1) := by decide +kernel
theorem dL_draw_14 : decode cL_draw 14 = .ok (.istore_n 3, 1) := by decide +kernel
theorem dL_draw_15 : decode cL_draw 15 = .ok (.aload_n 2, 1) := by decide +kernel
theorem dL_draw_16 : decode cL_draw 16 = .ok (.iconst 0, 1) := by decide +kernel
theorem dL_draw_17 : decode cL_draw 17 = .ok (.iconst 1, 1) := by decide +kernel
theorem dL_draw_18 : decode cL_draw 18 = .ok (.iload_n 3, 1) := by decide +kernel
theorem dL_draw_19 : decode cL_draw 19 = .ok (.bipush 7, 2) := by decide +kernel
theorem dL_draw_21 : decode cL_draw 21 = .ok (.iand, 1) := by decide +kernel
theorem dL_draw_22 : decode cL_draw 22 = .ok (.iload_n 1, 1) := by decide +kernel
theorem dL_draw_23 : decode cL_draw 23 = .ok (.irem, 1) := by decide +kernel
theorem dL_draw_24 : decode cL_draw 24 = .ok (.iadd, 1) := by decide +kernel
theorem dL_draw_25 : decode cL_draw 25 = .ok (.iastore, 1) := by decide +kernel
theorem dL_draw_26 : decode cL_draw 26 = .ok (.aload_n 2, 1) := by decide +kernel
theorem dL_draw_27 : decode cL_draw 27 = .ok (.iconst 1, 1) := by decide +kernel
theorem dL_draw_28 : decode cL_draw 28 = .ok (.iconst 1, 1) := by decide +kernel
theorem dL_draw_29 : decode cL_draw 29 = .ok (.iload_n 3, 1) := by decide +kernel
theorem dL_draw_30 : decode cL_draw 30 = .ok (.iconst 3, 1) := by decide +kernel
theorem dL_draw_31 : decode cL_draw 31 = .ok (.ishr, 1) := by decide +kernel
theorem dL_draw_32 : decode cL_draw 32 = .ok (.iconst 3, 1) := by decide +kernel
theorem dL_draw_33 : decode cL_draw 33 = .ok (.iand, 1) := by decide +kernel
theorem dL_draw_34 : decode cL_draw 34 = .ok (.iadd, 1) := by decide +kernel
theorem dL_draw_35 : decode cL_draw 35 = .ok (.iastore, 1) := by decide +kernel
theorem dL_draw_36 : decode cL_draw 36 = .ok (.aload_n 2, 1) := by decide +kernel
theorem dL_draw_37 : decode cL_draw 37 = .ok (.iconst 2, 1) := by decide +kernel
theorem dL_draw_38 : decode cL_draw 38 = .ok (.iconst 1, 1) := by decide +kernel
theorem dL_draw_39 : decode cL_draw 39 = .ok (.iload_n 3, 1) := by decide +kernel
theorem dL_draw_40 : decode cL_draw 40 = .ok (.iconst 5, 1) := by decide +kernel
theorem dL_draw_41 : decode cL_draw 41 = .ok (.ishr, 1) := by decide +kernel
theorem dL_draw_42 : decode cL_draw 42 = .ok (.iconst 3, 1) := by decide +kernel
theorem dL_draw_43 : decode cL_draw 43 = .ok (.iand, 1) := by decide +kernel
theorem dL_draw_44 : decode cL_draw 44 = .ok (.iadd, 1) := by decide +kernel
theorem dL_draw_45 : decode cL_draw 45 = .ok (.iastore, 1) := by decide +kernel
theorem dL_draw_46 : decode cL_draw 46 = .ok (.iconst 0, 1) := by decide +kernel
theorem dL_draw_47 : decode cL_draw 47 = .ok (.istore 4, 2) := by decide +kernel
theorem dL_draw_49 : decode cL_draw 49 = .ok (.iload 4, 2) := by decide +kernel
theorem dL_draw_51 : decode cL_draw 51 = .ok (.bipush 8, 2) := by decide +kernel
theorem dL_draw_53 : decode cL_draw 53 = .ok (.if_icmp .ge 125, 3) := by decide +kernel
theorem dL_draw_56 : decode cL_draw 56 = .ok (.iload 4, 2) := by decide +kernel
theorem dL_draw_58 : decode cL_draw 58 = .ok (.bipush 6, 2) := by decide +kernel
theorem dL_draw_60 : decode cL_draw 60 = .ok (.irem, 1) := by decide +kernel
theorem dL_draw_61 : decode cL_draw 61 = .ok (.iconst 1, 1) := by decide +kernel
theorem dL_draw_62 : decode cL_draw 62 = .ok (.iadd, 1) := by decide +kernel
theorem dL_draw_63 : decode cL_draw 63 = .ok (.aload_n 0, 1) := by decide +kernel
theorem dL_draw_64 : decode cL_draw 64 = .ok (.arraylength, 1) := by decide +kernel
theorem dL_draw_65 : decode cL_draw 65 = .ok (.if_icmp .ge 15, 3) := by decide +kernel
theorem dL_draw_68 : decode cL_draw 68 = .ok (.aload_n 0, 1) := by decide +kernel
theorem dL_draw_69 : decode cL_draw 69 = .ok (.iload 4, 2) := by decide +kernel
theorem dL_draw_71 : decode cL_draw 71 = .ok (.bipush 6, 2) := by decide +kernel
theorem dL_draw_73 : decode cL_draw 73 = .ok (.irem, 1) := by decide +kernel
theorem dL_draw_74 : decode cL_draw 74 = .ok (.iconst 1, 1) := by decide +kernel
theorem dL_draw_75 : decode cL_draw 75 = .ok (.iadd, 1) := by decide +kernel
theorem dL_draw_76 : decode cL_draw 76 = .ok (.iaload, 1) := by decide +kernel
theorem dL_draw_77 : decode cL_draw 77 = .ok (.goto 11, 3) := by decide +kernel
theorem dL_draw_80 : decode cL_draw 80 = .ok (.sipush 2017, 3) := by decide +kernel
theorem dL_draw_83 : decode cL_draw 83 = .ok (.iload 4, 2) := by decide +kernel
theorem dL_draw_85 : decode cL_draw 85 = .ok (.imul, 1) := by decide +kernel
theorem dL_draw_86 : decode cL_draw 86 = .ok (.iload_n 3, 1) := by decide +kernel
theorem dL_draw_87 : decode cL_draw 87 = .ok (.iadd, 1) := by decide +kernel
theorem dL_draw_88 : decode cL_draw 88 = .ok (.istore 5, 2) := by decide +kernel
theorem dL_draw_90 : decode cL_draw 90 = .ok (.aload_n 2, 1) := by decide +kernel
theorem dL_draw_91 : decode cL_draw 91 = .ok (.iconst 4, 1) := by decide +kernel
theorem dL_draw_92 : decode cL_draw 92 = .ok (.iload 4, 2) := by decide +kernel
theorem dL_draw_94 : decode cL_draw 94 = .ok (.iadd, 1) := by decide +kernel
theorem dL_draw_95 : decode cL_draw 95 = .ok (.iload 5, 2) := by decide +kernel
theorem dL_draw_97 : decode cL_draw 97 = .ok (.bipush 15, 2) := by decide +kernel
theorem dL_draw_99 : decode cL_draw 99 = .ok (.iand, 1) := by decide +kernel
theorem dL_draw_100 : decode cL_draw 100 = .ok (.bipush 11, 2) := by decide +kernel
theorem dL_draw_102 : decode cL_draw 102 = .ok (.irem, 1) := by decide +kernel
theorem dL_draw_103 : decode cL_draw 103 = .ok (.iastore, 1) := by decide +kernel
theorem dL_draw_104 : decode cL_draw 104 = .ok (.aload_n 2, 1) := by decide +kernel
theorem dL_draw_105 : decode cL_draw 105 = .ok (.bipush 12, 2) := by decide +kernel
theorem dL_draw_107 : decode cL_draw 107 = .ok (.iload 4, 2) := by decide +kernel
theorem dL_draw_109 : decode cL_draw 109 = .ok (.iadd, 1) := by decide +kernel
theorem dL_draw_110 : decode cL_draw 110 = .ok (.iload 5, 2) := by decide +kernel
theorem dL_draw_112 : decode cL_draw 112 = .ok (.iconst 4, 1) := by decide +kernel
theorem dL_draw_113 : decode cL_draw 113 = .ok (.ishr, 1) := by decide +kernel
theorem dL_draw_114 : decode cL_draw 114 = .ok (.bipush 7, 2) := by decide +kernel
theorem dL_draw_116 : decode cL_draw 116 = .ok (.iand, 1) := by decide +kernel
theorem dL_draw_117 : decode cL_draw 117 = .ok (.ifCond .ne 7, 3) := by decide +kernel
theorem dL_draw_120 : decode cL_draw 120 = .ok (.iconst 1, 1) := by decide +kernel
theorem dL_draw_121 : decode cL_draw 121 = .ok (.goto 4, 3) := by decide +kernel
theorem dL_draw_124 : decode cL_draw 124 = .ok (.iconst 0, 1) := by decide +kernel
theorem dL_draw_125 : decode cL_draw 125 = .ok (.iastore, 1) := by decide +kernel
theorem dL_draw_126 : decode cL_draw 126 = .ok (.aload_n 2, 1) := by decide +kernel
theorem dL_draw_127 : decode cL_draw 127 = .ok (.bipush 20, 2) := by decide +kernel
theorem dL_draw_129 : decode cL_draw 129 = .ok (.iload 4, 2) := by decide +kernel
theorem dL_draw_131 : decode cL_draw 131 = .ok (.iadd, 1) := by decide +kernel
theorem dL_draw_132 : decode cL_draw 132 = .ok (.iload 5, 2) := by decide +kernel
theorem dL_draw_134 : decode cL_draw 134 = .ok (.bipush 7, 2) := by decide +kernel
theorem dL_draw_136 : decode cL_draw 136 = .ok (.ishr, 1) := by decide +kernel
theorem dL_draw_137 : decode cL_draw 137 = .ok (.bipush 7, 2) := by decide +kernel
theorem dL_draw_139 : decode cL_draw 139 = .ok (.iand, 1) := by decide +kernel
theorem dL_draw_140 : decode cL_draw 140 = .ok (.ifCond .ne 7, 3) := by decide +kernel
theorem dL_draw_143 : decode cL_draw 143 = .ok (.iconst 1, 1) := by decide +kernel
theorem dL_draw_144 : decode cL_draw 144 = .ok (.goto 4, 3) := by decide +kernel
theorem dL_draw_147 : decode cL_draw 147 = .ok (.iconst 0, 1) := by decide +kernel
theorem dL_draw_148 : decode cL_draw 148 = .ok (.iastore, 1) := by decide +kernel
theorem dL_draw_149 : decode cL_draw 149 = .ok (.aload_n 2, 1) := by decide +kernel
theorem dL_draw_150 : decode cL_draw 150 = .ok (.bipush 28, 2) := by decide +kernel
theorem dL_draw_152 : decode cL_draw 152 = .ok (.iload 4, 2) := by decide +kernel
theorem dL_draw_154 : decode cL_draw 154 = .ok (.iadd, 1) := by decide +kernel
theorem dL_draw_155 : decode cL_draw 155 = .ok (.iload 5, 2) := by decide +kernel
theorem dL_draw_157 : decode cL_draw 157 = .ok (.iconst 3, 1) := by decide +kernel
theorem dL_draw_158 : decode cL_draw 158 = .ok (.ishr, 1) := by decide +kernel
theorem dL_draw_159 : decode cL_draw 159 = .ok (.bipush 15, 2) := by decide +kernel
theorem dL_draw_161 : decode cL_draw 161 = .ok (.iand, 1) := by decide +kernel
theorem dL_draw_162 : decode cL_draw 162 = .ok (.iload 5, 2) := by decide +kernel
theorem dL_draw_164 : decode cL_draw 164 = .ok (.bipush 6, 2) := by decide +kernel
theorem dL_draw_166 : decode cL_draw 166 = .ok (.ishr, 1) := by decide +kernel
theorem dL_draw_167 : decode cL_draw 167 = .ok (.bipush 15, 2) := by decide +kernel
theorem dL_draw_169 : decode cL_draw 169 = .ok (.iand, 1) := by decide +kernel
theorem dL_draw_170 : decode cL_draw 170 = .ok (.iand, 1) := by decide +kernel
theorem dL_draw_171 : decode cL_draw 171 = .ok (.iastore, 1) := by decide +kernel
theorem dL_draw_172 : decode cL_draw 172 = .ok (.iinc 4 1, 3) := by decide +kernel
theorem dL_draw_175 : decode cL_draw 175 = .ok (.goto (-126), 3) := by decide +kernel
theorem dL_draw_178 : decode cL_draw 178 = .ok (.iconst 0, 1) := by decide +kernel
theorem dL_draw_179 : decode cL_draw 179 = .ok (.istore 4, 2) := by decide +kernel
theorem dL_draw_181 : decode cL_draw 181 = .ok (.iload 4, 2) := by decide +kernel
theorem dL_draw_183 : decode cL_draw 183 = .ok (.bipush 6, 2) := by decide +kernel
theorem dL_draw_185 : decode cL_draw 185 = .ok (.if_icmp .ge 87, 3) := by decide +kernel
theorem dL_draw_188 : decode cL_draw 188 = .ok (.iload 4, 2) := by decide +kernel
theorem dL_draw_190 : decode cL_draw 190 = .ok (.iconst 1, 1) := by decide +kernel
theorem dL_draw_191 : decode cL_draw 191 = .ok (.iadd, 1) := by decide +kernel
theorem dL_draw_192 : decode cL_draw 192 = .ok (.aload_n 0, 1) := by decide +kernel
theorem dL_draw_193 : decode cL_draw 193 = .ok (.arraylength, 1) := by decide +kernel
theorem dL_draw_194 : decode cL_draw 194 = .ok (.if_icmp .ge 14, 3) := by decide +kernel
theorem dL_draw_197 : decode cL_draw 197 = .ok (.aload_n 0, 1) := by decide +kernel
theorem dL_draw_198 : decode cL_draw 198 = .ok (.iload 4, 2) := by decide +kernel
theorem dL_draw_200 : decode cL_draw 200 = .ok (.iconst 1, 1) := by decide +kernel
theorem dL_draw_201 : decode cL_draw 201 = .ok (.iadd, 1) := by decide +kernel
theorem dL_draw_202 : decode cL_draw 202 = .ok (.iaload, 1) := by decide +kernel
theorem dL_draw_203 : decode cL_draw 203 = .ok (.iconst 1, 1) := by decide +kernel
theorem dL_draw_204 : decode cL_draw 204 = .ok (.ishr, 1) := by decide +kernel
theorem dL_draw_205 : decode cL_draw 205 = .ok (.goto 11, 3) := by decide +kernel
theorem dL_draw_208 : decode cL_draw 208 = .ok (.sipush 883, 3) := by decide +kernel
theorem dL_draw_211 : decode cL_draw 211 = .ok (.iload 4, 2) := by decide +kernel
theorem dL_draw_213 : decode cL_draw 213 = .ok (.imul, 1) := by decide +kernel
theorem dL_draw_214 : decode cL_draw 214 = .ok (.iload_n 3, 1) := by decide +kernel
theorem dL_draw_215 : decode cL_draw 215 = .ok (.iadd, 1) := by decide +kernel
theorem dL_draw_216 : decode cL_draw 216 = .ok (.istore 5, 2) := by decide +kernel
theorem dL_draw_218 : decode cL_draw 218 = .ok (.aload_n 2, 1) := by decide +kernel
theorem dL_draw_219 : decode cL_draw 219 = .ok (.bipush 36, 2) := by decide +kernel
theorem dL_draw_221 : decode cL_draw 221 = .ok (.iload 4, 2) := by decide +kernel
theorem dL_draw_223 : decode cL_draw 223 = .ok (.iadd, 1) := by decide +kernel
theorem dL_draw_224 : decode cL_draw 224 = .ok (.iconst 1, 1) := by decide +kernel
theorem dL_draw_225 : decode cL_draw 225 = .ok (.iload 5, 2) := by decide +kernel
theorem dL_draw_227 : decode cL_draw 227 = .ok (.bipush 15, 2) := by decide +kernel
theorem dL_draw_229 : decode cL_draw 229 = .ok (.iand, 1) := by decide +kernel
theorem dL_draw_230 : decode cL_draw 230 = .ok (.bipush 12, 2) := by decide +kernel
theorem dL_draw_232 : decode cL_draw 232 = .ok (.irem, 1) := by decide +kernel
theorem dL_draw_233 : decode cL_draw 233 = .ok (.iadd, 1) := by decide +kernel
theorem dL_draw_234 : decode cL_draw 234 = .ok (.iastore, 1) := by decide +kernel
theorem dL_draw_235 : decode cL_draw 235 = .ok (.aload_n 2, 1) := by decide +kernel
theorem dL_draw_236 : decode cL_draw 236 = .ok (.bipush 42, 2) := by decide +kernel
theorem dL_draw_238 : decode cL_draw 238 = .ok (.iload 4, 2) := by decide +kernel
theorem dL_draw_240 : decode cL_draw 240 = .ok (.iadd, 1) := by decide +kernel
theorem dL_draw_241 : decode cL_draw 241 = .ok (.iload 5, 2) := by decide +kernel
theorem dL_draw_243 : decode cL_draw 243 = .ok (.iconst 3, 1) := by decide +kernel
theorem dL_draw_244 : decode cL_draw 244 = .ok (.ishr, 1) := by decide +kernel
theorem dL_draw_245 : decode cL_draw 245 = .ok (.bipush 31, 2) := by decide +kernel
theorem dL_draw_247 : decode cL_draw 247 = .ok (.iand, 1) := by decide +kernel
theorem dL_draw_248 : decode cL_draw 248 = .ok (.iastore, 1) := by decide +kernel
theorem dL_draw_249 : decode cL_draw 249 = .ok (.aload_n 2, 1) := by decide +kernel
theorem dL_draw_250 : decode cL_draw 250 = .ok (.bipush 48, 2) := by decide +kernel
theorem dL_draw_252 : decode cL_draw 252 = .ok (.iload 4, 2) := by decide +kernel
theorem dL_draw_254 : decode cL_draw 254 = .ok (.iadd, 1) := by decide +kernel
theorem dL_draw_255 : decode cL_draw 255 = .ok (.iload 5, 2) := by decide +kernel
theorem dL_draw_257 : decode cL_draw 257 = .ok (.iconst 4, 1) := by decide +kernel
theorem dL_draw_258 : decode cL_draw 258 = .ok (.ishr, 1) := by decide +kernel
theorem dL_draw_259 : decode cL_draw 259 = .ok (.bipush 31, 2) := by decide +kernel
theorem dL_draw_261 : decode cL_draw 261 = .ok (.iand, 1) := by decide +kernel
theorem dL_draw_262 : decode cL_draw 262 = .ok (.bipush 17, 2) := by decide +kernel
theorem dL_draw_264 : decode cL_draw 264 = .ok (.irem, 1) := by decide +kernel
theorem dL_draw_265 : decode cL_draw 265 = .ok (.iastore, 1) := by decide +kernel
theorem dL_draw_266 : decode cL_draw 266 = .ok (.iinc 4 1, 3) := by decide +kernel
theorem dL_draw_269 : decode cL_draw 269 = .ok (.goto (-88), 3) := by decide +kernel
theorem dL_draw_272 : decode cL_draw 272 = .ok (.aload_n 2, 1) := by decide +kernel
theorem dL_draw_273 : decode cL_draw 273 = .ok (.iconst 3, 1) := by decide +kernel
theorem dL_draw_274 : decode cL_draw 274 = .ok (.iload_n 3, 1) := by decide +kernel
theorem dL_draw_275 : decode cL_draw 275 = .ok (.bipush 7, 2) := by decide +kernel
theorem dL_draw_277 : decode cL_draw 277 = .ok (.ishr, 1) := by decide +kernel
theorem dL_draw_278 : decode cL_draw 278 = .ok (.iconst 1, 1) := by decide +kernel
theorem dL_draw_279 : decode cL_draw 279 = .ok (.iand, 1) := by decide +kernel
theorem dL_draw_280 : decode cL_draw 280 = .ok (.ifCond .ne 7, 3) := by decide +kernel
theorem dL_draw_283 : decode cL_draw 283 = .ok (.iconst 0, 1) := by decide +kernel
theorem dL_draw_284 : decode cL_draw 284 = .ok (.goto 16, 3) := by decide +kernel
theorem dL_draw_287 : decode cL_draw 287 = .ok (.iconst 1, 1) := by decide +kernel
theorem dL_draw_288 : decode cL_draw 288 = .ok (.iload_n 3, 1) := by decide +kernel
theorem dL_draw_289 : decode cL_draw 289 = .ok (.bipush 8, 2) := by decide +kernel
theorem dL_draw_291 : decode cL_draw 291 = .ok (.ishr, 1) := by decide +kernel
theorem dL_draw_292 : decode cL_draw 292 = .ok (.bipush 7, 2) := by decide +kernel
theorem dL_draw_294 : decode cL_draw 294 = .ok (.iand, 1) := by decide +kernel
theorem dL_draw_295 : decode cL_draw 295 = .ok (.aload_n 2, 1) := by decide +kernel
theorem dL_draw_296 : decode cL_draw 296 = .ok (.iconst 0, 1) := by decide +kernel
theorem dL_draw_297 : decode cL_draw 297 = .ok (.iaload, 1) := by decide +kernel
theorem dL_draw_298 : decode cL_draw 298 = .ok (.irem, 1) := by decide +kernel
theorem dL_draw_299 : decode cL_draw 299 = .ok (.iadd, 1) := by decide +kernel
theorem dL_draw_300 : decode cL_draw 300 = .ok (.iastore, 1) := by decide +kernel
theorem dL_draw_301 : decode cL_draw 301 = .ok (.iload_n 3, 1) := by decide +kernel
theorem dL_draw_302 : decode cL_draw 302 = .ok (.iconst 2, 1) := by decide +kernel
theorem dL_draw_303 : decode cL_draw 303 = .ok (.ishr, 1) := by decide +kernel
theorem dL_draw_304 : decode cL_draw 304 = .ok (.bipush 7, 2) := by decide +kernel
theorem dL_draw_306 : decode cL_draw 306 = .ok (.iand, 1) := by decide +kernel
theorem dL_draw_307 : decode cL_draw 307 = .ok (.aload_n 2, 1) := by decide +kernel
theorem dL_draw_308 : decode cL_draw 308 = .ok (.iconst 0, 1) := by decide +kernel
theorem dL_draw_309 : decode cL_draw 309 = .ok (.iaload, 1) := by decide +kernel
theorem dL_draw_310 : decode cL_draw 310 = .ok (.irem, 1) := by decide +kernel
theorem dL_draw_311 : decode cL_draw 311 = .ok (.istore 4, 2) := by decide +kernel
theorem dL_draw_313 : decode cL_draw 313 = .ok (.iconst 0, 1) := by decide +kernel
theorem dL_draw_314 : decode cL_draw 314 = .ok (.istore 5, 2) := by decide +kernel
theorem dL_draw_316 : decode cL_draw 316 = .ok (.iload 5, 2) := by decide +kernel
theorem dL_draw_318 : decode cL_draw 318 = .ok (.aload_n 2, 1) := by decide +kernel
theorem dL_draw_319 : decode cL_draw 319 = .ok (.iconst 3, 1) := by decide +kernel
theorem dL_draw_320 : decode cL_draw 320 = .ok (.iaload, 1) := by decide +kernel
theorem dL_draw_321 : decode cL_draw 321 = .ok (.if_icmp .ge 25, 3) := by decide +kernel
theorem dL_draw_324 : decode cL_draw 324 = .ok (.aload_n 2, 1) := by decide +kernel
theorem dL_draw_325 : decode cL_draw 325 = .ok (.bipush 54, 2) := by decide +kernel
theorem dL_draw_327 : decode cL_draw 327 = .ok (.iload 5, 2) := by decide +kernel
theorem dL_draw_329 : decode cL_draw 329 = .ok (.iadd, 1) := by decide +kernel
theorem dL_draw_330 : decode cL_draw 330 = .ok (.iload 4, 2) := by decide +kernel
theorem dL_draw_332 : decode cL_draw 332 = .ok (.iload 5, 2) := by decide +kernel
theorem dL_draw_334 : decode cL_draw 334 = .ok (.iadd, 1) := by decide +kernel
theorem dL_draw_335 : decode cL_draw 335 = .ok (.aload_n 2, 1) := by decide +kernel
theorem dL_draw_336 : decode cL_draw 336 = .ok (.iconst 0, 1) := by decide +kernel
theorem dL_draw_337 : decode cL_draw 337 = .ok (.iaload, 1) := by decide +kernel
theorem dL_draw_338 : decode cL_draw 338 = .ok (.irem, 1) := by decide +kernel
theorem dL_draw_339 : decode cL_draw 339 = .ok (.iastore, 1) := by decide +kernel
theorem dL_draw_340 : decode cL_draw 340 = .ok (.iinc 5 1, 3) := by decide +kernel
theorem dL_draw_343 : decode cL_draw 343 = .ok (.goto (-27), 3) := by decide +kernel
theorem dL_draw_346 : decode cL_draw 346 = .ok (.aload_n 2, 1) := by decide +kernel
theorem dL_draw_347 : decode cL_draw 347 = .ok (.iconst 3, 1) := by decide +kernel
theorem dL_draw_348 : decode cL_draw 348 = .ok (.iaload, 1) := by decide +kernel
theorem dL_draw_349 : decode cL_draw 349 = .ok (.iconst 1, 1) := by decide +kernel
theorem dL_draw_350 : decode cL_draw 350 = .ok (.if_icmp .le 32, 3) := by decide +kernel
theorem dL_draw_353 : decode cL_draw 353 = .ok (.iload_n 3, 1) := by decide +kernel
theorem dL_draw_354 : decode cL_draw 354 = .ok (.iconst 4, 1) := by decide +kernel
theorem dL_draw_355 : decode cL_draw 355 = .ok (.ishr, 1) := by decide +kernel
theorem dL_draw_356 : decode cL_draw 356 = .ok (.iconst 1, 1) := by decide +kernel
theorem dL_draw_357 : decode cL_draw 357 = .ok (.iand, 1) := by decide +kernel
theorem dL_draw_358 : decode cL_draw 358 = .ok (.iconst 1, 1) := by decide +kernel
theorem dL_draw_359 : decode cL_draw 359 = .ok (.if_icmp .ne 23, 3) := by decide +kernel
theorem dL_draw_362 : decode cL_draw 362 = .ok (.aload_n 2, 1) := by decide +kernel
theorem dL_draw_363 : decode cL_draw 363 = .ok (.bipush 54, 2) := by decide +kernel
theorem dL_draw_365 : decode cL_draw 365 = .ok (.iaload, 1) := by decide +kernel
theorem dL_draw_366 : decode cL_draw 366 = .ok (.istore 5, 2) := by decide +kernel
theorem dL_draw_368 : decode cL_draw 368 = .ok (.aload_n 2, 1) := by decide +kernel
theorem dL_draw_369 : decode cL_draw 369 = .ok (.bipush 54, 2) := by decide +kernel
theorem dL_draw_371 : decode cL_draw 371 = .ok (.aload_n 2, 1) := by decide +kernel
theorem dL_draw_372 : decode cL_draw 372 = .ok (.bipush 55, 2) := by decide +kernel
theorem dL_draw_374 : decode cL_draw 374 = .ok (.iaload, 1) := by decide +kernel
theorem dL_draw_375 : decode cL_draw 375 = .ok (.iastore, 1) := by decide +kernel
theorem dL_draw_376 : decode cL_draw 376 = .ok (.aload_n 2, 1) := by decide +kernel
theorem dL_draw_377 : decode cL_draw 377 = .ok (.bipush 55, 2) := by decide +kernel
theorem dL_draw_379 : decode cL_draw 379 = .ok (.iload 5, 2) := by decide +kernel
theorem dL_draw_381 : decode cL_draw 381 = .ok (.iastore, 1) := by decide +kernel
theorem dL_draw_382 : decode cL_draw 382 = .ok (.return_, 1) := by decide +kernel
theorem dL_law_0 : decode cL_law 0 = .ok (.new 18, 3) := by decide +kernel
theorem dL_law_3 : decode cL_law 3 = .ok (.dup, 1) := by decide +kernel
theorem dL_law_4 : decode cL_law 4 = .ok (.invokespecial 110, 3) := by decide +kernel
theorem dL_law_7 : decode cL_law 7 = .ok (.astore_n 1, 1) := by decide +kernel
theorem dL_law_8 : decode cL_law 8 = .ok (.bipush 24, 2) := by decide +kernel
theorem dL_law_10 : decode cL_law 10 = .ok (.newarray .int, 2) := by decide +kernel
theorem dL_law_12 : decode cL_law 12 = .ok (.astore_n 2, 1) := by decide +kernel
theorem dL_law_13 : decode cL_law 13 = .ok (.bipush 62, 2) := by decide +kernel
theorem dL_law_15 : decode cL_law 15 = .ok (.newarray .int, 2) := by decide +kernel
theorem dL_law_17 : decode cL_law 17 = .ok (.astore_n 3, 1) := by decide +kernel
theorem dL_law_18 : decode cL_law 18 = .ok (.aload_n 0, 1) := by decide +kernel
theorem dL_law_19 : decode cL_law 19 = .ok (.arraylength, 1) := by decide +kernel
theorem dL_law_20 : decode cL_law 20 = .ok (.ifCond .ne 7, 3) := by decide +kernel
theorem dL_law_23 : decode cL_law 23 = .ok (.iconst 5, 1) := by decide +kernel
theorem dL_law_24 : decode cL_law 24 = .ok (.goto 9, 3) := by decide +kernel
theorem dL_law_27 : decode cL_law 27 = .ok (.aload_n 0, 1) := by decide +kernel
theorem dL_law_28 : decode cL_law 28 = .ok (.aload_n 0, 1) := by decide +kernel
theorem dL_law_29 : decode cL_law 29 = .ok (.arraylength, 1) := by decide +kernel
theorem dL_law_30 : decode cL_law 30 = .ok (.iconst 1, 1) := by decide +kernel
theorem dL_law_31 : decode cL_law 31 = .ok (.isub, 1) := by decide +kernel
theorem dL_law_32 : decode cL_law 32 = .ok (.iaload, 1) := by decide +kernel
theorem dL_law_33 : decode cL_law 33 = .ok (.istore 4, 2) := by decide +kernel
theorem dL_law_35 : decode cL_law 35 = .ok (.aload_n 0, 1) := by decide +kernel
theorem dL_law_36 : decode cL_law 36 = .ok (.iconst 4, 1) := by decide +kernel
theorem dL_law_37 : decode cL_law 37 = .ok (.aload_n 3, 1) := by decide +kernel
theorem dL_law_38 : decode cL_law 38 = .ok (.invokestatic 111, 3) := by decide +kernel
theorem dL_law_41 : decode cL_law 41 = .ok (.aload_n 1, 1) := by decide +kernel
theorem dL_law_42 : decode cL_law 42 = .ok (.aload_n 2, 1) := by decide +kernel
theorem dL_law_43 : decode cL_law 43 = .ok (.aload_n 3, 1) := by decide +kernel
theorem dL_law_44 : decode cL_law 44 = .ok (.invokestatic 115, 3) := by decide +kernel
theorem dL_law_47 : decode cL_law 47 = .ok (.ifCond .ne 5, 3) := by decide +kernel
theorem dL_law_50 : decode cL_law 50 = .ok (.iconst 0, 1) := by decide +kernel
theorem dL_law_51 : decode cL_law 51 = .ok (.ireturn, 1) := by decide +kernel
theorem dL_law_52 : decode cL_law 52 = .ok (.iconst 0, 1) := by decide +kernel
theorem dL_law_53 : decode cL_law 53 = .ok (.istore 5, 2) := by decide +kernel
theorem dL_law_55 : decode cL_law 55 = .ok (.iload 5, 2) := by decide +kernel
theorem dL_law_57 : decode cL_law 57 = .ok (.bipush 8, 2) := by decide +kernel
theorem dL_law_59 : decode cL_law 59 = .ok (.if_icmp .ge 1157, 3) := by decide +kernel
theorem dL_law_62 : decode cL_law 62 = .ok (.iload 5, 2) := by decide +kernel
theorem dL_law_64 : decode cL_law 64 = .ok (.aload_n 0, 1) := by decide +kernel
theorem dL_law_65 : decode cL_law 65 = .ok (.arraylength, 1) := by decide +kernel
theorem dL_law_66 : decode cL_law 66 = .ok (.if_icmp .ge 18, 3) := by decide +kernel
theorem dL_law_69 : decode cL_law 69 = .ok (.aload_n 0, 1) := by decide +kernel
theorem dL_law_70 : decode cL_law 70 = .ok (.iload 5, 2) := by decide +kernel
theorem dL_law_72 : decode cL_law 72 = .ok (.iaload, 1) := by decide +kernel
theorem dL_law_73 : decode cL_law 73 = .ok (.iconst 1, 1) := by decide +kernel
theorem dL_law_74 : decode cL_law 74 = .ok (.ishr, 1) := by decide +kernel
theorem dL_law_75 : decode cL_law 75 = .ok (.bipush 29, 2) := by decide +kernel
theorem dL_law_77 : decode cL_law 77 = .ok (.iload 5, 2) := by decide +kernel
theorem dL_law_79 : decode cL_law 79 = .ok (.imul, 1) := by decide +kernel
theorem dL_law_80 : decode cL_law 80 = .ok (.ixor, 1) := by decide +kernel
theorem dL_law_81 : decode cL_law 81 = .ok (.goto 12, 3) := by decide +kernel
theorem dL_law_84 : decode cL_law 84 = .ok (.sipush 337, 3) := by decide +kernel
theorem dL_law_87 : decode cL_law 87 = .ok (.iload 5, 2) := by decide +kernel
theorem dL_law_89 : decode cL_law 89 = .ok (.imul, 1) := by decide +kernel
theorem dL_law_90 : decode cL_law 90 = .ok (.iload 4, 2) := by decide +kernel
theorem dL_law_92 : decode cL_law 92 = .ok (.iadd, 1) := by decide +kernel
theorem dL_law_93 : decode cL_law 93 = .ok (.istore 6, 2) := by decide +kernel
theorem dL_law_95 : decode cL_law 95 = .ok (.iconst 0, 1) := by decide +kernel
theorem dL_law_96 : decode cL_law 96 = .ok (.istore 7, 2) := by decide +kernel
theorem dL_law_98 : decode cL_law 98 = .ok (.iconst 0, 1) := by decide +kernel
theorem dL_law_99 : decode cL_law 99 = .ok (.istore 8, 2) := by decide +kernel
theorem dL_law_101 : decode cL_law 101 = .ok (.iload 8, 2) := by decide +kernel
theorem dL_law_103 : decode cL_law 103 = .ok (.aload_n 3, 1) := by decide +kernel
theorem dL_law_104 : decode cL_law 104 = .ok (.iconst 2, 1) := by decide +kernel
theorem dL_law_105 : decode cL_law 105 = .ok (.iaload, 1) := by decide +kernel
theorem dL_law_106 : decode cL_law 106 = .ok (.if_icmp .ge 136, 3) := by decide +kernel
theorem dL_law_109 : decode cL_law 109 = .ok (.iconst 0, 1) := by decide +kernel
theorem dL_law_110 : decode cL_law 110 = .ok (.istore 9, 2) := by decide +kernel
theorem dL_law_112 : decode cL_law 112 = .ok (.iconst 0, 1) := by decide +kernel
theorem dL_law_113 : decode cL_law 113 = .ok (.istore 10, 2) := by decide +kernel
theorem dL_law_115 : decode cL_law 115 = .ok (.iload 10, 2) := by decide +kernel
theorem dL_law_117 : decode cL_law 117 = .ok (.aload_n 3, 1) := by decide +kernel
theorem dL_law_118 : decode cL_law 118 = .ok (.iconst 1, 1) := by decide +kernel
theorem dL_law_119 : decode cL_law 119 = .ok (.iaload, 1) := by decide +kernel
theorem dL_law_120 : decode cL_law 120 = .ok (.if_icmp .ge 77, 3) := by decide +kernel
theorem dL_law_123 : decode cL_law 123 = .ok (.aload_n 1, 1) := by decide +kernel
theorem dL_law_124 : decode cL_law 124 = .ok (.iload 8, 2) := by decide +kernel
theorem dL_law_126 : decode cL_law 126 = .ok (.iload 10, 2) := by decide +kernel
theorem dL_law_128 : decode cL_law 128 = .ok (.invokevirtual 119, 3) := by decide +kernel
theorem dL_law_131 : decode cL_law 131 = .ok (.istore 11, 2) := by decide +kernel
theorem dL_law_133 : decode cL_law 133 = .ok (.iload 11, 2) := by decide +kernel
theorem dL_law_135 : decode cL_law 135 = .ok (.ifCond .lt 47, 3) := by decide +kernel
theorem dL_law_138 : decode cL_law 138 = .ok (.iload 11, 2) := by decide +kernel
theorem dL_law_140 : decode cL_law 140 = .ok (.aload_n 3, 1) := by decide +kernel
theorem dL_law_141 : decode cL_law 141 = .ok (.bipush 36, 2) := by decide +kernel
theorem dL_law_143 : decode cL_law 143 = .ok (.iload 10, 2) := by decide +kernel
theorem dL_law_145 : decode cL_law 145 = .ok (.iadd, 1) := by decide +kernel
theorem dL_law_146 : decode cL_law 146 = .ok (.iaload, 1) := by decide +kernel
theorem dL_law_147 : decode cL_law 147 = .ok (.if_icmp .gt 35, 3) := by decide +kernel
theorem dL_law_150 : decode cL_law 150 = .ok (.aload_n 1, 1) := by decide +kernel
theorem dL_law_151 : decode cL_law 151 = .ok (.iload 8, 2) := by decide +kernel
theorem dL_law_153 : decode cL_law 153 = .ok (.iconst 3, 1) := by decide +kernel
theorem dL_law_154 : decode cL_law 154 = .ok (.invokevirtual 123, 3) := by decide +kernel
theorem dL_law_157 : decode cL_law 157 = .ok (.iload 10, 2) := by decide +kernel
theorem dL_law_159 : decode cL_law 159 = .ok (.ishr, 1) := by decide +kernel
theorem dL_law_160 : decode cL_law 160 = .ok (.iconst 1, 1) := by decide +kernel
theorem dL_law_161 : decode cL_law 161 = .ok (.iand, 1) := by decide +kernel
theorem dL_law_162 : decode cL_law 162 = .ok (.iload 11, 2) := by decide +kernel
theorem dL_law_164 : decode cL_law 164 = .ok (.aload_n 3, 1) := by decide +kernel
theorem dL_law_165 : decode cL_law 165 = .ok (.bipush 36, 2) := by decide +kernel
theorem dL_law_167 : decode cL_law 167 = .ok (.iload 10, 2) := by decide +kernel
theorem dL_law_169 : decode cL_law 169 = .ok (.iadd, 1) := by decide +kernel
theorem dL_law_170 : decode cL_law 170 = .ok (.iaload, 1) := by decide +kernel
theorem dL_law_171 : decode cL_law 171 = .ok (.if_icmp .ne 7, 3) := by decide +kernel
theorem dL_law_174 : decode cL_law 174 = .ok (.iconst 1, 1) := by decide +kernel
theorem dL_law_175 : decode cL_law 175 = .ok (.goto 4, 3) := by decide +kernel
theorem dL_law_178 : decode cL_law 178 = .ok (.iconst 0, 1) := by decide +kernel
theorem dL_law_179 : decode cL_law 179 = .ok (.if_icmp .eq 5, 3) := by decide +kernel
theorem dL_law_182 : decode cL_law 182 = .ok (.iconst 0, 1) := by decide +kernel
theorem dL_law_183 : decode cL_law 183 = .ok (.ireturn, 1) := by decide +kernel
theorem dL_law_184 : decode cL_law 184 = .ok (.iload 9, 2) := by decide +kernel
theorem dL_law_186 : decode cL_law 186 = .ok (.iload 11, 2) := by decide +kernel
theorem dL_law_188 : decode cL_law 188 = .ok (.iadd, 1) := by decide +kernel
theorem dL_law_189 : decode cL_law 189 = .ok (.istore 9, 2) := by decide +kernel
theorem dL_law_191 : decode cL_law 191 = .ok (.iinc 10 1, 3) := by decide +kernel
theorem dL_law_194 : decode cL_law 194 = .ok (.goto (-79), 3) := by decide +kernel
theorem dL_law_197 : decode cL_law 197 = .ok (.iload 9, 2) := by decide +kernel
theorem dL_law_199 : decode cL_law 199 = .ok (.aload_n 1, 1) := by decide +kernel
theorem dL_law_200 : decode cL_law 200 = .ok (.iload 8, 2) := by decide +kernel
theorem dL_law_202 : decode cL_law 202 = .ok (.iconst 2, 1) := by decide +kernel
theorem dL_law_203 : decode cL_law 203 = .ok (.invokevirtual 123, 3) := by decide +kernel
theorem dL_law_206 : decode cL_law 206 = .ok (.iadd, 1) := by decide +kernel
theorem dL_law_207 : decode cL_law 207 = .ok (.aload_n 3, 1) := by decide +kernel
theorem dL_law_208 : decode cL_law 208 = .ok (.bipush 42, 2) := by decide +kernel
theorem dL_law_210 : decode cL_law 210 = .ok (.iload 8, 2) := by decide +kernel
theorem dL_law_212 : decode cL_law 212 = .ok (.iadd, 1) := by decide +kernel
theorem dL_law_213 : decode cL_law 213 = .ok (.iaload, 1) := by decide +kernel
theorem dL_law_214 : decode cL_law 214 = .ok (.if_icmp .ne 13, 3) := by decide +kernel
theorem dL_law_217 : decode cL_law 217 = .ok (.aload_n 1, 1) := by decide +kernel
theorem dL_law_218 : decode cL_law 218 = .ok (.iload 8, 2) := by decide +kernel
theorem dL_law_220 : decode cL_law 220 = .ok (.iconst 2, 1) := by decide +kernel
theorem dL_law_221 : decode cL_law 221 = .ok (.invokevirtual 123, 3) := by decide +kernel
theorem dL_law_224 : decode cL_law 224 = .ok (.ifCond .ge 5, 3) := by decide +kernel
theorem dL_law_227 : decode cL_law 227 = .ok (.iconst 0, 1) := by decide +kernel
theorem dL_law_228 : decode cL_law 228 = .ok (.ireturn, 1) := by decide +kernel
theorem dL_law_229 : decode cL_law 229 = .ok (.iload 7, 2) := by decide +kernel
theorem dL_law_231 : decode cL_law 231 = .ok (.iload 9, 2) := by decide +kernel
theorem dL_law_233 : decode cL_law 233 = .ok (.iadd, 1) := by decide +kernel
theorem dL_law_234 : decode cL_law 234 = .ok (.istore 7, 2) := by decide +kernel
theorem dL_law_236 : decode cL_law 236 = .ok (.iinc 8 1, 3) := by decide +kernel
theorem dL_law_239 : decode cL_law 239 = .ok (.goto (-138), 3) := by decide +kernel
theorem dL_law_242 : decode cL_law 242 = .ok (.iconst 0, 1) := by decide +kernel
theorem dL_law_243 : decode cL_law 243 = .ok (.istore 8, 2) := by decide +kernel
theorem dL_law_245 : decode cL_law 245 = .ok (.iconst 0, 1) := by decide +kernel
theorem dL_law_246 : decode cL_law 246 = .ok (.istore 9, 2) := by decide +kernel
theorem dL_law_248 : decode cL_law 248 = .ok (.iload 9, 2) := by decide +kernel
theorem dL_law_250 : decode cL_law 250 = .ok (.aload_n 3, 1) := by decide +kernel
theorem dL_law_251 : decode cL_law 251 = .ok (.iconst 0, 1) := by decide +kernel
theorem dL_law_252 : decode cL_law 252 = .ok (.iaload, 1) := by decide +kernel
theorem dL_law_253 : decode cL_law 253 = .ok (.if_icmp .ge 21, 3) := by decide +kernel
theorem dL_law_256 : decode cL_law 256 = .ok (.iload 8, 2) := by decide +kernel
theorem dL_law_258 : decode cL_law 258 = .ok (.aload_n 1, 1) := by decide +kernel
theorem dL_law_259 : decode cL_law 259 = .ok (.iload 9, 2) := by decide +kernel
theorem dL_law_261 : decode cL_law 261 = .ok (.iconst 5, 1) := by decide +kernel
theorem dL_law_262 : decode cL_law 262 = .ok (.invokevirtual 125, 3) := by decide +kernel
theorem dL_law_265 : decode cL_law 265 = .ok (.iadd, 1) := by decide +kernel
theorem dL_law_266 : decode cL_law 266 = .ok (.istore 8, 2) := by decide +kernel
theorem dL_law_268 : decode cL_law 268 = .ok (.iinc 9 1, 3) := by decide +kernel
theorem dL_law_271 : decode cL_law 271 = .ok (.goto (-23), 3) := by decide +kernel
theorem dL_law_274 : decode cL_law 274 = .ok (.aload_n 1, 1) := by decide +kernel
theorem dL_law_275 : decode cL_law 275 = .ok (.iconst 5, 1) := by decide +kernel
theorem dL_law_276 : decode cL_law 276 = .ok (.invokevirtual 127, 3) := by decide +kernel
theorem dL_law_279 : decode cL_law 279 = .ok (.iload 7, 2) := by decide +kernel
theorem dL_law_281 : decode cL_law 281 = .ok (.if_icmp .ne 21, 3) := by decide +kernel
theorem dL_law_284 : decode cL_law 284 = .ok (.aload_n 1, 1) := by decide +kernel
theorem dL_law_285 : decode cL_law 285 = .ok (.bipush 6, 2) := by decide +kernel
theorem dL_law_287 : decode cL_law 287 = .ok (.invokevirtual 127, 3) := by decide +kernel
theorem dL_law_290 : decode cL_law 290 = .ok (.iload 8, 2) := by decide +kernel
theorem dL_law_292 : decode cL_law 292 = .ok (.if_icmp .ne 10, 3) := by decide +kernel
theorem dL_law_295 : decode cL_law 295 = .ok (.iload 8, 2) := by decide +kernel
theorem dL_law_297 : decode cL_law 297 = .ok (.iload 7, 2) := by decide +kernel
theorem dL_law_299 : decode cL_law 299 = .ok (.if_icmp .ge 5, 3) := by decide +kernel
theorem dL_law_302 : decode cL_law 302 = .ok (.iconst 0, 1) := by decide +kernel
theorem dL_law_303 : decode cL_law 303 = .ok (.ireturn, 1) := by decide +kernel
theorem dL_law_304 : decode cL_law 304 = .ok (.iload 6, 2) := by decide +kernel
theorem dL_law_306 : decode cL_law 306 = .ok (.iconst 3, 1) := by decide +kernel
theorem dL_law_307 : decode cL_law 307 = .ok (.iand, 1) := by decide +kernel
theorem dL_law_308 : decode cL_law 308 = .ok (.aload_n 3, 1) := by decide +kernel
theorem dL_law_309 : decode cL_law 309 = .ok (.iconst 1, 1) := by decide +kernel
theorem dL_law_310 : decode cL_law 310 = .ok (.iaload, 1) := by decide +kernel
theorem dL_law_311 : decode cL_law 311 = .ok (.irem, 1) := by decide +kernel
theorem dL_law_312 : decode cL_law 312 = .ok (.istore 9, 2) := by decide +kernel
theorem dL_law_314 : decode cL_law 314 = .ok (.iload 6, 2) := by decide +kernel
theorem dL_law_316 : decode cL_law 316 = .ok (.iconst 2, 1) := by decide +kernel
theorem dL_law_317 : decode cL_law 317 = .ok (.ishr, 1) := by decide +kernel
theorem dL_law_318 : decode cL_law 318 = .ok (.bipush 7, 2) := by decide +kernel
theorem dL_law_320 : decode cL_law 320 = .ok (.iand, 1) := by decide +kernel
theorem dL_law_321 : decode cL_law 321 = .ok (.aload_n 3, 1) := by decide +kernel
theorem dL_law_322 : decode cL_law 322 = .ok (.iconst 0, 1) := by decide +kernel
theorem dL_law_323 : decode cL_law 323 = .ok (.iaload, 1) := by decide +kernel
theorem dL_law_324 : decode cL_law 324 = .ok (.irem, 1) := by decide +kernel
theorem dL_law_325 : decode cL_law 325 = .ok (.istore 10, 2) := by decide +kernel
theorem dL_law_327 : decode cL_law 327 = .ok (.aload_n 1, 1) := by decide +kernel
theorem dL_law_328 : decode cL_law 328 = .ok (.iload 10, 2) := by decide +kernel
theorem dL_law_330 : decode cL_law 330 = .ok (.iload 9, 2) := by decide +kernel
theorem dL_law_332 : decode cL_law 332 = .ok (.invokevirtual 130, 3) := by decide +kernel
theorem dL_law_335 : decode cL_law 335 = .ok (.istore 11, 2) := by decide +kernel
theorem dL_law_337 : decode cL_law 337 = .ok (.iload 11, 2) := by decide +kernel
theorem dL_law_339 : decode cL_law 339 = .ok (.ifCond .lt 43, 3) := by decide +kernel
theorem dL_law_342 : decode cL_law 342 = .ok (.aload_n 1, 1) := by decide +kernel
theorem dL_law_343 : decode cL_law 343 = .ok (.iload 10, 2) := by decide +kernel
theorem dL_law_345 : decode cL_law 345 = .ok (.iload 11, 2) := by decide +kernel
theorem dL_law_347 : decode cL_law 347 = .ok (.invokevirtual 133, 3) := by decide +kernel
theorem dL_law_350 : decode cL_law 350 = .ok (.iload 9, 2) := by decide +kernel
theorem dL_law_352 : decode cL_law 352 = .ok (.ishr, 1) := by decide +kernel
theorem dL_law_353 : decode cL_law 353 = .ok (.iconst 1, 1) := by decide +kernel
theorem dL_law_354 : decode cL_law 354 = .ok (.iand, 1) := by decide +kernel
theorem dL_law_355 : decode cL_law 355 = .ok (.ifCond .eq 61, 3) := by decide +kernel
theorem dL_law_358 : decode cL_law 358 = .ok (.iload 11, 2) := by decide +kernel
theorem dL_law_360 : decode cL_law 360 = .ok (.ifCond .le 22, 3) := by decide +kernel
theorem dL_law_363 : decode cL_law 363 = .ok (.aload_n 1, 1) := by decide +kernel
theorem dL_law_364 : decode cL_law 364 = .ok (.iload 10, 2) := by decide +kernel
theorem dL_law_366 : decode cL_law 366 = .ok (.iload 11, 2) := by decide +kernel
theorem dL_law_368 : decode cL_law 368 = .ok (.iconst 1, 1) := by decide +kernel
theorem dL_law_369 : decode cL_law 369 = .ok (.isub, 1) := by decide +kernel
theorem dL_law_370 : decode cL_law 370 = .ok (.invokevirtual 133, 3) := by decide +kernel
theorem dL_law_373 : decode cL_law 373 = .ok (.iload 9, 2) := by decide +kernel
theorem dL_law_375 : decode cL_law 375 = .ok (.ishr, 1) := by decide +kernel
theorem dL_law_376 : decode cL_law 376 = .ok (.iconst 1, 1) := by decide +kernel
theorem dL_law_377 : decode cL_law 377 = .ok (.iand, 1) := by decide +kernel
theorem dL_law_378 : decode cL_law 378 = .ok (.iconst 1, 1) := by decide +kernel
theorem dL_law_379 : decode cL_law 379 = .ok (.if_icmp .eq 37, 3) := by decide +kernel
theorem dL_law_382 : decode cL_law 382 = .ok (.iload 11, 2) := by decide +kernel
theorem dL_law_384 : decode cL_law 384 = .ok (.ifCond .ne 7, 3) := by decide +kernel
theorem dL_law_387 : decode cL_law 387 = .ok (.iconst 1, 1) := by decide +kernel
theorem dL_law_388 : decode cL_law 388 = .ok (.goto 4, 3) := by decide +kernel
theorem dL_law_391 : decode cL_law 391 = .ok (.iconst 0, 1) := by decide +kernel
theorem dL_law_392 : decode cL_law 392 = .ok (.aload_n 1, 1) := by decide +kernel
theorem dL_law_393 : decode cL_law 393 = .ok (.iload 10, 2) := by decide +kernel
theorem dL_law_395 : decode cL_law 395 = .ok (.iconst 3, 1) := by decide +kernel
theorem dL_law_396 : decode cL_law 396 = .ok (.invokevirtual 125, 3) := by decide +kernel
theorem dL_law_399 : decode cL_law 399 = .ok (.iload 9, 2) := by decide +kernel
theorem dL_law_401 : decode cL_law 401 = .ok (.ishr, 1) := by decide +kernel
theorem dL_law_402 : decode cL_law 402 = .ok (.iconst 1, 1) := by decide +kernel
theorem dL_law_403 : decode cL_law 403 = .ok (.iand, 1) := by decide +kernel
theorem dL_law_404 : decode cL_law 404 = .ok (.iconst 1, 1) := by decide +kernel
theorem dL_law_405 : decode cL_law 405 = .ok (.if_icmp .ne 7, 3) := by decide +kernel
theorem dL_law_408 : decode cL_law 408 = .ok (.iconst 1, 1) := by decide +kernel
theorem dL_law_409 : decode cL_law 409 = .ok (.goto 4, 3) := by decide +kernel
theorem dL_law_412 : decode cL_law 412 = .ok (.iconst 0, 1) := by decide +kernel
theorem dL_law_413 : decode cL_law 413 = .ok (.if_icmp .eq 5, 3) := by decide +kernel
theorem dL_law_416 : decode cL_law 416 = .ok (.iconst 0, 1) := by decide +kernel
theorem dL_law_417 : decode cL_law 417 = .ok (.ireturn, 1) := by decide +kernel
theorem dL_law_418 : decode cL_law 418 = .ok (.aload_n 1, 1) := by decide +kernel
theorem dL_law_419 : decode cL_law 419 = .ok (.iload 9, 2) := by decide +kernel
theorem dL_law_421 : decode cL_law 421 = .ok (.invokevirtual 136, 3) := by decide +kernel
theorem dL_law_424 : decode cL_law 424 = .ok (.istore 12, 2) := by decide +kernel
theorem dL_law_426 : decode cL_law 426 = .ok (.iload 12, 2) := by decide +kernel
theorem dL_law_428 : decode cL_law 428 = .ok (.ifCond .ge 7, 3) := by decide +kernel
theorem dL_law_431 : decode cL_law 431 = .ok (.iconst 1, 1) := by decide +kernel
theorem dL_law_432 : decode cL_law 432 = .ok (.goto 4, 3) := by decide +kernel
theorem dL_law_435 : decode cL_law 435 = .ok (.iconst 0, 1) := by decide +kernel
theorem dL_law_436 : decode cL_law 436 = .ok (.aload_n 1, 1) := by decide +kernel
theorem dL_law_437 : decode cL_law 437 = .ok (.invokevirtual 139, 3) := by decide +kernel
theorem dL_law_440 : decode cL_law 440 = .ok (.iload 9, 2) := by decide +kernel
theorem dL_law_442 : decode cL_law 442 = .ok (.ishr, 1) := by decide +kernel
theorem dL_law_443 : decode cL_law 443 = .ok (.iconst 1, 1) := by decide +kernel
theorem dL_law_444 : decode cL_law 444 = .ok (.iand, 1) := by decide +kernel
theorem dL_law_445 : decode cL_law 445 = .ok (.iconst 1, 1) := by decide +kernel
theorem dL_law_446 : decode cL_law 446 = .ok (.if_icmp .ne 7, 3) := by decide +kernel
theorem dL_law_449 : decode cL_law 449 = .ok (.iconst 1, 1) := by decide +kernel
theorem dL_law_450 : decode cL_law 450 = .ok (.goto 4, 3) := by decide +kernel
theorem dL_law_453 : decode cL_law 453 = .ok (.iconst 0, 1) := by decide +kernel
theorem dL_law_454 : decode cL_law 454 = .ok (.if_icmp .ne 25, 3) := by decide +kernel
theorem dL_law_457 : decode cL_law 457 = .ok (.iload 12, 2) := by decide +kernel
theorem dL_law_459 : decode cL_law 459 = .ok (.ifCond .lt 22, 3) := by decide +kernel
theorem dL_law_462 : decode cL_law 462 = .ok (.aload_n 3, 1) := by decide +kernel
theorem dL_law_463 : decode cL_law 463 = .ok (.bipush 12, 2) := by decide +kernel
theorem dL_law_465 : decode cL_law 465 = .ok (.iload 10, 2) := by decide +kernel
theorem dL_law_467 : decode cL_law 467 = .ok (.iadd, 1) := by decide +kernel
theorem dL_law_468 : decode cL_law 468 = .ok (.iaload, 1) := by decide +kernel
theorem dL_law_469 : decode cL_law 469 = .ok (.ifCond .ne 12, 3) := by decide +kernel
theorem dL_law_472 : decode cL_law 472 = .ok (.iload 11, 2) := by decide +kernel
theorem dL_law_474 : decode cL_law 474 = .ok (.iload 12, 2) := by decide +kernel
theorem dL_law_476 : decode cL_law 476 = .ok (.if_icmp .le 5, 3) := by decide +kernel
theorem dL_law_479 : decode cL_law 479 = .ok (.iconst 0, 1) := by decide +kernel
theorem dL_law_480 : decode cL_law 480 = .ok (.ireturn, 1) := by decide +kernel
theorem dL_law_481 : decode cL_law 481 = .ok (.aload_n 1, 1) := by decide +kernel
theorem dL_law_482 : decode cL_law 482 = .ok (.invokevirtual 142, 3) := by decide +kernel
theorem dL_law_485 : decode cL_law 485 = .ok (.istore 13, 2) := by decide +kernel
theorem dL_law_487 : decode cL_law 487 = .ok (.iload 13, 2) := by decide +kernel
theorem dL_law_489 : decode cL_law 489 = .ok (.ifCond .lt 19, 3) := by decide +kernel
theorem dL_law_492 : decode cL_law 492 = .ok (.iload 12, 2) := by decide +kernel
theorem dL_law_494 : decode cL_law 494 = .ok (.iload 13, 2) := by decide +kernel
theorem dL_law_496 : decode cL_law 496 = .ok (.if_icmp .gt 10, 3) := by decide +kernel
theorem dL_law_499 : decode cL_law 499 = .ok (.aload_n 1, 1) := by decide +kernel
theorem dL_law_500 : decode cL_law 500 = .ok (.invokevirtual 139, 3) := by decide +kernel
theorem dL_law_503 : decode cL_law 503 = .ok (.ifCond .eq 5, 3) := by decide +kernel
theorem dL_law_506 : decode cL_law 506 = .ok (.iconst 0, 1) := by decide +kernel
theorem dL_law_507 : decode cL_law 507 = .ok (.ireturn, 1) := by decide +kernel
theorem dL_law_508 : decode cL_law 508 = .ok (.iload 11, 2) := by decide +kernel
theorem dL_law_510 : decode cL_law 510 = .ok (.ifCond .le 53, 3) := by decide +kernel
theorem dL_law_513 : decode cL_law 513 = .ok (.iload 11, 2) := by decide +kernel
theorem dL_law_515 : decode cL_law 515 = .ok (.bipush 40, 2) := by decide +kernel
theorem dL_law_517 : decode cL_law 517 = .ok (.if_icmp .ge 46, 3) := by decide +kernel
theorem dL_law_520 : decode cL_law 520 = .ok (.aload_n 1, 1) := by decide +kernel
theorem dL_law_521 : decode cL_law 521 = .ok (.invokevirtual 145, 3) := by decide +kernel
theorem dL_law_524 : decode cL_law 524 = .ok (.iconst 1, 1) := by decide +kernel
theorem dL_law_525 : decode cL_law 525 = .ok (.if_icmp .ne 36, 3) := by decide +kernel
theorem dL_law_528 : decode cL_law 528 = .ok (.aload_n 1, 1) := by decide +kernel
theorem dL_law_529 : decode cL_law 529 = .ok (.iload 11, 2) := by decide +kernel
theorem dL_law_531 : decode cL_law 531 = .ok (.invokevirtual 148, 3) := by decide +kernel
theorem dL_law_534 : decode cL_law 534 = .ok (.iload 11, 2) := by decide +kernel
theorem dL_law_536 : decode cL_law 536 = .ok (.if_icmp .lt 25, 3) := by decide +kernel
theorem dL_law_539 : decode cL_law 539 = .ok (.aload_n 1, 1) := by decide +kernel
theorem dL_law_540 : decode cL_law 540 = .ok (.iload 10, 2) := by decide +kernel
theorem dL_law_542 : decode cL_law 542 = .ok (.iconst 3, 1) := by decide +kernel
theorem dL_law_543 : decode cL_law 543 = .ok (.invokevirtual 125, 3) := by decide +kernel
theorem dL_law_546 : decode cL_law 546 = .ok (.iload 9, 2) := by decide +kernel
theorem dL_law_548 : decode cL_law 548 = .ok (.ishr, 1) := by decide +kernel
theorem dL_law_549 : decode cL_law 549 = .ok (.iconst 1, 1) := by decide +kernel
theorem dL_law_550 : decode cL_law 550 = .ok (.iand, 1) := by decide +kernel
theorem dL_law_551 : decode cL_law 551 = .ok (.ifCond .eq 10, 3) := by decide +kernel
theorem dL_law_554 : decode cL_law 554 = .ok (.aload_n 1, 1) := by decide +kernel
theorem dL_law_555 : decode cL_law 555 = .ok (.invokevirtual 151, 3) := by decide +kernel
theorem dL_law_558 : decode cL_law 558 = .ok (.ifCond .eq 5, 3) := by decide +kernel
theorem dL_law_561 : decode cL_law 561 = .ok (.iconst 0, 1) := by decide +kernel
theorem dL_law_562 : decode cL_law 562 = .ok (.ireturn, 1) := by decide +kernel
theorem dL_law_563 : decode cL_law 563 = .ok (.aload_n 1, 1) := by decide +kernel
theorem dL_law_564 : decode cL_law 564 = .ok (.invokevirtual 154, 3) := by decide +kernel
theorem dL_law_567 : decode cL_law 567 = .ok (.istore 14, 2) := by decide +kernel
theorem dL_law_569 : decode cL_law 569 = .ok (.aload_n 1, 1) := by decide +kernel
theorem dL_law_570 : decode cL_law 570 = .ok (.iconst 3, 1) := by decide +kernel
theorem dL_law_571 : decode cL_law 571 = .ok (.invokevirtual 127, 3) := by decide +kernel
theorem dL_law_574 : decode cL_law 574 = .ok (.istore 15, 2) := by decide +kernel
theorem dL_law_576 : decode cL_law 576 = .ok (.aload_n 1, 1) := by decide +kernel
theorem dL_law_577 : decode cL_law 577 = .ok (.iconst 4, 1) := by decide +kernel
theorem dL_law_578 : decode cL_law 578 = .ok (.invokevirtual 127, 3) := by decide +kernel
theorem dL_law_581 : decode cL_law 581 = .ok (.istore 16, 2) := by decide +kernel
theorem dL_law_583 : decode cL_law 583 = .ok (.iload 14, 2) := by decide +kernel
theorem dL_law_585 : decode cL_law 585 = .ok (.ifCond .le 135, 3) := by decide +kernel
theorem dL_law_588 : decode cL_law 588 = .ok (.iload 14, 2) := by decide +kernel
theorem dL_law_590 : decode cL_law 590 = .ok (.bipush 60, 2) := by decide +kernel
theorem dL_law_592 : decode cL_law 592 = .ok (.if_icmp .ge 128, 3) := by decide +kernel
theorem dL_law_595 : decode cL_law 595 = .ok (.iload 16, 2) := by decide +kernel
theorem dL_law_597 : decode cL_law 597 = .ok (.ifCond .ne 123, 3) := by decide +kernel
theorem dL_law_600 : decode cL_law 600 = .ok (.bipush 6, 2) := by decide +kernel
theorem dL_law_602 : decode cL_law 602 = .ok (.newarray .int, 2) := by decide +kernel
theorem dL_law_604 : decode cL_law 604 = .ok (.astore 17, 2) := by decide +kernel
theorem dL_law_606 : decode cL_law 606 = .ok (.iconst 0, 1) := by decide +kernel
theorem dL_law_607 : decode cL_law 607 = .ok (.istore 18, 2) := by decide +kernel
theorem dL_law_609 : decode cL_law 609 = .ok (.iload 18, 2) := by decide +kernel
theorem dL_law_611 : decode cL_law 611 = .ok (.iload 15, 2) := by decide +kernel
theorem dL_law_613 : decode cL_law 613 = .ok (.if_icmp .ge 20, 3) := by decide +kernel
theorem dL_law_616 : decode cL_law 616 = .ok (.aload 17, 2) := by decide +kernel
theorem dL_law_618 : decode cL_law 618 = .ok (.iload 18, 2) := by decide +kernel
theorem dL_law_620 : decode cL_law 620 = .ok (.aload_n 1, 1) := by decide +kernel
theorem dL_law_621 : decode cL_law 621 = .ok (.iload 18, 2) := by decide +kernel
theorem dL_law_623 : decode cL_law 623 = .ok (.invokevirtual 157, 3) := by decide +kernel
theorem dL_law_626 : decode cL_law 626 = .ok (.iastore, 1) := by decide +kernel
theorem dL_law_627 : decode cL_law 627 = .ok (.iinc 18 1, 3) := by decide +kernel
theorem dL_law_630 : decode cL_law 630 = .ok (.goto (-21), 3) := by decide +kernel
theorem dL_law_633 : decode cL_law 633 = .ok (.aload_n 1, 1) := by decide +kernel
theorem dL_law_634 : decode cL_law 634 = .ok (.invokevirtual 145, 3) := by decide +kernel
theorem dL_law_637 : decode cL_law 637 = .ok (.iconst 1, 1) := by decide +kernel
theorem dL_law_638 : decode cL_law 638 = .ok (.if_icmp .eq 5, 3) := by decide +kernel
theorem dL_law_641 : decode cL_law 641 = .ok (.iconst 0, 1) := by decide +kernel
theorem dL_law_642 : decode cL_law 642 = .ok (.ireturn, 1) := by decide +kernel
theorem dL_law_643 : decode cL_law 643 = .ok (.iconst 0, 1) := by decide +kernel
theorem dL_law_644 : decode cL_law 644 = .ok (.istore 18, 2) := by decide +kernel
theorem dL_law_646 : decode cL_law 646 = .ok (.iload 18, 2) := by decide +kernel
theorem dL_law_648 : decode cL_law 648 = .ok (.iload 15, 2) := by decide +kernel
theorem dL_law_650 : decode cL_law 650 = .ok (.if_icmp .ge 43, 3) := by decide +kernel
theorem dL_law_653 : decode cL_law 653 = .ok (.aload_n 1, 1) := by decide +kernel
theorem dL_law_654 : decode cL_law 654 = .ok (.iload 18, 2) := by decide +kernel
theorem dL_law_656 : decode cL_law 656 = .ok (.invokevirtual 160, 3) := by decide +kernel
theorem dL_law_659 : decode cL_law 659 = .ok (.aload 17, 2) := by decide +kernel
theorem dL_law_661 : decode cL_law 661 = .ok (.iload 18, 2) := by decide +kernel
theorem dL_law_663 : decode cL_law 663 = .ok (.iaload, 1) := by decide +kernel
theorem dL_law_664 : decode cL_law 664 = .ok (.if_icmp .eq 23, 3) := by decide +kernel
theorem dL_law_667 : decode cL_law 667 = .ok (.aload_n 1, 1) := by decide +kernel
theorem dL_law_668 : decode cL_law 668 = .ok (.aload_n 1, 1) := by decide +kernel
theorem dL_law_669 : decode cL_law 669 = .ok (.iload 18, 2) := by decide +kernel
theorem dL_law_671 : decode cL_law 671 = .ok (.invokevirtual 160, 3) := by decide +kernel
theorem dL_law_674 : decode cL_law 674 = .ok (.aload 17, 2) := by decide +kernel
theorem dL_law_676 : decode cL_law 676 = .ok (.iload 18, 2) := by decide +kernel
theorem dL_law_678 : decode cL_law 678 = .ok (.iaload, 1) := by decide +kernel
theorem dL_law_679 : decode cL_law 679 = .ok (.invokevirtual 163, 3) := by decide +kernel
theorem dL_law_682 : decode cL_law 682 = .ok (.ifCond .ne 5, 3) := by decide +kernel
theorem dL_law_685 : decode cL_law 685 = .ok (.iconst 0, 1) := by decide +kernel
theorem dL_law_686 : decode cL_law 686 = .ok (.ireturn, 1) := by decide +kernel
theorem dL_law_687 : decode cL_law 687 = .ok (.iinc 18 1, 3) := by decide +kernel
theorem dL_law_690 : decode cL_law 690 = .ok (.goto (-44), 3) := by decide +kernel
theorem dL_law_693 : decode cL_law 693 = .ok (.aload_n 1, 1) := by decide +kernel
theorem dL_law_694 : decode cL_law 694 = .ok (.invokevirtual 142, 3) := by decide +kernel
theorem dL_law_697 : decode cL_law 697 = .ok (.iload 14, 2) := by decide +kernel
theorem dL_law_699 : decode cL_law 699 = .ok (.if_icmp .ne 19, 3) := by decide +kernel
theorem dL_law_702 : decode cL_law 702 = .ok (.aload_n 1, 1) := by decide +kernel
theorem dL_law_703 : decode cL_law 703 = .ok (.invokevirtual 151, 3) := by decide +kernel
theorem dL_law_706 : decode cL_law 706 = .ok (.ifCond .ne 12, 3) := by decide +kernel
theorem dL_law_709 : decode cL_law 709 = .ok (.aload_n 1, 1) := by decide +kernel
theorem dL_law_710 : decode cL_law 710 = .ok (.invokevirtual 142, 3) := by decide +kernel
theorem dL_law_713 : decode cL_law 713 = .ok (.iload 13, 2) := by decide +kernel
theorem dL_law_715 : decode cL_law 715 = .ok (.if_icmp .eq 5, 3) := by decide +kernel
theorem dL_law_718 : decode cL_law 718 = .ok (.iconst 0, 1) := by decide +kernel
theorem dL_law_719 : decode cL_law 719 = .ok (.ireturn, 1) := by decide +kernel
theorem dL_law_720 : decode cL_law 720 = .ok (.iload 14, 2) := by decide +kernel
theorem dL_law_722 : decode cL_law 722 = .ok (.ifCond .lt 29, 3) := by decide +kernel
theorem dL_law_725 : decode cL_law 725 = .ok (.iload 16, 2) := by decide +kernel
theorem dL_law_727 : decode cL_law 727 = .ok (.ifCond .ne 24, 3) := by decide +kernel
theorem dL_law_730 : decode cL_law 730 = .ok (.iload 13, 2) := by decide +kernel
theorem dL_law_732 : decode cL_law 732 = .ok (.ifCond .lt 19, 3) := by decide +kernel
theorem dL_law_735 : decode cL_law 735 = .ok (.iload 13, 2) := by decide +kernel
theorem dL_law_737 : decode cL_law 737 = .ok (.bipush 99, 2) := by decide +kernel
theorem dL_law_739 : decode cL_law 739 = .ok (.if_icmp .gt 12, 3) := by decide +kernel
theorem dL_law_742 : decode cL_law 742 = .ok (.iload 14, 2) := by decide +kernel
theorem dL_law_744 : decode cL_law 744 = .ok (.iload 13, 2) := by decide +kernel
theorem dL_law_746 : decode cL_law 746 = .ok (.if_icmp .le 5, 3) := by decide +kernel
theorem dL_law_749 : decode cL_law 749 = .ok (.iconst 0, 1) := by decide +kernel
theorem dL_law_750 : decode cL_law 750 = .ok (.ireturn, 1) := by decide +kernel
theorem dL_law_751 : decode cL_law 751 = .ok (.aload_n 1, 1) := by decide +kernel
theorem dL_law_752 : decode cL_law 752 = .ok (.iload 9, 2) := by decide +kernel
theorem dL_law_754 : decode cL_law 754 = .ok (.invokevirtual 167, 3) := by decide +kernel
theorem dL_law_757 : decode cL_law 757 = .ok (.istore 17, 2) := by decide +kernel
theorem dL_law_759 : decode cL_law 759 = .ok (.iload 17, 2) := by decide +kernel
theorem dL_law_761 : decode cL_law 761 = .ok (.ifCond .lt 37, 3) := by decide +kernel
theorem dL_law_764 : decode cL_law 764 = .ok (.aload_n 1, 1) := by decide +kernel
theorem dL_law_765 : decode cL_law 765 = .ok (.iload 17, 2) := by decide +kernel
theorem dL_law_767 : decode cL_law 767 = .ok (.iconst 2, 1) := by decide +kernel
theorem dL_law_768 : decode cL_law 768 = .ok (.invokevirtual 123, 3) := by decide +kernel
theorem dL_law_771 : decode cL_law 771 = .ok (.aload_n 3, 1) := by decide +kernel
theorem dL_law_772 : decode cL_law 772 = .ok (.bipush 36, 2) := by decide +kernel
theorem dL_law_774 : decode cL_law 774 = .ok (.iload 9, 2) := by decide +kernel
theorem dL_law_776 : decode cL_law 776 = .ok (.iadd, 1) := by decide +kernel
theorem dL_law_777 : decode cL_law 777 = .ok (.iaload, 1) := by decide +kernel
theorem dL_law_778 : decode cL_law 778 = .ok (.if_icmp .lt 18, 3) := by decide +kernel
theorem dL_law_781 : decode cL_law 781 = .ok (.aload_n 1, 1) := by decide +kernel
theorem dL_law_782 : decode cL_law 782 = .ok (.bipush 8, 2) := by decide +kernel
theorem dL_law_784 : decode cL_law 784 = .ok (.invokevirtual 127, 3) := by decide +kernel
theorem dL_law_787 : decode cL_law 787 = .ok (.iload 17, 2) := by decide +kernel
theorem dL_law_789 : decode cL_law 789 = .ok (.ishr, 1) := by decide +kernel
theorem dL_law_790 : decode cL_law 790 = .ok (.iconst 1, 1) := by decide +kernel
theorem dL_law_791 : decode cL_law 791 = .ok (.iand, 1) := by decide +kernel
theorem dL_law_792 : decode cL_law 792 = .ok (.iconst 1, 1) := by decide +kernel
theorem dL_law_793 : decode cL_law 793 = .ok (.if_icmp .ne 5, 3) := by decide +kernel
theorem dL_law_796 : decode cL_law 796 = .ok (.iconst 0, 1) := by decide +kernel
theorem dL_law_797 : decode cL_law 797 = .ok (.ireturn, 1) := by decide +kernel
theorem dL_law_798 : decode cL_law 798 = .ok (.aload_n 1, 1) := by decide +kernel
theorem dL_law_799 : decode cL_law 799 = .ok (.invokevirtual 170, 3) := by decide +kernel
theorem dL_law_802 : decode cL_law 802 = .ok (.ifCond .lt 160, 3) := by decide +kernel
theorem dL_law_805 : decode cL_law 805 = .ok (.lconst 0, 1) := by decide +kernel
theorem dL_law_806 : decode cL_law 806 = .ok (.lstore 18, 2) := by decide +kernel
theorem dL_law_808 : decode cL_law 808 = .ok (.lconst 1, 1) := by decide +kernel
theorem dL_law_809 : decode cL_law 809 = .ok (.lstore 20, 2) := by decide +kernel
theorem dL_law_811 : decode cL_law 811 = .ok (.iconst 0, 1) := by decide +kernel
theorem dL_law_812 : decode cL_law 812 = .ok (.istore 22, 2) := by decide +kernel
theorem dL_law_814 : decode cL_law 814 = .ok (.iload 22, 2) := by decide +kernel
theorem dL_law_816 : decode cL_law 816 = .ok (.aload_n 3, 1) := by decide +kernel
theorem dL_law_817 : decode cL_law 817 = .ok (.iconst 2, 1) := by decide +kernel
theorem dL_law_818 : decode cL_law 818 = .ok (.iaload, 1) := by decide +kernel
theorem dL_law_819 : decode cL_law 819 = .ok (.if_icmp .ge 133, 3) := by decide +kernel
theorem dL_law_822 : decode cL_law 822 = .ok (.aload_n 1, 1) := by decide +kernel
theorem dL_law_823 : decode cL_law 823 = .ok (.iload 22, 2) := by decide +kernel
theorem dL_law_825 : decode cL_law 825 = .ok (.invokevirtual 173, 3) := by decide +kernel
theorem dL_law_828 : decode cL_law 828 = .ok (.ifCond .ne 6, 3) := by decide +kernel
theorem dL_law_831 : decode cL_law 831 = .ok (.goto 115, 3) := by decide +kernel
theorem dL_law_834 : decode cL_law 834 = .ok (.lload 18, 2) := by decide +kernel
theorem dL_law_836 : decode cL_law 836 = .ok (.aload_n 1, 1) := by decide +kernel
theorem dL_law_837 : decode cL_law 837 = .ok (.invokevirtual 103, 3) := by decide +kernel
theorem dL_law_840 : decode cL_law 840 = .ok (.lmul, 1) := by decide +kernel
theorem dL_law_841 : decode cL_law 841 = .ok (.aload_n 1, 1) := by decide +kernel
theorem dL_law_842 : decode cL_law 842 = .ok (.invokevirtual 107, 3) := by decide +kernel
theorem dL_law_845 : decode cL_law 845 = .ok (.lload 20, 2) := by decide +kernel
theorem dL_law_847 : decode cL_law 847 = .ok (.lmul, 1) := by decide +kernel
theorem dL_law_848 : decode cL_law 848 = .ok (.ladd, 1) := by decide +kernel
theorem dL_law_849 : decode cL_law 849 = .ok (.lstore 18, 2) := by decide +kernel
theorem dL_law_851 : decode cL_law 851 = .ok (.lload 20, 2) := by decide +kernel
theorem dL_law_853 : decode cL_law 853 = .ok (.aload_n 1, 1) := by decide +kernel
theorem dL_law_854 : decode cL_law 854 = .ok (.invokevirtual 103, 3) := by decide +kernel
theorem dL_law_857 : decode cL_law 857 = .ok (.lmul, 1) := by decide +kernel
theorem dL_law_858 : decode cL_law 858 = .ok (.lstore 20, 2) := by decide +kernel
theorem dL_law_860 : decode cL_law 860 = .ok (.lload 18, 2) := by decide +kernel
theorem dL_law_862 : decode cL_law 862 = .ok (.lconst 1, 1) := by decide +kernel
theorem dL_law_863 : decode cL_law 863 = .ok (.lcmp, 1) := by decide +kernel
theorem dL_law_864 : decode cL_law 864 = .ok (.ifCond .ge 7, 3) := by decide +kernel
theorem dL_law_867 : decode cL_law 867 = .ok (.lconst 1, 1) := by decide +kernel
theorem dL_law_868 : decode cL_law 868 = .ok (.goto 5, 3) := by decide +kernel
theorem dL_law_871 : decode cL_law 871 = .ok (.lload 18, 2) := by decide +kernel
theorem dL_law_873 : decode cL_law 873 = .ok (.lstore 23, 2) := by decide +kernel
theorem dL_law_875 : decode cL_law 875 = .ok (.lload 20, 2) := by decide +kernel
theorem dL_law_877 : decode cL_law 877 = .ok (.lstore 25, 2) := by decide +kernel
theorem dL_law_879 : decode cL_law 879 = .ok (.lload 25, 2) := by decide +kernel
theorem dL_law_881 : decode cL_law 881 = .ok (.lconst 0, 1) := by decide +kernel
theorem dL_law_882 : decode cL_law 882 = .ok (.lcmp, 1) := by decide +kernel
theorem dL_law_883 : decode cL_law 883 = .ok (.ifCond .eq 21, 3) := by decide +kernel
theorem dL_law_886 : decode cL_law 886 = .ok (.lload 23, 2) := by decide +kernel
theorem dL_law_888 : decode cL_law 888 = .ok (.lload 25, 2) := by decide +kernel
theorem dL_law_890 : decode cL_law 890 = .ok (.lrem, 1) := by decide +kernel
theorem dL_law_891 : decode cL_law 891 = .ok (.lstore 27, 2) := by decide +kernel
theorem dL_law_893 : decode cL_law 893 = .ok (.lload 25, 2) := by decide +kernel
theorem dL_law_895 : decode cL_law 895 = .ok (.lstore 23, 2) := by decide +kernel
theorem dL_law_897 : decode cL_law 897 = .ok (.lload 27, 2) := by decide +kernel
theorem dL_law_899 : decode cL_law 899 = .ok (.lstore 25, 2) := by decide +kernel
theorem dL_law_901 : decode cL_law 901 = .ok (.goto (-22), 3) := by decide +kernel
theorem dL_law_904 : decode cL_law 904 = .ok (.lload 23, 2) := by decide +kernel
theorem dL_law_906 : decode cL_law 906 = .ok (.lconst 1, 1) := by decide +kernel
theorem dL_law_907 : decode cL_law 907 = .ok (.lcmp, 1) := by decide +kernel
theorem dL_law_908 : decode cL_law 908 = .ok (.ifCond .le 17, 3) := by decide +kernel
theorem dL_law_911 : decode cL_law 911 = .ok (.lload 18, 2) := by decide +kernel
theorem dL_law_913 : decode cL_law 913 = .ok (.lconst 0, 1) := by decide +kernel
theorem dL_law_914 : decode cL_law 914 = .ok (.lcmp, 1) := by decide +kernel
theorem dL_law_915 : decode cL_law 915 = .ok (.ifCond .le 10, 3) := by decide +kernel
theorem dL_law_918 : decode cL_law 918 = .ok (.lload 18, 2) := by decide +kernel
theorem dL_law_920 : decode cL_law 920 = .ok (.lload 23, 2) := by decide +kernel
theorem dL_law_922 : decode cL_law 922 = .ok (.ldiv, 1) := by decide +kernel
theorem dL_law_923 : decode cL_law 923 = .ok (.lstore 18, 2) := by decide +kernel
theorem dL_law_925 : decode cL_law 925 = .ok (.lload 23, 2) := by decide +kernel
theorem dL_law_927 : decode cL_law 927 = .ok (.lconst 1, 1) := by decide +kernel
theorem dL_law_928 : decode cL_law 928 = .ok (.lcmp, 1) := by decide +kernel
theorem dL_law_929 : decode cL_law 929 = .ok (.ifCond .le 17, 3) := by decide +kernel
theorem dL_law_932 : decode cL_law 932 = .ok (.lload 18, 2) := by decide +kernel
theorem dL_law_934 : decode cL_law 934 = .ok (.lconst 0, 1) := by decide +kernel
theorem dL_law_935 : decode cL_law 935 = .ok (.lcmp, 1) := by decide +kernel
theorem dL_law_936 : decode cL_law 936 = .ok (.ifCond .le 10, 3) := by decide +kernel
theorem dL_law_939 : decode cL_law 939 = .ok (.lload 20, 2) := by decide +kernel
theorem dL_law_941 : decode cL_law 941 = .ok (.lload 23, 2) := by decide +kernel
theorem dL_law_943 : decode cL_law 943 = .ok (.ldiv, 1) := by decide +kernel
theorem dL_law_944 : decode cL_law 944 = .ok (.lstore 20, 2) := by decide +kernel
theorem dL_law_946 : decode cL_law 946 = .ok (.iinc 22 1, 3) := by decide +kernel
theorem dL_law_949 : decode cL_law 949 = .ok (.goto (-135), 3) := by decide +kernel
theorem dL_law_952 : decode cL_law 952 = .ok (.lload 18, 2) := by decide +kernel
theorem dL_law_954 : decode cL_law 954 = .ok (.lload 20, 2) := by decide +kernel
theorem dL_law_956 : decode cL_law 956 = .ok (.lcmp, 1) := by decide +kernel
theorem dL_law_957 : decode cL_law 957 = .ok (.ifCond .eq 5, 3) := by decide +kernel
theorem dL_law_960 : decode cL_law 960 = .ok (.iconst 0, 1) := by decide +kernel
theorem dL_law_961 : decode cL_law 961 = .ok (.ireturn, 1) := by decide +kernel
theorem dL_law_962 : decode cL_law 962 = .ok (.iconst 5, 1) := by decide +kernel
theorem dL_law_963 : decode cL_law 963 = .ok (.newarray .int, 2) := by decide +kernel
theorem dL_law_965 : decode cL_law 965 = .ok (.astore 18, 2) := by decide +kernel
theorem dL_law_967 : decode cL_law 967 = .ok (.iconst 0, 1) := by decide +kernel
theorem dL_law_968 : decode cL_law 968 = .ok (.istore 19, 2) := by decide +kernel
theorem dL_law_970 : decode cL_law 970 = .ok (.iload 19, 2) := by decide +kernel
theorem dL_law_972 : decode cL_law 972 = .ok (.aload_n 3, 1) := by decide +kernel
theorem dL_law_973 : decode cL_law 973 = .ok (.iconst 0, 1) := by decide +kernel
theorem dL_law_974 : decode cL_law 974 = .ok (.iaload, 1) := by decide +kernel
theorem dL_law_975 : decode cL_law 975 = .ok (.if_icmp .ge 21, 3) := by decide +kernel
theorem dL_law_978 : decode cL_law 978 = .ok (.aload 18, 2) := by decide +kernel
theorem dL_law_980 : decode cL_law 980 = .ok (.iload 19, 2) := by decide +kernel
theorem dL_law_982 : decode cL_law 982 = .ok (.aload_n 1, 1) := by decide +kernel
theorem dL_law_983 : decode cL_law 983 = .ok (.iload 19, 2) := by decide +kernel
theorem dL_law_985 : decode cL_law 985 = .ok (.iconst 3, 1) := by decide +kernel
theorem dL_law_986 : decode cL_law 986 = .ok (.invokevirtual 125, 3) := by decide +kernel
theorem dL_law_989 : decode cL_law 989 = .ok (.iastore, 1) := by decide +kernel
theorem dL_law_990 : decode cL_law 990 = .ok (.iinc 19 1, 3) := by decide +kernel
theorem dL_law_993 : decode cL_law 993 = .ok (.goto (-23), 3) := by decide +kernel
theorem dL_law_996 : decode cL_law 996 = .ok (.iconst 1, 1) := by decide +kernel
theorem dL_law_997 : decode cL_law 997 = .ok (.iload 6, 2) := by decide +kernel
theorem dL_law_999 : decode cL_law 999 = .ok (.iconst 4, 1) := by decide +kernel
theorem dL_law_1000 : decode cL_law 1000 = .ok (.ishr, 1) := by decide +kernel
theorem dL_law_1001 : decode cL_law 1001 = .ok (.iconst 3, 1) := by decide +kernel
theorem dL_law_1002 : decode cL_law 1002 = .ok (.iand, 1) := by decide +kernel
theorem dL_law_1003 : decode cL_law 1003 = .ok (.iadd, 1) := by decide +kernel
theorem dL_law_1004 : decode cL_law 1004 = .ok (.istore 19, 2) := by decide +kernel
theorem dL_law_1006 : decode cL_law 1006 = .ok (.aload_n 1, 1) := by decide +kernel
theorem dL_law_1007 : decode cL_law 1007 = .ok (.invokevirtual 177, 3) := by decide +kernel
theorem dL_law_1010 : decode cL_law 1010 = .ok (.istore 20, 2) := by decide +kernel
theorem dL_law_1012 : decode cL_law 1012 = .ok (.aload_n 1, 1) := by decide +kernel
theorem dL_law_1013 : decode cL_law 1013 = .ok (.iload 19, 2) := by decide +kernel
theorem dL_law_1015 : decode cL_law 1015 = .ok (.invokevirtual 148, 3) := by decide +kernel
theorem dL_law_1018 : decode cL_law 1018 = .ok (.iload 16, 2) := by decide +kernel
theorem dL_law_1020 : decode cL_law 1020 = .ok (.iload 19, 2) := by decide +kernel
theorem dL_law_1022 : decode cL_law 1022 = .ok (.iadd, 1) := by decide +kernel
theorem dL_law_1023 : decode cL_law 1023 = .ok (.if_icmp .eq 5, 3) := by decide +kernel
theorem dL_law_1026 : decode cL_law 1026 = .ok (.iconst 0, 1) := by decide +kernel
theorem dL_law_1027 : decode cL_law 1027 = .ok (.ireturn, 1) := by decide +kernel
theorem dL_law_1028 : decode cL_law 1028 = .ok (.iconst 0, 1) := by decide +kernel
theorem dL_law_1029 : decode cL_law 1029 = .ok (.istore 21, 2) := by decide +kernel
theorem dL_law_1031 : decode cL_law 1031 = .ok (.iload 21, 2) := by decide +kernel
theorem dL_law_1033 : decode cL_law 1033 = .ok (.aload_n 3, 1) := by decide +kernel
theorem dL_law_1034 : decode cL_law 1034 = .ok (.iconst 0, 1) := by decide +kernel
theorem dL_law_1035 : decode cL_law 1035 = .ok (.iaload, 1) := by decide +kernel
theorem dL_law_1036 : decode cL_law 1036 = .ok (.if_icmp .ge 55, 3) := by decide +kernel
theorem dL_law_1039 : decode cL_law 1039 = .ok (.aload 18, 2) := by decide +kernel
theorem dL_law_1041 : decode cL_law 1041 = .ok (.iload 21, 2) := by decide +kernel
theorem dL_law_1043 : decode cL_law 1043 = .ok (.iaload, 1) := by decide +kernel
theorem dL_law_1044 : decode cL_law 1044 = .ok (.aload_n 1, 1) := by decide +kernel
theorem dL_law_1045 : decode cL_law 1045 = .ok (.iload 21, 2) := by decide +kernel
theorem dL_law_1047 : decode cL_law 1047 = .ok (.iconst 3, 1) := by decide +kernel
theorem dL_law_1048 : decode cL_law 1048 = .ok (.invokevirtual 125, 3) := by decide +kernel
theorem dL_law_1051 : decode cL_law 1051 = .ok (.iconst (-1), 1) := by decide +kernel
theorem dL_law_1052 : decode cL_law 1052 = .ok (.ixor, 1) := by decide +kernel
theorem dL_law_1053 : decode cL_law 1053 = .ok (.iand, 1) := by decide +kernel
theorem dL_law_1054 : decode cL_law 1054 = .ok (.ifCond .ne 29, 3) := by decide +kernel
theorem dL_law_1057 : decode cL_law 1057 = .ok (.aload_n 1, 1) := by decide +kernel
theorem dL_law_1058 : decode cL_law 1058 = .ok (.iload 21, 2) := by decide +kernel
theorem dL_law_1060 : decode cL_law 1060 = .ok (.iconst 3, 1) := by decide +kernel
theorem dL_law_1061 : decode cL_law 1061 = .ok (.invokevirtual 125, 3) := by decide +kernel
theorem dL_law_1064 : decode cL_law 1064 = .ok (.aload 18, 2) := by decide +kernel
theorem dL_law_1066 : decode cL_law 1066 = .ok (.iload 21, 2) := by decide +kernel
theorem dL_law_1068 : decode cL_law 1068 = .ok (.iaload, 1) := by decide +kernel
theorem dL_law_1069 : decode cL_law 1069 = .ok (.if_icmp .eq 16, 3) := by decide +kernel
theorem dL_law_1072 : decode cL_law 1072 = .ok (.aload_n 3, 1) := by decide +kernel
theorem dL_law_1073 : decode cL_law 1073 = .ok (.bipush 12, 2) := by decide +kernel
theorem dL_law_1075 : decode cL_law 1075 = .ok (.iload 21, 2) := by decide +kernel
theorem dL_law_1077 : decode cL_law 1077 = .ok (.iadd, 1) := by decide +kernel
theorem dL_law_1078 : decode cL_law 1078 = .ok (.iaload, 1) := by decide +kernel
theorem dL_law_1079 : decode cL_law 1079 = .ok (.iconst 1, 1) := by decide +kernel
theorem dL_law_1080 : decode cL_law 1080 = .ok (.if_icmp .ne 5, 3) := by decide +kernel
theorem dL_law_1083 : decode cL_law 1083 = .ok (.iconst 0, 1) := by decide +kernel
theorem dL_law_1084 : decode cL_law 1084 = .ok (.ireturn, 1) := by decide +kernel
theorem dL_law_1085 : decode cL_law 1085 = .ok (.iinc 21 1, 3) := by decide +kernel
theorem dL_law_1088 : decode cL_law 1088 = .ok (.goto (-57), 3) := by decide +kernel
theorem dL_law_1091 : decode cL_law 1091 = .ok (.iload 20, 2) := by decide +kernel
theorem dL_law_1093 : decode cL_law 1093 = .ok (.ifCond .ge 16, 3) := by decide +kernel
theorem dL_law_1096 : decode cL_law 1096 = .ok (.aload_n 1, 1) := by decide +kernel
theorem dL_law_1097 : decode cL_law 1097 = .ok (.bipush 6, 2) := by decide +kernel
theorem dL_law_1099 : decode cL_law 1099 = .ok (.invokevirtual 127, 3) := by decide +kernel
theorem dL_law_1102 : decode cL_law 1102 = .ok (.iload 8, 2) := by decide +kernel
theorem dL_law_1104 : decode cL_law 1104 = .ok (.if_icmp .eq 5, 3) := by decide +kernel
theorem dL_law_1107 : decode cL_law 1107 = .ok (.iconst 0, 1) := by decide +kernel
theorem dL_law_1108 : decode cL_law 1108 = .ok (.ireturn, 1) := by decide +kernel
theorem dL_law_1109 : decode cL_law 1109 = .ok (.iload 6, 2) := by decide +kernel
theorem dL_law_1111 : decode cL_law 1111 = .ok (.bipush 6, 2) := by decide +kernel
theorem dL_law_1113 : decode cL_law 1113 = .ok (.ishr, 1) := by decide +kernel
theorem dL_law_1114 : decode cL_law 1114 = .ok (.iconst 3, 1) := by decide +kernel
theorem dL_law_1115 : decode cL_law 1115 = .ok (.iand, 1) := by decide +kernel
theorem dL_law_1116 : decode cL_law 1116 = .ok (.ifCond .ne 18, 3) := by decide +kernel
theorem dL_law_1119 : decode cL_law 1119 = .ok (.aload_n 1, 1) := by decide +kernel
theorem dL_law_1120 : decode cL_law 1120 = .ok (.iload 6, 2) := by decide +kernel
theorem dL_law_1122 : decode cL_law 1122 = .ok (.iconst 3, 1) := by decide +kernel
theorem dL_law_1123 : decode cL_law 1123 = .ok (.ishr, 1) := by decide +kernel
theorem dL_law_1124 : decode cL_law 1124 = .ok (.iconst 3, 1) := by decide +kernel
theorem dL_law_1125 : decode cL_law 1125 = .ok (.iand, 1) := by decide +kernel
theorem dL_law_1126 : decode cL_law 1126 = .ok (.aload_n 3, 1) := by decide +kernel
theorem dL_law_1127 : decode cL_law 1127 = .ok (.iconst 2, 1) := by decide +kernel
theorem dL_law_1128 : decode cL_law 1128 = .ok (.iaload, 1) := by decide +kernel
theorem dL_law_1129 : decode cL_law 1129 = .ok (.irem, 1) := by decide +kernel
theorem dL_law_1130 : decode cL_law 1130 = .ok (.invokevirtual 179, 3) := by decide +kernel
theorem dL_law_1133 : decode cL_law 1133 = .ok (.pop, 1) := by decide +kernel
theorem dL_law_1134 : decode cL_law 1134 = .ok (.iload 6, 2) := by decide +kernel
theorem dL_law_1136 : decode cL_law 1136 = .ok (.bipush 6, 2) := by decide +kernel
theorem dL_law_1138 : decode cL_law 1138 = .ok (.ishr, 1) := by decide +kernel
theorem dL_law_1139 : decode cL_law 1139 = .ok (.iconst 3, 1) := by decide +kernel
theorem dL_law_1140 : decode cL_law 1140 = .ok (.iand, 1) := by decide +kernel
theorem dL_law_1141 : decode cL_law 1141 = .ok (.iconst 1, 1) := by decide +kernel
theorem dL_law_1142 : decode cL_law 1142 = .ok (.if_icmp .ne 34, 3) := by decide +kernel
theorem dL_law_1145 : decode cL_law 1145 = .ok (.aload_n 1, 1) := by decide +kernel
theorem dL_law_1146 : decode cL_law 1146 = .ok (.iload 6, 2) := by decide +kernel
theorem dL_law_1148 : decode cL_law 1148 = .ok (.iconst 3, 1) := by decide +kernel
theorem dL_law_1149 : decode cL_law 1149 = .ok (.ishr, 1) := by decide +kernel
theorem dL_law_1150 : decode cL_law 1150 = .ok (.iconst 3, 1) := by decide +kernel
theorem dL_law_1151 : decode cL_law 1151 = .ok (.iand, 1) := by decide +kernel
theorem dL_law_1152 : decode cL_law 1152 = .ok (.aload_n 3, 1) := by decide +kernel
theorem dL_law_1153 : decode cL_law 1153 = .ok (.iconst 2, 1) := by decide +kernel
theorem dL_law_1154 : decode cL_law 1154 = .ok (.iaload, 1) := by decide +kernel
theorem dL_law_1155 : decode cL_law 1155 = .ok (.irem, 1) := by decide +kernel
theorem dL_law_1156 : decode cL_law 1156 = .ok (.iload 6, 2) := by decide +kernel
theorem dL_law_1158 : decode cL_law 1158 = .ok (.bipush 8, 2) := by decide +kernel
theorem dL_law_1160 : decode cL_law 1160 = .ok (.ishr, 1) := by decide +kernel
theorem dL_law_1161 : decode cL_law 1161 = .ok (.iconst 1, 1) := by decide +kernel
theorem dL_law_1162 : decode cL_law 1162 = .ok (.iand, 1) := by decide +kernel
theorem dL_law_1163 : decode cL_law 1163 = .ok (.iconst 1, 1) := by decide +kernel
theorem dL_law_1164 : decode cL_law 1164 = .ok (.if_icmp .ne 7, 3) := by decide +kernel
theorem dL_law_1167 : decode cL_law 1167 = .ok (.iconst 1, 1) := by decide +kernel
theorem dL_law_1168 : decode cL_law 1168 = .ok (.goto 4, 3) := by decide +kernel
theorem dL_law_1171 : decode cL_law 1171 = .ok (.iconst 0, 1) := by decide +kernel
theorem dL_law_1172 : decode cL_law 1172 = .ok (.invokevirtual 182, 3) := by decide +kernel
theorem dL_law_1175 : decode cL_law 1175 = .ok (.pop, 1) := by decide +kernel
theorem dL_law_1176 : decode cL_law 1176 = .ok (.iload 6, 2) := by decide +kernel
theorem dL_law_1178 : decode cL_law 1178 = .ok (.bipush 6, 2) := by decide +kernel
theorem dL_law_1180 : decode cL_law 1180 = .ok (.ishr, 1) := by decide +kernel
theorem dL_law_1181 : decode cL_law 1181 = .ok (.iconst 3, 1) := by decide +kernel
theorem dL_law_1182 : decode cL_law 1182 = .ok (.iand, 1) := by decide +kernel
theorem dL_law_1183 : decode cL_law 1183 = .ok (.iconst 2, 1) := by decide +kernel
theorem dL_law_1184 : decode cL_law 1184 = .ok (.if_icmp .ne 26, 3) := by decide +kernel
theorem dL_law_1187 : decode cL_law 1187 = .ok (.aload_n 1, 1) := by decide +kernel
theorem dL_law_1188 : decode cL_law 1188 = .ok (.iload 10, 2) := by decide +kernel
theorem dL_law_1190 : decode cL_law 1190 = .ok (.iload 6, 2) := by decide +kernel
theorem dL_law_1192 : decode cL_law 1192 = .ok (.bipush 9, 2) := by decide +kernel
theorem dL_law_1194 : decode cL_law 1194 = .ok (.ishr, 1) := by decide +kernel
theorem dL_law_1195 : decode cL_law 1195 = .ok (.iconst 1, 1) := by decide +kernel
theorem dL_law_1196 : decode cL_law 1196 = .ok (.iand, 1) := by decide +kernel
theorem dL_law_1197 : decode cL_law 1197 = .ok (.iconst 1, 1) := by decide +kernel
theorem dL_law_1198 : decode cL_law 1198 = .ok (.if_icmp .ne 7, 3) := by decide +kernel
theorem dL_law_1201 : decode cL_law 1201 = .ok (.iconst 1, 1) := by decide +kernel
theorem dL_law_1202 : decode cL_law 1202 = .ok (.goto 4, 3) := by decide +kernel
theorem dL_law_1205 : decode cL_law 1205 = .ok (.iconst 0, 1) := by decide +kernel
theorem dL_law_1206 : decode cL_law 1206 = .ok (.invokevirtual 186, 3) := by decide +kernel
theorem dL_law_1209 : decode cL_law 1209 = .ok (.pop, 1) := by decide +kernel
theorem dL_law_1210 : decode cL_law 1210 = .ok (.iinc 5 1, 3) := by decide +kernel
theorem dL_law_1213 : decode cL_law 1213 = .ok (.goto (-1158), 3) := by decide +kernel
theorem dL_law_1216 : decode cL_law 1216 = .ok (.iconst 1, 1) := by decide +kernel
theorem dL_law_1217 : decode cL_law 1217 = .ok (.ireturn, 1) := by decide +kernel
