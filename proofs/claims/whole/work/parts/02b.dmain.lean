theorem dX10_init_0 : decode cX10_init 0 = .ok (.aload_n 0, 1) := by decide +kernel
theorem dX10_init_1 : decode cX10_init 1 = .ok (.invokespecial 5, 3) := by decide +kernel
theorem dX10_init_4 : decode cX10_init 4 = .ok (.aload_n 0, 1) := by decide +kernel
theorem dX10_init_5 : decode cX10_init 5 = .ok (.new 11, 3) := by decide +kernel
theorem dX10_init_8 : decode cX10_init 8 = .ok (.dup, 1) := by decide +kernel
theorem dX10_init_9 : decode cX10_init 9 = .ok (.invokespecial 13, 3) := by decide +kernel
theorem dX10_init_12 : decode cX10_init 12 = .ok (.putfield 14, 3) := by decide +kernel
theorem dX10_init_15 : decode cX10_init 15 = .ok (.aload_n 0, 1) := by decide +kernel
theorem dX10_init_16 : decode cX10_init 16 = .ok (.new 18, 3) := by decide +kernel
theorem dX10_init_19 : decode cX10_init 19 = .ok (.dup, 1) := by decide +kernel
theorem dX10_init_20 : decode cX10_init 20 = .ok (.invokespecial 20, 3) := by decide +kernel
theorem dX10_init_23 : decode cX10_init 23 = .ok (.putfield 21, 3) := by decide +kernel
theorem dX10_init_26 : decode cX10_init 26 = .ok (.aload_n 0, 1) := by decide +kernel
theorem dX10_init_27 : decode cX10_init 27 = .ok (.new 25, 3) := by decide +kernel
theorem dX10_init_30 : decode cX10_init 30 = .ok (.dup, 1) := by decide +kernel
theorem dX10_init_31 : decode cX10_init 31 = .ok (.invokespecial 27, 3) := by decide +kernel
theorem dX10_init_34 : decode cX10_init 34 = .ok (.putfield 28, 3) := by decide +kernel
theorem dX10_init_37 : decode cX10_init 37 = .ok (.aload_n 0, 1) := by decide +kernel
theorem dX10_init_38 : decode cX10_init 38 = .ok (.new 32, 3) := by decide +kernel
theorem dX10_init_41 : decode cX10_init 41 = .ok (.dup, 1) := by decide +kernel
theorem dX10_init_42 : decode cX10_init 42 = .ok (.invokespecial 34, 3) := by decide +kernel
theorem dX10_init_45 : decode cX10_init 45 = .ok (.putfield 35, 3) := by decide +kernel
theorem dX10_init_48 : decode cX10_init 48 = .ok (.aload_n 0, 1) := by decide +kernel
theorem dX10_init_49 : decode cX10_init 49 = .ok (.new 32, 3) := by decide +kernel
theorem dX10_init_52 : decode cX10_init 52 = .ok (.dup, 1) := by decide +kernel
theorem dX10_init_53 : decode cX10_init 53 = .ok (.invokespecial 34, 3) := by decide +kernel
theorem dX10_init_56 : decode cX10_init 56 = .ok (.putfield 39, 3) := by decide +kernel
theorem dX10_init_59 : decode cX10_init 59 = .ok (.aload_n 0, 1) := by decide +kernel
theorem dX10_init_60 : decode cX10_init 60 = .ok (.new 42, 3) := by decide +kernel
theorem dX10_init_63 : decode cX10_init 63 = .ok (.dup, 1) := by decide +kernel
theorem dX10_init_64 : decode cX10_init 64 = .ok (.invokespecial 44, 3) := by decide +kernel
theorem dX10_init_67 : decode cX10_init 67 = .ok (.putfield 45, 3) := by decide +kernel
theorem dX10_init_70 : decode cX10_init 70 = .ok (.aload_n 0, 1) := by decide +kernel
theorem dX10_init_71 : decode cX10_init 71 = .ok (.new 49, 3) := by decide +kernel
theorem dX10_init_74 : decode cX10_init 74 = .ok (.dup, 1) := by decide +kernel
theorem dX10_init_75 : decode cX10_init 75 = .ok (.invokespecial 51, 3) := by decide +kernel
theorem dX10_init_78 : decode cX10_init 78 = .ok (.putfield 52, 3) := by decide +kernel
theorem dX10_init_81 : decode cX10_init 81 = .ok (.aload_n 0, 1) := by decide +kernel
theorem dX10_init_82 : decode cX10_init 82 = .ok (.new 49, 3) := by decide +kernel
theorem dX10_init_85 : decode cX10_init 85 = .ok (.dup, 1) := by decide +kernel
theorem dX10_init_86 : decode cX10_init 86 = .ok (.invokespecial 51, 3) := by decide +kernel
theorem dX10_init_89 : decode cX10_init 89 = .ok (.putfield 56, 3) := by decide +kernel
theorem dX10_init_92 : decode cX10_init 92 = .ok (.aload_n 0, 1) := by decide +kernel
theorem dX10_init_93 : decode cX10_init 93 = .ok (.new 59, 3) := by decide +kernel
theorem dX10_init_96 : decode cX10_init 96 = .ok (.dup, 1) := by decide +kernel
theorem dX10_init_97 : decode cX10_init 97 = .ok (.invokespecial 61, 3) := by decide +kernel
theorem dX10_init_100 : decode cX10_init 100 = .ok (.putfield 62, 3) := by decide +kernel
theorem dX10_init_103 : decode cX10_init 103 = .ok (.aload_n 0, 1) := by decide +kernel
theorem dX10_init_104 : decode cX10_init 104 = .ok (.bipush 9, 2) := by decide +kernel
theorem dX10_init_106 : decode cX10_init 106 = .ok (.newarray .int, 2) := by decide +kernel
theorem dX10_init_108 : decode cX10_init 108 = .ok (.putfield 66, 3) := by decide +kernel
theorem dX10_init_111 : decode cX10_init 111 = .ok (.aload_n 0, 1) := by decide +kernel
theorem dX10_init_112 : decode cX10_init 112 = .ok (.new 70, 3) := by decide +kernel
theorem dX10_init_115 : decode cX10_init 115 = .ok (.dup, 1) := by decide +kernel
theorem dX10_init_116 : decode cX10_init 116 = .ok (.invokespecial 72, 3) := by decide +kernel
theorem dX10_init_119 : decode cX10_init 119 = .ok (.putfield 73, 3) := by decide +kernel
theorem dX10_init_122 : decode cX10_init 122 = .ok (.aload_n 0, 1) := by decide +kernel
theorem dX10_init_123 : decode cX10_init 123 = .ok (.new 32, 3) := by decide +kernel
theorem dX10_init_126 : decode cX10_init 126 = .ok (.dup, 1) := by decide +kernel
theorem dX10_init_127 : decode cX10_init 127 = .ok (.invokespecial 34, 3) := by decide +kernel
theorem dX10_init_130 : decode cX10_init 130 = .ok (.putfield 77, 3) := by decide +kernel
theorem dX10_init_133 : decode cX10_init 133 = .ok (.aload_n 0, 1) := by decide +kernel
theorem dX10_init_134 : decode cX10_init 134 = .ok (.new 42, 3) := by decide +kernel
theorem dX10_init_137 : decode cX10_init 137 = .ok (.dup, 1) := by decide +kernel
theorem dX10_init_138 : decode cX10_init 138 = .ok (.invokespecial 44, 3) := by decide +kernel
theorem dX10_init_141 : decode cX10_init 141 = .ok (.putfield 80, 3) := by decide +kernel
theorem dX10_init_144 : decode cX10_init 144 = .ok (.aload_n 0, 1) := by decide +kernel
theorem dX10_init_145 : decode cX10_init 145 = .ok (.iconst 0, 1) := by decide +kernel
theorem dX10_init_146 : decode cX10_init 146 = .ok (.putfield 83, 3) := by decide +kernel
theorem dX10_init_149 : decode cX10_init 149 = .ok (.return_, 1) := by decide +kernel
theorem dX10_set_0 : decode cX10_set 0 = .ok (.iload_n 1, 1) := by decide +kernel
theorem dX10_set_1 : decode cX10_set 1 = .ok (.iload_n 2, 1) := by decide +kernel
theorem dX10_set_2 : decode cX10_set 2 = .ok (.iload_n 3, 1) := by decide +kernel
theorem dX10_set_3 : decode cX10_set 3 = .ok (.invokestatic 87, 3) := by decide +kernel
theorem dX10_set_6 : decode cX10_set 6 = .ok (.ifCond .ne 5, 3) := by decide +kernel
theorem dX10_set_9 : decode cX10_set 9 = .ok (.iconst (-1), 1) := by decide +kernel
theorem dX10_set_10 : decode cX10_set 10 = .ok (.ireturn, 1) := by decide +kernel
theorem dX10_set_11 : decode cX10_set 11 = .ok (.iload 4, 2) := by decide +kernel
theorem dX10_set_13 : decode cX10_set 13 = .ok (.invokestatic 91, 3) := by decide +kernel
theorem dX10_set_16 : decode cX10_set 16 = .ok (.ifCond .ne 6, 3) := by decide +kernel
theorem dX10_set_19 : decode cX10_set 19 = .ok (.bipush (-2), 2) := by decide +kernel
theorem dX10_set_21 : decode cX10_set 21 = .ok (.ireturn, 1) := by decide +kernel
theorem dX10_set_22 : decode cX10_set 22 = .ok (.aload_n 0, 1) := by decide +kernel
theorem dX10_set_23 : decode cX10_set 23 = .ok (.getfield 14, 3) := by decide +kernel
theorem dX10_set_26 : decode cX10_set 26 = .ok (.getfield 95, 3) := by decide +kernel
theorem dX10_set_29 : decode cX10_set 29 = .ok (.iload_n 1, 1) := by decide +kernel
theorem dX10_set_30 : decode cX10_set 30 = .ok (.iload_n 2, 1) := by decide +kernel
theorem dX10_set_31 : decode cX10_set 31 = .ok (.iload_n 3, 1) := by decide +kernel
theorem dX10_set_32 : decode cX10_set 32 = .ok (.invokevirtual 98, 3) := by decide +kernel
theorem dX10_set_35 : decode cX10_set 35 = .ok (.istore 5, 2) := by decide +kernel
theorem dX10_set_37 : decode cX10_set 37 = .ok (.aload_n 0, 1) := by decide +kernel
theorem dX10_set_38 : decode cX10_set 38 = .ok (.getfield 14, 3) := by decide +kernel
theorem dX10_set_41 : decode cX10_set 41 = .ok (.iload_n 1, 1) := by decide +kernel
theorem dX10_set_42 : decode cX10_set 42 = .ok (.iload_n 2, 1) := by decide +kernel
theorem dX10_set_43 : decode cX10_set 43 = .ok (.iload_n 3, 1) := by decide +kernel
theorem dX10_set_44 : decode cX10_set 44 = .ok (.iload 4, 2) := by decide +kernel
theorem dX10_set_46 : decode cX10_set 46 = .ok (.invokevirtual 102, 3) := by decide +kernel
theorem dX10_set_49 : decode cX10_set 49 = .ok (.iload 5, 2) := by decide +kernel
theorem dX10_set_51 : decode cX10_set 51 = .ok (.ireturn, 1) := by decide +kernel
theorem dX10_of_0 : decode cX10_of 0 = .ok (.iload_n 1, 1) := by decide +kernel
theorem dX10_of_1 : decode cX10_of 1 = .ok (.iload_n 2, 1) := by decide +kernel
theorem dX10_of_2 : decode cX10_of 2 = .ok (.iload_n 3, 1) := by decide +kernel
theorem dX10_of_3 : decode cX10_of 3 = .ok (.invokestatic 87, 3) := by decide +kernel
theorem dX10_of_6 : decode cX10_of 6 = .ok (.ifCond .eq 19, 3) := by decide +kernel
theorem dX10_of_9 : decode cX10_of 9 = .ok (.aload_n 0, 1) := by decide +kernel
theorem dX10_of_10 : decode cX10_of 10 = .ok (.getfield 14, 3) := by decide +kernel
theorem dX10_of_13 : decode cX10_of 13 = .ok (.getfield 95, 3) := by decide +kernel
theorem dX10_of_16 : decode cX10_of 16 = .ok (.iload_n 1, 1) := by decide +kernel
theorem dX10_of_17 : decode cX10_of 17 = .ok (.iload_n 2, 1) := by decide +kernel
theorem dX10_of_18 : decode cX10_of 18 = .ok (.iload_n 3, 1) := by decide +kernel
theorem dX10_of_19 : decode cX10_of 19 = .ok (.invokevirtual 98, 3) := by decide +kernel
theorem dX10_of_22 : decode cX10_of 22 = .ok (.goto 4, 3) := by decide +kernel
theorem dX10_of_25 : decode cX10_of 25 = .ok (.iconst (-1), 1) := by decide +kernel
theorem dX10_of_26 : decode cX10_of 26 = .ok (.ireturn, 1) := by decide +kernel
theorem dX10_feed_0 : decode cX10_feed 0 = .ok (.iload_n 1, 1) := by decide +kernel
theorem dX10_feed_1 : decode cX10_feed 1 = .ok (.iconst 1, 1) := by decide +kernel
theorem dX10_feed_2 : decode cX10_feed 2 = .ok (.if_icmp .lt 9, 3) := by decide +kernel
theorem dX10_feed_5 : decode cX10_feed 5 = .ok (.iload_n 1, 1) := by decide +kernel
theorem dX10_feed_6 : decode cX10_feed 6 = .ok (.bipush 127, 2) := by decide +kernel
theorem dX10_feed_8 : decode cX10_feed 8 = .ok (.if_icmp .le 6, 3) := by decide +kernel
theorem dX10_feed_11 : decode cX10_feed 11 = .ok (.bipush (-2), 2) := by decide +kernel
theorem dX10_feed_13 : decode cX10_feed 13 = .ok (.ireturn, 1) := by decide +kernel
theorem dX10_feed_14 : decode cX10_feed 14 = .ok (.aload_n 0, 1) := by decide +kernel
theorem dX10_feed_15 : decode cX10_feed 15 = .ok (.getfield 52, 3) := by decide +kernel
theorem dX10_feed_18 : decode cX10_feed 18 = .ok (.getfield 106, 3) := by decide +kernel
theorem dX10_feed_21 : decode cX10_feed 21 = .ok (.bipush 60, 2) := by decide +kernel
theorem dX10_feed_23 : decode cX10_feed 23 = .ok (.if_icmp .lt 6, 3) := by decide +kernel
theorem dX10_feed_26 : decode cX10_feed 26 = .ok (.bipush (-4), 2) := by decide +kernel
theorem dX10_feed_28 : decode cX10_feed 28 = .ok (.ireturn, 1) := by decide +kernel
theorem dX10_feed_29 : decode cX10_feed 29 = .ok (.aload_n 0, 1) := by decide +kernel
theorem dX10_feed_30 : decode cX10_feed 30 = .ok (.getfield 52, 3) := by decide +kernel
theorem dX10_feed_33 : decode cX10_feed 33 = .ok (.iload_n 1, 1) := by decide +kernel
theorem dX10_feed_34 : decode cX10_feed 34 = .ok (.invokevirtual 110, 3) := by decide +kernel
theorem dX10_feed_37 : decode cX10_feed 37 = .ok (.aload_n 0, 1) := by decide +kernel
theorem dX10_feed_38 : decode cX10_feed 38 = .ok (.getfield 52, 3) := by decide +kernel
theorem dX10_feed_41 : decode cX10_feed 41 = .ok (.getfield 106, 3) := by decide +kernel
theorem dX10_feed_44 : decode cX10_feed 44 = .ok (.ireturn, 1) := by decide +kernel
theorem dX10_table_0 : decode cX10_table 0 = .ok (.iload_n 1, 1) := by decide +kernel
theorem dX10_table_1 : decode cX10_table 1 = .ok (.invokestatic 114, 3) := by decide +kernel
theorem dX10_table_4 : decode cX10_table 4 = .ok (.ifCond .ne 5, 3) := by decide +kernel
theorem dX10_table_7 : decode cX10_table 7 = .ok (.iconst (-1), 1) := by decide +kernel
theorem dX10_table_8 : decode cX10_table 8 = .ok (.ireturn, 1) := by decide +kernel
theorem dX10_table_9 : decode cX10_table 9 = .ok (.aload_n 0, 1) := by decide +kernel
theorem dX10_table_10 : decode cX10_table 10 = .ok (.getfield 52, 3) := by decide +kernel
theorem dX10_table_13 : decode cX10_table 13 = .ok (.aload_n 0, 1) := by decide +kernel
theorem dX10_table_14 : decode cX10_table 14 = .ok (.getfield 66, 3) := by decide +kernel
theorem dX10_table_17 : decode cX10_table 17 = .ok (.invokevirtual 117, 3) := by decide +kernel
theorem dX10_table_20 : decode cX10_table 20 = .ok (.istore_n 2, 1) := by decide +kernel
theorem dX10_table_21 : decode cX10_table 21 = .ok (.aload_n 0, 1) := by decide +kernel
theorem dX10_table_22 : decode cX10_table 22 = .ok (.getfield 52, 3) := by decide +kernel
theorem dX10_table_25 : decode cX10_table 25 = .ok (.iconst 0, 1) := by decide +kernel
theorem dX10_table_26 : decode cX10_table 26 = .ok (.putfield 106, 3) := by decide +kernel
theorem dX10_table_29 : decode cX10_table 29 = .ok (.iload_n 2, 1) := by decide +kernel
theorem dX10_table_30 : decode cX10_table 30 = .ok (.ifCond .lt 15, 3) := by decide +kernel
theorem dX10_table_33 : decode cX10_table 33 = .ok (.aload_n 0, 1) := by decide +kernel
theorem dX10_table_34 : decode cX10_table 34 = .ok (.getfield 14, 3) := by decide +kernel
theorem dX10_table_37 : decode cX10_table 37 = .ok (.iload_n 1, 1) := by decide +kernel
theorem dX10_table_38 : decode cX10_table 38 = .ok (.aload_n 0, 1) := by decide +kernel
theorem dX10_table_39 : decode cX10_table 39 = .ok (.getfield 66, 3) := by decide +kernel
theorem dX10_table_42 : decode cX10_table 42 = .ok (.invokevirtual 121, 3) := by decide +kernel
theorem dX10_table_45 : decode cX10_table 45 = .ok (.iload_n 2, 1) := by decide +kernel
theorem dX10_table_46 : decode cX10_table 46 = .ok (.ireturn, 1) := by decide +kernel
theorem dX10_value_0 : decode cX10_value 0 = .ok (.iload_n 1, 1) := by decide +kernel
theorem dX10_value_1 : decode cX10_value 1 = .ok (.invokestatic 114, 3) := by decide +kernel
theorem dX10_value_4 : decode cX10_value 4 = .ok (.ifCond .eq 27, 3) := by decide +kernel
theorem dX10_value_7 : decode cX10_value 7 = .ok (.iload_n 2, 1) := by decide +kernel
theorem dX10_value_8 : decode cX10_value 8 = .ok (.iload_n 3, 1) := by decide +kernel
theorem dX10_value_9 : decode cX10_value 9 = .ok (.invokestatic 125, 3) := by decide +kernel
theorem dX10_value_12 : decode cX10_value 12 = .ok (.ifCond .eq 19, 3) := by decide +kernel
theorem dX10_value_15 : decode cX10_value 15 = .ok (.aload_n 0, 1) := by decide +kernel
theorem dX10_value_16 : decode cX10_value 16 = .ok (.getfield 14, 3) := by decide +kernel
theorem dX10_value_19 : decode cX10_value 19 = .ok (.getfield 95, 3) := by decide +kernel
theorem dX10_value_22 : decode cX10_value 22 = .ok (.iload_n 1, 1) := by decide +kernel
theorem dX10_value_23 : decode cX10_value 23 = .ok (.iload_n 2, 1) := by decide +kernel
theorem dX10_value_24 : decode cX10_value 24 = .ok (.iload_n 3, 1) := by decide +kernel
theorem dX10_value_25 : decode cX10_value 25 = .ok (.invokevirtual 129, 3) := by decide +kernel
theorem dX10_value_28 : decode cX10_value 28 = .ok (.goto 4, 3) := by decide +kernel
theorem dX10_value_31 : decode cX10_value 31 = .ok (.iconst (-1), 1) := by decide +kernel
theorem dX10_value_32 : decode cX10_value 32 = .ok (.ireturn, 1) := by decide +kernel
theorem dX10_kept_0 : decode cX10_kept 0 = .ok (.iload_n 1, 1) := by decide +kernel
theorem dX10_kept_1 : decode cX10_kept 1 = .ok (.iload_n 2, 1) := by decide +kernel
theorem dX10_kept_2 : decode cX10_kept 2 = .ok (.invokestatic 125, 3) := by decide +kernel
theorem dX10_kept_5 : decode cX10_kept 5 = .ok (.ifCond .eq 18, 3) := by decide +kernel
theorem dX10_kept_8 : decode cX10_kept 8 = .ok (.aload_n 0, 1) := by decide +kernel
theorem dX10_kept_9 : decode cX10_kept 9 = .ok (.getfield 14, 3) := by decide +kernel
theorem dX10_kept_12 : decode cX10_kept 12 = .ok (.getfield 95, 3) := by decide +kernel
theorem dX10_kept_15 : decode cX10_kept 15 = .ok (.iload_n 1, 1) := by decide +kernel
theorem dX10_kept_16 : decode cX10_kept 16 = .ok (.iload_n 2, 1) := by decide +kernel
theorem dX10_kept_17 : decode cX10_kept 17 = .ok (.invokevirtual 132, 3) := by decide +kernel
theorem dX10_kept_20 : decode cX10_kept 20 = .ok (.goto 4, 3) := by decide +kernel
theorem dX10_kept_23 : decode cX10_kept 23 = .ok (.iconst (-1), 1) := by decide +kernel
theorem dX10_kept_24 : decode cX10_kept 24 = .ok (.ireturn, 1) := by decide +kernel
theorem dX10_swap_0 : decode cX10_swap 0 = .ok (.iload_n 1, 1) := by decide +kernel
theorem dX10_swap_1 : decode cX10_swap 1 = .ok (.invokestatic 136, 3) := by decide +kernel
theorem dX10_swap_4 : decode cX10_swap 4 = .ok (.ifCond .eq 11, 3) := by decide +kernel
theorem dX10_swap_7 : decode cX10_swap 7 = .ok (.iload_n 2, 1) := by decide +kernel
theorem dX10_swap_8 : decode cX10_swap 8 = .ok (.iload_n 3, 1) := by decide +kernel
theorem dX10_swap_9 : decode cX10_swap 9 = .ok (.invokestatic 125, 3) := by decide +kernel
theorem dX10_swap_12 : decode cX10_swap 12 = .ok (.ifCond .ne 5, 3) := by decide +kernel
theorem dX10_swap_15 : decode cX10_swap 15 = .ok (.iconst (-1), 1) := by decide +kernel
theorem dX10_swap_16 : decode cX10_swap 16 = .ok (.ireturn, 1) := by decide +kernel
theorem dX10_swap_17 : decode cX10_swap 17 = .ok (.iload_n 1, 1) := by decide +kernel
theorem dX10_swap_18 : decode cX10_swap 18 = .ok (.ifCond .ne 16, 3) := by decide +kernel
theorem dX10_swap_21 : decode cX10_swap 21 = .ok (.aload_n 0, 1) := by decide +kernel
theorem dX10_swap_22 : decode cX10_swap 22 = .ok (.getfield 14, 3) := by decide +kernel
theorem dX10_swap_25 : decode cX10_swap 25 = .ok (.iconst 0, 1) := by decide +kernel
theorem dX10_swap_26 : decode cX10_swap 26 = .ok (.iload_n 2, 1) := by decide +kernel
theorem dX10_swap_27 : decode cX10_swap 27 = .ok (.iload_n 3, 1) := by decide +kernel
theorem dX10_swap_28 : decode cX10_swap 28 = .ok (.invokevirtual 139, 3) := by decide +kernel
theorem dX10_swap_31 : decode cX10_swap 31 = .ok (.goto 13, 3) := by decide +kernel
theorem dX10_swap_34 : decode cX10_swap 34 = .ok (.aload_n 0, 1) := by decide +kernel
theorem dX10_swap_35 : decode cX10_swap 35 = .ok (.getfield 14, 3) := by decide +kernel
theorem dX10_swap_38 : decode cX10_swap 38 = .ok (.iconst 1, 1) := by decide +kernel
theorem dX10_swap_39 : decode cX10_swap 39 = .ok (.iload_n 3, 1) := by decide +kernel
theorem dX10_swap_40 : decode cX10_swap 40 = .ok (.iload_n 2, 1) := by decide +kernel
theorem dX10_swap_41 : decode cX10_swap 41 = .ok (.invokevirtual 139, 3) := by decide +kernel
theorem dX10_swap_44 : decode cX10_swap 44 = .ok (.ireturn, 1) := by decide +kernel
theorem dX10_row_0 : decode cX10_row 0 = .ok (.iload_n 1, 1) := by decide +kernel
theorem dX10_row_1 : decode cX10_row 1 = .ok (.invokestatic 136, 3) := by decide +kernel
theorem dX10_row_4 : decode cX10_row 4 = .ok (.ifCond .eq 19, 3) := by decide +kernel
theorem dX10_row_7 : decode cX10_row 7 = .ok (.iload_n 2, 1) := by decide +kernel
theorem dX10_row_8 : decode cX10_row 8 = .ok (.invokestatic 142, 3) := by decide +kernel
theorem dX10_row_11 : decode cX10_row 11 = .ok (.ifCond .eq 12, 3) := by decide +kernel
theorem dX10_row_14 : decode cX10_row 14 = .ok (.iload_n 3, 1) := by decide +kernel
theorem dX10_row_15 : decode cX10_row 15 = .ok (.ifCond .lt 8, 3) := by decide +kernel
theorem dX10_row_18 : decode cX10_row 18 = .ok (.iload_n 3, 1) := by decide +kernel
theorem dX10_row_19 : decode cX10_row 19 = .ok (.iconst 2, 1) := by decide +kernel
theorem dX10_row_20 : decode cX10_row 20 = .ok (.if_icmp .le 5, 3) := by decide +kernel
theorem dX10_row_23 : decode cX10_row 23 = .ok (.iconst (-1), 1) := by decide +kernel
theorem dX10_row_24 : decode cX10_row 24 = .ok (.ireturn, 1) := by decide +kernel
theorem dX10_row_25 : decode cX10_row 25 = .ok (.aload_n 0, 1) := by decide +kernel
theorem dX10_row_26 : decode cX10_row 26 = .ok (.getfield 14, 3) := by decide +kernel
theorem dX10_row_29 : decode cX10_row 29 = .ok (.iload_n 1, 1) := by decide +kernel
theorem dX10_row_30 : decode cX10_row 30 = .ok (.iload_n 2, 1) := by decide +kernel
theorem dX10_row_31 : decode cX10_row 31 = .ok (.iload_n 3, 1) := by decide +kernel
theorem dX10_row_32 : decode cX10_row 32 = .ok (.invokevirtual 145, 3) := by decide +kernel
theorem dX10_row_35 : decode cX10_row 35 = .ok (.ireturn, 1) := by decide +kernel
theorem dX10_pinched_0 : decode cX10_pinched 0 = .ok (.iload_n 1, 1) := by decide +kernel
theorem dX10_pinched_1 : decode cX10_pinched 1 = .ok (.invokestatic 136, 3) := by decide +kernel
theorem dX10_pinched_4 : decode cX10_pinched 4 = .ok (.ifCond .eq 14, 3) := by decide +kernel
theorem dX10_pinched_7 : decode cX10_pinched 7 = .ok (.aload_n 0, 1) := by decide +kernel
theorem dX10_pinched_8 : decode cX10_pinched 8 = .ok (.getfield 14, 3) := by decide +kernel
theorem dX10_pinched_11 : decode cX10_pinched 11 = .ok (.iload_n 1, 1) := by decide +kernel
theorem dX10_pinched_12 : decode cX10_pinched 12 = .ok (.invokevirtual 148, 3) := by decide +kernel
theorem dX10_pinched_15 : decode cX10_pinched 15 = .ok (.goto 6, 3) := by decide +kernel
theorem dX10_pinched_18 : decode cX10_pinched 18 = .ok (.ldc2_w 152, 3) := by decide +kernel
theorem dX10_pinched_21 : decode cX10_pinched 21 = .ok (.lreturn, 1) := by decide +kernel
theorem dX10_behind_0 : decode cX10_behind 0 = .ok (.iload_n 1, 1) := by decide +kernel
theorem dX10_behind_1 : decode cX10_behind 1 = .ok (.iload_n 2, 1) := by decide +kernel
theorem dX10_behind_2 : decode cX10_behind 2 = .ok (.invokestatic 125, 3) := by decide +kernel
theorem dX10_behind_5 : decode cX10_behind 5 = .ok (.ifCond .ne 5, 3) := by decide +kernel
theorem dX10_behind_8 : decode cX10_behind 8 = .ok (.iconst (-1), 1) := by decide +kernel
theorem dX10_behind_9 : decode cX10_behind 9 = .ok (.ireturn, 1) := by decide +kernel
theorem dX10_behind_10 : decode cX10_behind 10 = .ok (.iload_n 3, 1) := by decide +kernel
theorem dX10_behind_11 : decode cX10_behind 11 = .ok (.bipush (-99), 2) := by decide +kernel
theorem dX10_behind_13 : decode cX10_behind 13 = .ok (.if_icmp .lt 9, 3) := by decide +kernel
theorem dX10_behind_16 : decode cX10_behind 16 = .ok (.iload_n 3, 1) := by decide +kernel
theorem dX10_behind_17 : decode cX10_behind 17 = .ok (.bipush 99, 2) := by decide +kernel
theorem dX10_behind_19 : decode cX10_behind 19 = .ok (.if_icmp .le 6, 3) := by decide +kernel
theorem dX10_behind_22 : decode cX10_behind 22 = .ok (.bipush (-2), 2) := by decide +kernel
theorem dX10_behind_24 : decode cX10_behind 24 = .ok (.ireturn, 1) := by decide +kernel
theorem dX10_behind_25 : decode cX10_behind 25 = .ok (.iload_n 1, 1) := by decide +kernel
theorem dX10_behind_26 : decode cX10_behind 26 = .ok (.bipush 32, 2) := by decide +kernel
theorem dX10_behind_28 : decode cX10_behind 28 = .ok (.imul, 1) := by decide +kernel
theorem dX10_behind_29 : decode cX10_behind 29 = .ok (.iload_n 2, 1) := by decide +kernel
theorem dX10_behind_30 : decode cX10_behind 30 = .ok (.iadd, 1) := by decide +kernel
theorem dX10_behind_31 : decode cX10_behind 31 = .ok (.istore 4, 2) := by decide +kernel
theorem dX10_behind_33 : decode cX10_behind 33 = .ok (.iload_n 3, 1) := by decide +kernel
theorem dX10_behind_34 : decode cX10_behind 34 = .ok (.ifCond .ge 17, 3) := by decide +kernel
theorem dX10_behind_37 : decode cX10_behind 37 = .ok (.aload_n 0, 1) := by decide +kernel
theorem dX10_behind_38 : decode cX10_behind 38 = .ok (.getfield 14, 3) := by decide +kernel
theorem dX10_behind_41 : decode cX10_behind 41 = .ok (.iload 4, 2) := by decide +kernel
theorem dX10_behind_43 : decode cX10_behind 43 = .ok (.iload_n 3, 1) := by decide +kernel
theorem dX10_behind_44 : decode cX10_behind 44 = .ok (.ineg, 1) := by decide +kernel
theorem dX10_behind_45 : decode cX10_behind 45 = .ok (.invokevirtual 154, 3) := by decide +kernel
theorem dX10_behind_48 : decode cX10_behind 48 = .ok (.goto 13, 3) := by decide +kernel
theorem dX10_behind_51 : decode cX10_behind 51 = .ok (.aload_n 0, 1) := by decide +kernel
theorem dX10_behind_52 : decode cX10_behind 52 = .ok (.getfield 14, 3) := by decide +kernel
theorem dX10_behind_55 : decode cX10_behind 55 = .ok (.iload 4, 2) := by decide +kernel
theorem dX10_behind_57 : decode cX10_behind 57 = .ok (.iload_n 3, 1) := by decide +kernel
theorem dX10_behind_58 : decode cX10_behind 58 = .ok (.invokevirtual 157, 3) := by decide +kernel
theorem dX10_behind_61 : decode cX10_behind 61 = .ok (.ireturn, 1) := by decide +kernel
theorem dX10_period_0 : decode cX10_period 0 = .ok (.iload_n 1, 1) := by decide +kernel
theorem dX10_period_1 : decode cX10_period 1 = .ok (.iload_n 2, 1) := by decide +kernel
theorem dX10_period_2 : decode cX10_period 2 = .ok (.invokestatic 125, 3) := by decide +kernel
theorem dX10_period_5 : decode cX10_period 5 = .ok (.ifCond .eq 19, 3) := by decide +kernel
theorem dX10_period_8 : decode cX10_period 8 = .ok (.aload_n 0, 1) := by decide +kernel
theorem dX10_period_9 : decode cX10_period 9 = .ok (.getfield 14, 3) := by decide +kernel
theorem dX10_period_12 : decode cX10_period 12 = .ok (.iload_n 1, 1) := by decide +kernel
theorem dX10_period_13 : decode cX10_period 13 = .ok (.bipush 32, 2) := by decide +kernel
theorem dX10_period_15 : decode cX10_period 15 = .ok (.imul, 1) := by decide +kernel
theorem dX10_period_16 : decode cX10_period 16 = .ok (.iload_n 2, 1) := by decide +kernel
theorem dX10_period_17 : decode cX10_period 17 = .ok (.iadd, 1) := by decide +kernel
theorem dX10_period_18 : decode cX10_period 18 = .ok (.invokevirtual 160, 3) := by decide +kernel
theorem dX10_period_21 : decode cX10_period 21 = .ok (.goto 4, 3) := by decide +kernel
theorem dX10_period_24 : decode cX10_period 24 = .ok (.iconst (-1), 1) := by decide +kernel
theorem dX10_period_25 : decode cX10_period 25 = .ok (.ireturn, 1) := by decide +kernel
theorem dX10_fibre_0 : decode cX10_fibre 0 = .ok (.iload_n 1, 1) := by decide +kernel
theorem dX10_fibre_1 : decode cX10_fibre 1 = .ok (.invokestatic 142, 3) := by decide +kernel
theorem dX10_fibre_4 : decode cX10_fibre 4 = .ok (.ifCond .eq 15, 3) := by decide +kernel
theorem dX10_fibre_7 : decode cX10_fibre 7 = .ok (.aload_n 0, 1) := by decide +kernel
theorem dX10_fibre_8 : decode cX10_fibre 8 = .ok (.getfield 14, 3) := by decide +kernel
theorem dX10_fibre_11 : decode cX10_fibre 11 = .ok (.iload_n 1, 1) := by decide +kernel
theorem dX10_fibre_12 : decode cX10_fibre 12 = .ok (.iload_n 2, 1) := by decide +kernel
theorem dX10_fibre_13 : decode cX10_fibre 13 = .ok (.invokevirtual 164, 3) := by decide +kernel
theorem dX10_fibre_16 : decode cX10_fibre 16 = .ok (.goto 4, 3) := by decide +kernel
theorem dX10_fibre_19 : decode cX10_fibre 19 = .ok (.iconst (-1), 1) := by decide +kernel
theorem dX10_fibre_20 : decode cX10_fibre 20 = .ok (.ireturn, 1) := by decide +kernel
theorem dX10_base_0 : decode cX10_base 0 = .ok (.aload_n 0, 1) := by decide +kernel
theorem dX10_base_1 : decode cX10_base 1 = .ok (.getfield 14, 3) := by decide +kernel
theorem dX10_base_4 : decode cX10_base 4 = .ok (.bipush (-6), 2) := by decide +kernel
theorem dX10_base_6 : decode cX10_base 6 = .ok (.iload_n 1, 1) := by decide +kernel
theorem dX10_base_7 : decode cX10_base 7 = .ok (.invokevirtual 164, 3) := by decide +kernel
theorem dX10_base_10 : decode cX10_base 10 = .ok (.ireturn, 1) := by decide +kernel
theorem dX10_rank_0 : decode cX10_rank 0 = .ok (.iload_n 1, 1) := by decide +kernel
theorem dX10_rank_1 : decode cX10_rank 1 = .ok (.invokestatic 142, 3) := by decide +kernel
theorem dX10_rank_4 : decode cX10_rank 4 = .ok (.ifCond .eq 14, 3) := by decide +kernel
theorem dX10_rank_7 : decode cX10_rank 7 = .ok (.aload_n 0, 1) := by decide +kernel
theorem dX10_rank_8 : decode cX10_rank 8 = .ok (.getfield 14, 3) := by decide +kernel
theorem dX10_rank_11 : decode cX10_rank 11 = .ok (.iload_n 1, 1) := by decide +kernel
theorem dX10_rank_12 : decode cX10_rank 12 = .ok (.invokevirtual 167, 3) := by decide +kernel
theorem dX10_rank_15 : decode cX10_rank 15 = .ok (.goto 4, 3) := by decide +kernel
theorem dX10_rank_18 : decode cX10_rank 18 = .ok (.iconst (-1), 1) := by decide +kernel
theorem dX10_rank_19 : decode cX10_rank 19 = .ok (.ireturn, 1) := by decide +kernel
theorem dX10_cycles_0 : decode cX10_cycles 0 = .ok (.iload_n 2, 1) := by decide +kernel
theorem dX10_cycles_1 : decode cX10_cycles 1 = .ok (.ifCond .lt 8, 3) := by decide +kernel
theorem dX10_cycles_4 : decode cX10_cycles 4 = .ok (.iload_n 2, 1) := by decide +kernel
theorem dX10_cycles_5 : decode cX10_cycles 5 = .ok (.iconst 2, 1) := by decide +kernel
theorem dX10_cycles_6 : decode cX10_cycles 6 = .ok (.if_icmp .le 15, 3) := by decide +kernel
theorem dX10_cycles_9 : decode cX10_cycles 9 = .ok (.iload_n 2, 1) := by decide +kernel
theorem dX10_cycles_10 : decode cX10_cycles 10 = .ok (.bipush 10, 2) := by decide +kernel
theorem dX10_cycles_12 : decode cX10_cycles 12 = .ok (.if_icmp .lt 13, 3) := by decide +kernel
theorem dX10_cycles_15 : decode cX10_cycles 15 = .ok (.iload_n 2, 1) := by decide +kernel
theorem dX10_cycles_16 : decode cX10_cycles 16 = .ok (.bipush 90, 2) := by decide +kernel
theorem dX10_cycles_18 : decode cX10_cycles 18 = .ok (.if_icmp .ge 7, 3) := by decide +kernel
theorem dX10_cycles_21 : decode cX10_cycles 21 = .ok (.iconst 1, 1) := by decide +kernel
theorem dX10_cycles_22 : decode cX10_cycles 22 = .ok (.goto 4, 3) := by decide +kernel
theorem dX10_cycles_25 : decode cX10_cycles 25 = .ok (.iconst 0, 1) := by decide +kernel
theorem dX10_cycles_26 : decode cX10_cycles 26 = .ok (.istore_n 3, 1) := by decide +kernel
theorem dX10_cycles_27 : decode cX10_cycles 27 = .ok (.iload_n 1, 1) := by decide +kernel
theorem dX10_cycles_28 : decode cX10_cycles 28 = .ok (.invokestatic 142, 3) := by decide +kernel
theorem dX10_cycles_31 : decode cX10_cycles 31 = .ok (.ifCond .eq 7, 3) := by decide +kernel
theorem dX10_cycles_34 : decode cX10_cycles 34 = .ok (.iload_n 3, 1) := by decide +kernel
theorem dX10_cycles_35 : decode cX10_cycles 35 = .ok (.ifCond .ne 5, 3) := by decide +kernel
theorem dX10_cycles_38 : decode cX10_cycles 38 = .ok (.iconst (-1), 1) := by decide +kernel
theorem dX10_cycles_39 : decode cX10_cycles 39 = .ok (.ireturn, 1) := by decide +kernel
theorem dX10_cycles_40 : decode cX10_cycles 40 = .ok (.aload_n 0, 1) := by decide +kernel
theorem dX10_cycles_41 : decode cX10_cycles 41 = .ok (.getfield 21, 3) := by decide +kernel
theorem dX10_cycles_44 : decode cX10_cycles 44 = .ok (.aload_n 0, 1) := by decide +kernel
theorem dX10_cycles_45 : decode cX10_cycles 45 = .ok (.getfield 14, 3) := by decide +kernel
theorem dX10_cycles_48 : decode cX10_cycles 48 = .ok (.invokevirtual 170, 3) := by decide +kernel
theorem dX10_cycles_51 : decode cX10_cycles 51 = .ok (.aload_n 0, 1) := by decide +kernel
theorem dX10_cycles_52 : decode cX10_cycles 52 = .ok (.getfield 21, 3) := by decide +kernel
theorem dX10_cycles_55 : decode cX10_cycles 55 = .ok (.aload_n 0, 1) := by decide +kernel
theorem dX10_cycles_56 : decode cX10_cycles 56 = .ok (.getfield 14, 3) := by decide +kernel
theorem dX10_cycles_59 : decode cX10_cycles 59 = .ok (.iload_n 1, 1) := by decide +kernel
theorem dX10_cycles_60 : decode cX10_cycles 60 = .ok (.invokevirtual 174, 3) := by decide +kernel
theorem dX10_cycles_63 : decode cX10_cycles 63 = .ok (.iload_n 2, 1) := by decide +kernel
theorem dX10_cycles_64 : decode cX10_cycles 64 = .ok (.iconst 2, 1) := by decide +kernel
theorem dX10_cycles_65 : decode cX10_cycles 65 = .ok (.if_icmp .gt 14, 3) := by decide +kernel
theorem dX10_cycles_68 : decode cX10_cycles 68 = .ok (.aload_n 0, 1) := by decide +kernel
theorem dX10_cycles_69 : decode cX10_cycles 69 = .ok (.getfield 21, 3) := by decide +kernel
theorem dX10_cycles_72 : decode cX10_cycles 72 = .ok (.iload_n 2, 1) := by decide +kernel
theorem dX10_cycles_73 : decode cX10_cycles 73 = .ok (.invokevirtual 178, 3) := by decide +kernel
theorem dX10_cycles_76 : decode cX10_cycles 76 = .ok (.goto 11, 3) := by decide +kernel
theorem dX10_cycles_79 : decode cX10_cycles 79 = .ok (.aload_n 0, 1) := by decide +kernel
theorem dX10_cycles_80 : decode cX10_cycles 80 = .ok (.getfield 21, 3) := by decide +kernel
theorem dX10_cycles_83 : decode cX10_cycles 83 = .ok (.iload_n 2, 1) := by decide +kernel
theorem dX10_cycles_84 : decode cX10_cycles 84 = .ok (.invokevirtual 181, 3) := by decide +kernel
theorem dX10_cycles_87 : decode cX10_cycles 87 = .ok (.ireturn, 1) := by decide +kernel
theorem dX10_degree_0 : decode cX10_degree 0 = .ok (.iload_n 3, 1) := by decide +kernel
theorem dX10_degree_1 : decode cX10_degree 1 = .ok (.invokestatic 136, 3) := by decide +kernel
theorem dX10_degree_4 : decode cX10_degree 4 = .ok (.ifCond .eq 10, 3) := by decide +kernel
theorem dX10_degree_7 : decode cX10_degree 7 = .ok (.iload_n 2, 1) := by decide +kernel
theorem dX10_degree_8 : decode cX10_degree 8 = .ok (.invokestatic 91, 3) := by decide +kernel
theorem dX10_degree_11 : decode cX10_degree 11 = .ok (.ifCond .ne 5, 3) := by decide +kernel
theorem dX10_degree_14 : decode cX10_degree 14 = .ok (.iconst (-1), 1) := by decide +kernel
theorem dX10_degree_15 : decode cX10_degree 15 = .ok (.ireturn, 1) := by decide +kernel
theorem dX10_degree_16 : decode cX10_degree 16 = .ok (.iload_n 1, 1) := by decide +kernel
theorem dX10_degree_17 : decode cX10_degree 17 = .ok (.ifCond .lt 8, 3) := by decide +kernel
theorem dX10_degree_20 : decode cX10_degree 20 = .ok (.iload_n 1, 1) := by decide +kernel
theorem dX10_degree_21 : decode cX10_degree 21 = .ok (.iconst 3, 1) := by decide +kernel
theorem dX10_degree_22 : decode cX10_degree 22 = .ok (.if_icmp .le 6, 3) := by decide +kernel
theorem dX10_degree_25 : decode cX10_degree 25 = .ok (.bipush (-2), 2) := by decide +kernel
theorem dX10_degree_27 : decode cX10_degree 27 = .ok (.ireturn, 1) := by decide +kernel
theorem dX10_degree_28 : decode cX10_degree 28 = .ok (.aload_n 0, 1) := by decide +kernel
theorem dX10_degree_29 : decode cX10_degree 29 = .ok (.getfield 28, 3) := by decide +kernel
theorem dX10_degree_32 : decode cX10_degree 32 = .ok (.aload_n 0, 1) := by decide +kernel
theorem dX10_degree_33 : decode cX10_degree 33 = .ok (.getfield 14, 3) := by decide +kernel
theorem dX10_degree_36 : decode cX10_degree 36 = .ok (.getfield 95, 3) := by decide +kernel
theorem dX10_degree_39 : decode cX10_degree 39 = .ok (.iload_n 1, 1) := by decide +kernel
theorem dX10_degree_40 : decode cX10_degree 40 = .ok (.iload_n 2, 1) := by decide +kernel
theorem dX10_degree_41 : decode cX10_degree 41 = .ok (.iload_n 3, 1) := by decide +kernel
theorem dX10_degree_42 : decode cX10_degree 42 = .ok (.invokevirtual 184, 3) := by decide +kernel
theorem dX10_degree_45 : decode cX10_degree 45 = .ok (.ireturn, 1) := by decide +kernel
theorem dX10_tell_0 : decode cX10_tell 0 = .ok (.iload_n 1, 1) := by decide +kernel
theorem dX10_tell_1 : decode cX10_tell 1 = .ok (.iload_n 2, 1) := by decide +kernel
theorem dX10_tell_2 : decode cX10_tell 2 = .ok (.invokestatic 125, 3) := by decide +kernel
theorem dX10_tell_5 : decode cX10_tell 5 = .ok (.ifCond .ne 5, 3) := by decide +kernel
theorem dX10_tell_8 : decode cX10_tell 8 = .ok (.iconst (-1), 1) := by decide +kernel
theorem dX10_tell_9 : decode cX10_tell 9 = .ok (.ireturn, 1) := by decide +kernel
theorem dX10_tell_10 : decode cX10_tell 10 = .ok (.aload_n 0, 1) := by decide +kernel
theorem dX10_tell_11 : decode cX10_tell 11 = .ok (.getfield 35, 3) := by decide +kernel
theorem dX10_tell_14 : decode cX10_tell 14 = .ok (.iload_n 1, 1) := by decide +kernel
theorem dX10_tell_15 : decode cX10_tell 15 = .ok (.bipush 32, 2) := by decide +kernel
theorem dX10_tell_17 : decode cX10_tell 17 = .ok (.imul, 1) := by decide +kernel
theorem dX10_tell_18 : decode cX10_tell 18 = .ok (.iload_n 2, 1) := by decide +kernel
theorem dX10_tell_19 : decode cX10_tell 19 = .ok (.iadd, 1) := by decide +kernel
theorem dX10_tell_20 : decode cX10_tell 20 = .ok (.invokevirtual 188, 3) := by decide +kernel
theorem dX10_tell_23 : decode cX10_tell 23 = .ok (.ifCond .eq 6, 3) := by decide +kernel
theorem dX10_tell_26 : decode cX10_tell 26 = .ok (.bipush (-3), 2) := by decide +kernel
theorem dX10_tell_28 : decode cX10_tell 28 = .ok (.ireturn, 1) := by decide +kernel
theorem dX10_tell_29 : decode cX10_tell 29 = .ok (.aload_n 0, 1) := by decide +kernel
theorem dX10_tell_30 : decode cX10_tell 30 = .ok (.getfield 35, 3) := by decide +kernel
theorem dX10_tell_33 : decode cX10_tell 33 = .ok (.invokevirtual 191, 3) := by decide +kernel
theorem dX10_tell_36 : decode cX10_tell 36 = .ok (.ifCond .eq 6, 3) := by decide +kernel
theorem dX10_tell_39 : decode cX10_tell 39 = .ok (.bipush (-4), 2) := by decide +kernel
theorem dX10_tell_41 : decode cX10_tell 41 = .ok (.ireturn, 1) := by decide +kernel
theorem dX10_tell_42 : decode cX10_tell 42 = .ok (.aload_n 0, 1) := by decide +kernel
theorem dX10_tell_43 : decode cX10_tell 43 = .ok (.getfield 35, 3) := by decide +kernel
theorem dX10_tell_46 : decode cX10_tell 46 = .ok (.iload_n 1, 1) := by decide +kernel
theorem dX10_tell_47 : decode cX10_tell 47 = .ok (.bipush 32, 2) := by decide +kernel
theorem dX10_tell_49 : decode cX10_tell 49 = .ok (.imul, 1) := by decide +kernel
theorem dX10_tell_50 : decode cX10_tell 50 = .ok (.iload_n 2, 1) := by decide +kernel
theorem dX10_tell_51 : decode cX10_tell 51 = .ok (.iadd, 1) := by decide +kernel
theorem dX10_tell_52 : decode cX10_tell 52 = .ok (.invokevirtual 195, 3) := by decide +kernel
theorem dX10_tell_55 : decode cX10_tell 55 = .ok (.aload_n 0, 1) := by decide +kernel
theorem dX10_tell_56 : decode cX10_tell 56 = .ok (.getfield 35, 3) := by decide +kernel
theorem dX10_tell_59 : decode cX10_tell 59 = .ok (.getfield 198, 3) := by decide +kernel
theorem dX10_tell_62 : decode cX10_tell 62 = .ok (.ireturn, 1) := by decide +kernel
theorem dX10_forget_0 : decode cX10_forget 0 = .ok (.iload_n 1, 1) := by decide +kernel
theorem dX10_forget_1 : decode cX10_forget 1 = .ok (.iload_n 2, 1) := by decide +kernel
theorem dX10_forget_2 : decode cX10_forget 2 = .ok (.invokestatic 125, 3) := by decide +kernel
theorem dX10_forget_5 : decode cX10_forget 5 = .ok (.ifCond .ne 5, 3) := by decide +kernel
theorem dX10_forget_8 : decode cX10_forget 8 = .ok (.iconst (-1), 1) := by decide +kernel
theorem dX10_forget_9 : decode cX10_forget 9 = .ok (.ireturn, 1) := by decide +kernel
theorem dX10_forget_10 : decode cX10_forget 10 = .ok (.aload_n 0, 1) := by decide +kernel
theorem dX10_forget_11 : decode cX10_forget 11 = .ok (.getfield 35, 3) := by decide +kernel
theorem dX10_forget_14 : decode cX10_forget 14 = .ok (.iload_n 1, 1) := by decide +kernel
theorem dX10_forget_15 : decode cX10_forget 15 = .ok (.bipush 32, 2) := by decide +kernel
theorem dX10_forget_17 : decode cX10_forget 17 = .ok (.imul, 1) := by decide +kernel
theorem dX10_forget_18 : decode cX10_forget 18 = .ok (.iload_n 2, 1) := by decide +kernel
theorem dX10_forget_19 : decode cX10_forget 19 = .ok (.iadd, 1) := by decide +kernel
theorem dX10_forget_20 : decode cX10_forget 20 = .ok (.invokevirtual 188, 3) := by decide +kernel
theorem dX10_forget_23 : decode cX10_forget 23 = .ok (.ifCond .ne 6, 3) := by decide +kernel
theorem dX10_forget_26 : decode cX10_forget 26 = .ok (.bipush (-3), 2) := by decide +kernel
theorem dX10_forget_28 : decode cX10_forget 28 = .ok (.ireturn, 1) := by decide +kernel
theorem dX10_forget_29 : decode cX10_forget 29 = .ok (.aload_n 0, 1) := by decide +kernel
theorem dX10_forget_30 : decode cX10_forget 30 = .ok (.getfield 35, 3) := by decide +kernel
theorem dX10_forget_33 : decode cX10_forget 33 = .ok (.iload_n 1, 1) := by decide +kernel
theorem dX10_forget_34 : decode cX10_forget 34 = .ok (.bipush 32, 2) := by decide +kernel
theorem dX10_forget_36 : decode cX10_forget 36 = .ok (.imul, 1) := by decide +kernel
theorem dX10_forget_37 : decode cX10_forget 37 = .ok (.iload_n 2, 1) := by decide +kernel
theorem dX10_forget_38 : decode cX10_forget 38 = .ok (.iadd, 1) := by decide +kernel
theorem dX10_forget_39 : decode cX10_forget 39 = .ok (.invokevirtual 199, 3) := by decide +kernel
theorem dX10_forget_42 : decode cX10_forget 42 = .ok (.aload_n 0, 1) := by decide +kernel
theorem dX10_forget_43 : decode cX10_forget 43 = .ok (.getfield 35, 3) := by decide +kernel
theorem dX10_forget_46 : decode cX10_forget 46 = .ok (.getfield 198, 3) := by decide +kernel
theorem dX10_forget_49 : decode cX10_forget 49 = .ok (.ireturn, 1) := by decide +kernel
theorem dX10_told_0 : decode cX10_told 0 = .ok (.aload_n 0, 1) := by decide +kernel
theorem dX10_told_1 : decode cX10_told 1 = .ok (.getfield 35, 3) := by decide +kernel
theorem dX10_told_4 : decode cX10_told 4 = .ok (.iload_n 1, 1) := by decide +kernel
theorem dX10_told_5 : decode cX10_told 5 = .ok (.invokevirtual 202, 3) := by decide +kernel
theorem dX10_told_8 : decode cX10_told 8 = .ok (.ireturn, 1) := by decide +kernel
theorem dX10_moved_0 : decode cX10_moved 0 = .ok (.aload_n 0, 1) := by decide +kernel
theorem dX10_moved_1 : decode cX10_moved 1 = .ok (.getfield 39, 3) := by decide +kernel
theorem dX10_moved_4 : decode cX10_moved 4 = .ok (.aload_n 0, 1) := by decide +kernel
theorem dX10_moved_5 : decode cX10_moved 5 = .ok (.getfield 35, 3) := by decide +kernel
theorem dX10_moved_8 : decode cX10_moved 8 = .ok (.aload_n 0, 1) := by decide +kernel
theorem dX10_moved_9 : decode cX10_moved 9 = .ok (.getfield 14, 3) := by decide +kernel
theorem dX10_moved_12 : decode cX10_moved 12 = .ok (.invokevirtual 205, 3) := by decide +kernel
theorem dX10_moved_15 : decode cX10_moved 15 = .ok (.iload_n 1, 1) := by decide +kernel
theorem dX10_moved_16 : decode cX10_moved 16 = .ok (.iconst (-1), 1) := by decide +kernel
theorem dX10_moved_17 : decode cX10_moved 17 = .ok (.if_icmp .ne 13, 3) := by decide +kernel
theorem dX10_moved_20 : decode cX10_moved 20 = .ok (.aload_n 0, 1) := by decide +kernel
theorem dX10_moved_21 : decode cX10_moved 21 = .ok (.getfield 39, 3) := by decide +kernel
theorem dX10_moved_24 : decode cX10_moved 24 = .ok (.getfield 198, 3) := by decide +kernel
theorem dX10_moved_27 : decode cX10_moved 27 = .ok (.goto 11, 3) := by decide +kernel
theorem dX10_moved_30 : decode cX10_moved 30 = .ok (.aload_n 0, 1) := by decide +kernel
theorem dX10_moved_31 : decode cX10_moved 31 = .ok (.getfield 39, 3) := by decide +kernel
theorem dX10_moved_34 : decode cX10_moved 34 = .ok (.iload_n 1, 1) := by decide +kernel
theorem dX10_moved_35 : decode cX10_moved 35 = .ok (.invokevirtual 202, 3) := by decide +kernel
theorem dX10_moved_38 : decode cX10_moved 38 = .ok (.ireturn, 1) := by decide +kernel
theorem dX10_move_0 : decode cX10_move 0 = .ok (.aload_n 0, 1) := by decide +kernel
theorem dX10_move_1 : decode cX10_move 1 = .ok (.getfield 39, 3) := by decide +kernel
theorem dX10_move_4 : decode cX10_move 4 = .ok (.aload_n 0, 1) := by decide +kernel
theorem dX10_move_5 : decode cX10_move 5 = .ok (.getfield 35, 3) := by decide +kernel
theorem dX10_move_8 : decode cX10_move 8 = .ok (.aload_n 0, 1) := by decide +kernel
theorem dX10_move_9 : decode cX10_move 9 = .ok (.getfield 14, 3) := by decide +kernel
theorem dX10_move_12 : decode cX10_move 12 = .ok (.invokevirtual 205, 3) := by decide +kernel
theorem dX10_move_15 : decode cX10_move 15 = .ok (.aload_n 0, 1) := by decide +kernel
theorem dX10_move_16 : decode cX10_move 16 = .ok (.getfield 35, 3) := by decide +kernel
theorem dX10_move_19 : decode cX10_move 19 = .ok (.aload_n 0, 1) := by decide +kernel
theorem dX10_move_20 : decode cX10_move 20 = .ok (.getfield 39, 3) := by decide +kernel
theorem dX10_move_23 : decode cX10_move 23 = .ok (.invokevirtual 209, 3) := by decide +kernel
theorem dX10_move_26 : decode cX10_move 26 = .ok (.aload_n 0, 1) := by decide +kernel
theorem dX10_move_27 : decode cX10_move 27 = .ok (.getfield 35, 3) := by decide +kernel
theorem dX10_move_30 : decode cX10_move 30 = .ok (.getfield 198, 3) := by decide +kernel
theorem dX10_move_33 : decode cX10_move 33 = .ok (.ireturn, 1) := by decide +kernel
theorem dX10_grows_0 : decode cX10_grows 0 = .ok (.iload_n 1, 1) := by decide +kernel
theorem dX10_grows_1 : decode cX10_grows 1 = .ok (.ifCond .lt 9, 3) := by decide +kernel
theorem dX10_grows_4 : decode cX10_grows 4 = .ok (.iload_n 1, 1) := by decide +kernel
theorem dX10_grows_5 : decode cX10_grows 5 = .ok (.bipush 40, 2) := by decide +kernel
theorem dX10_grows_7 : decode cX10_grows 7 = .ok (.if_icmp .le 8, 3) := by decide +kernel
theorem dX10_grows_10 : decode cX10_grows 10 = .ok (.bipush (-2), 2) := by decide +kernel
theorem dX10_grows_12 : decode cX10_grows 12 = .ok (.goto 15, 3) := by decide +kernel
theorem dX10_grows_15 : decode cX10_grows 15 = .ok (.aload_n 0, 1) := by decide +kernel
theorem dX10_grows_16 : decode cX10_grows 16 = .ok (.getfield 14, 3) := by decide +kernel
theorem dX10_grows_19 : decode cX10_grows 19 = .ok (.aload_n 0, 1) := by decide +kernel
theorem dX10_grows_20 : decode cX10_grows 20 = .ok (.getfield 35, 3) := by decide +kernel
theorem dX10_grows_23 : decode cX10_grows 23 = .ok (.iload_n 1, 1) := by decide +kernel
theorem dX10_grows_24 : decode cX10_grows 24 = .ok (.invokevirtual 213, 3) := by decide +kernel
theorem dX10_grows_27 : decode cX10_grows 27 = .ok (.ireturn, 1) := by decide +kernel
theorem dX10_were_0 : decode cX10_were 0 = .ok (.iload_n 1, 1) := by decide +kernel
theorem dX10_were_1 : decode cX10_were 1 = .ok (.iload_n 2, 1) := by decide +kernel
theorem dX10_were_2 : decode cX10_were 2 = .ok (.iload_n 3, 1) := by decide +kernel
theorem dX10_were_3 : decode cX10_were 3 = .ok (.invokestatic 87, 3) := by decide +kernel
theorem dX10_were_6 : decode cX10_were 6 = .ok (.ifCond .eq 21, 3) := by decide +kernel
theorem dX10_were_9 : decode cX10_were 9 = .ok (.iload 4, 2) := by decide +kernel
theorem dX10_were_11 : decode cX10_were 11 = .ok (.iload 5, 2) := by decide +kernel
theorem dX10_were_13 : decode cX10_were 13 = .ok (.invokestatic 125, 3) := by decide +kernel
theorem dX10_were_16 : decode cX10_were 16 = .ok (.ifCond .eq 11, 3) := by decide +kernel
theorem dX10_were_19 : decode cX10_were 19 = .ok (.iload 6, 2) := by decide +kernel
theorem dX10_were_21 : decode cX10_were 21 = .ok (.invokestatic 142, 3) := by decide +kernel
theorem dX10_were_24 : decode cX10_were 24 = .ok (.ifCond .ne 7, 3) := by decide +kernel
theorem dX10_were_27 : decode cX10_were 27 = .ok (.ldc2_w 152, 3) := by decide +kernel
theorem dX10_were_30 : decode cX10_were 30 = .ok (.lreturn, 1) := by decide +kernel
theorem dX10_were_31 : decode cX10_were 31 = .ok (.aload_n 0, 1) := by decide +kernel
theorem dX10_were_32 : decode cX10_were 32 = .ok (.getfield 14, 3) := by decide +kernel
theorem dX10_were_35 : decode cX10_were 35 = .ok (.getfield 95, 3) := by decide +kernel
theorem dX10_were_38 : decode cX10_were 38 = .ok (.iload_n 1, 1) := by decide +kernel
theorem dX10_were_39 : decode cX10_were 39 = .ok (.iload_n 2, 1) := by decide +kernel
theorem dX10_were_40 : decode cX10_were 40 = .ok (.iload_n 3, 1) := by decide +kernel
theorem dX10_were_41 : decode cX10_were 41 = .ok (.iload 4, 2) := by decide +kernel
theorem dX10_were_43 : decode cX10_were 43 = .ok (.iload 5, 2) := by decide +kernel
theorem dX10_were_45 : decode cX10_were 45 = .ok (.iload 6, 2) := by decide +kernel
theorem dX10_were_47 : decode cX10_were 47 = .ok (.invokevirtual 217, 3) := by decide +kernel
theorem dX10_were_50 : decode cX10_were 50 = .ok (.lreturn, 1) := by decide +kernel
theorem dX10_odds_0 : decode cX10_odds 0 = .ok (.iload_n 1, 1) := by decide +kernel
theorem dX10_odds_1 : decode cX10_odds 1 = .ok (.invokestatic 142, 3) := by decide +kernel
theorem dX10_odds_4 : decode cX10_odds 4 = .ok (.ifCond .eq 25, 3) := by decide +kernel
theorem dX10_odds_7 : decode cX10_odds 7 = .ok (.iload_n 3, 1) := by decide +kernel
theorem dX10_odds_8 : decode cX10_odds 8 = .ok (.iconst 1, 1) := by decide +kernel
theorem dX10_odds_9 : decode cX10_odds 9 = .ok (.if_icmp .lt 20, 3) := by decide +kernel
theorem dX10_odds_12 : decode cX10_odds 12 = .ok (.iload_n 3, 1) := by decide +kernel
theorem dX10_odds_13 : decode cX10_odds 13 = .ok (.bipush 30, 2) := by decide +kernel
theorem dX10_odds_15 : decode cX10_odds 15 = .ok (.if_icmp .gt 14, 3) := by decide +kernel
theorem dX10_odds_18 : decode cX10_odds 18 = .ok (.iload 4, 2) := by decide +kernel
theorem dX10_odds_20 : decode cX10_odds 20 = .ok (.ifCond .lt 9, 3) := by decide +kernel
theorem dX10_odds_23 : decode cX10_odds 23 = .ok (.iload 4, 2) := by decide +kernel
theorem dX10_odds_25 : decode cX10_odds 25 = .ok (.iconst 1, 1) := by decide +kernel
theorem dX10_odds_26 : decode cX10_odds 26 = .ok (.if_icmp .le 7, 3) := by decide +kernel
theorem dX10_odds_29 : decode cX10_odds 29 = .ok (.ldc2_w 152, 3) := by decide +kernel
theorem dX10_odds_32 : decode cX10_odds 32 = .ok (.lreturn, 1) := by decide +kernel
theorem dX10_odds_33 : decode cX10_odds 33 = .ok (.iconst 0, 1) := by decide +kernel
theorem dX10_odds_34 : decode cX10_odds 34 = .ok (.istore 5, 2) := by decide +kernel
theorem dX10_odds_36 : decode cX10_odds 36 = .ok (.iconst 0, 1) := by decide +kernel
theorem dX10_odds_37 : decode cX10_odds 37 = .ok (.istore 6, 2) := by decide +kernel
theorem dX10_odds_39 : decode cX10_odds 39 = .ok (.iload 6, 2) := by decide +kernel
theorem dX10_odds_41 : decode cX10_odds 41 = .ok (.iload_n 3, 1) := by decide +kernel
theorem dX10_odds_42 : decode cX10_odds 42 = .ok (.if_icmp .ge 58, 3) := by decide +kernel
theorem dX10_odds_45 : decode cX10_odds 45 = .ok (.iload_n 2, 1) := by decide +kernel
theorem dX10_odds_46 : decode cX10_odds 46 = .ok (.iload 6, 2) := by decide +kernel
theorem dX10_odds_48 : decode cX10_odds 48 = .ok (.iadd, 1) := by decide +kernel
theorem dX10_odds_49 : decode cX10_odds 49 = .ok (.invokestatic 221, 3) := by decide +kernel
theorem dX10_odds_52 : decode cX10_odds 52 = .ok (.istore 7, 2) := by decide +kernel
theorem dX10_odds_54 : decode cX10_odds 54 = .ok (.iload 7, 2) := by decide +kernel
theorem dX10_odds_56 : decode cX10_odds 56 = .ok (.invokestatic 221, 3) := by decide +kernel
theorem dX10_odds_59 : decode cX10_odds 59 = .ok (.istore 8, 2) := by decide +kernel
theorem dX10_odds_61 : decode cX10_odds 61 = .ok (.aload_n 0, 1) := by decide +kernel
theorem dX10_odds_62 : decode cX10_odds 62 = .ok (.getfield 14, 3) := by decide +kernel
theorem dX10_odds_65 : decode cX10_odds 65 = .ok (.getfield 95, 3) := by decide +kernel
theorem dX10_odds_68 : decode cX10_odds 68 = .ok (.iload 7, 2) := by decide +kernel
theorem dX10_odds_70 : decode cX10_odds 70 = .ok (.bipush 16, 2) := by decide +kernel
theorem dX10_odds_72 : decode cX10_odds 72 = .ok (.iushr, 1) := by decide +kernel
theorem dX10_odds_73 : decode cX10_odds 73 = .ok (.bipush 32, 2) := by decide +kernel
theorem dX10_odds_75 : decode cX10_odds 75 = .ok (.irem, 1) := by decide +kernel
theorem dX10_odds_76 : decode cX10_odds 76 = .ok (.iload 8, 2) := by decide +kernel
theorem dX10_odds_78 : decode cX10_odds 78 = .ok (.bipush 16, 2) := by decide +kernel
theorem dX10_odds_80 : decode cX10_odds 80 = .ok (.iushr, 1) := by decide +kernel
theorem dX10_odds_81 : decode cX10_odds 81 = .ok (.bipush 32, 2) := by decide +kernel
theorem dX10_odds_83 : decode cX10_odds 83 = .ok (.irem, 1) := by decide +kernel
theorem dX10_odds_84 : decode cX10_odds 84 = .ok (.invokevirtual 132, 3) := by decide +kernel
theorem dX10_odds_87 : decode cX10_odds 87 = .ok (.iload_n 1, 1) := by decide +kernel
theorem dX10_odds_88 : decode cX10_odds 88 = .ok (.if_icmp .ne 6, 3) := by decide +kernel
theorem dX10_odds_91 : decode cX10_odds 91 = .ok (.iinc 5 1, 3) := by decide +kernel
theorem dX10_odds_94 : decode cX10_odds 94 = .ok (.iinc 6 1, 3) := by decide +kernel
theorem dX10_odds_97 : decode cX10_odds 97 = .ok (.goto (-58), 3) := by decide +kernel
theorem dX10_odds_100 : decode cX10_odds 100 = .ok (.iload 5, 2) := by decide +kernel
theorem dX10_odds_102 : decode cX10_odds 102 = .ok (.iload_n 3, 1) := by decide +kernel
theorem dX10_odds_103 : decode cX10_odds 103 = .ok (.invokestatic 224, 3) := by decide +kernel
theorem dX10_odds_106 : decode cX10_odds 106 = .ok (.istore 6, 2) := by decide +kernel
theorem dX10_odds_108 : decode cX10_odds 108 = .ok (.iload 4, 2) := by decide +kernel
theorem dX10_odds_110 : decode cX10_odds 110 = .ok (.ifCond .ne 12, 3) := by decide +kernel
theorem dX10_odds_113 : decode cX10_odds 113 = .ok (.iload 5, 2) := by decide +kernel
theorem dX10_odds_115 : decode cX10_odds 115 = .ok (.iload 6, 2) := by decide +kernel
theorem dX10_odds_117 : decode cX10_odds 117 = .ok (.idiv, 1) := by decide +kernel
theorem dX10_odds_118 : decode cX10_odds 118 = .ok (.i2l, 1) := by decide +kernel
theorem dX10_odds_119 : decode cX10_odds 119 = .ok (.goto 8, 3) := by decide +kernel
theorem dX10_odds_122 : decode cX10_odds 122 = .ok (.iload_n 3, 1) := by decide +kernel
theorem dX10_odds_123 : decode cX10_odds 123 = .ok (.iload 6, 2) := by decide +kernel
theorem dX10_odds_125 : decode cX10_odds 125 = .ok (.idiv, 1) := by decide +kernel
theorem dX10_odds_126 : decode cX10_odds 126 = .ok (.i2l, 1) := by decide +kernel
theorem dX10_odds_127 : decode cX10_odds 127 = .ok (.lreturn, 1) := by decide +kernel
theorem dX10_plan_0 : decode cX10_plan 0 = .ok (.iload_n 1, 1) := by decide +kernel
theorem dX10_plan_1 : decode cX10_plan 1 = .ok (.iconst (-1), 1) := by decide +kernel
theorem dX10_plan_2 : decode cX10_plan 2 = .ok (.if_icmp .ne 13, 3) := by decide +kernel
theorem dX10_plan_5 : decode cX10_plan 5 = .ok (.aload_n 0, 1) := by decide +kernel
theorem dX10_plan_6 : decode cX10_plan 6 = .ok (.getfield 45, 3) := by decide +kernel
theorem dX10_plan_9 : decode cX10_plan 9 = .ok (.iconst 0, 1) := by decide +kernel
theorem dX10_plan_10 : decode cX10_plan 10 = .ok (.putfield 227, 3) := by decide +kernel
theorem dX10_plan_13 : decode cX10_plan 13 = .ok (.iconst 0, 1) := by decide +kernel
theorem dX10_plan_14 : decode cX10_plan 14 = .ok (.ireturn, 1) := by decide +kernel
theorem dX10_plan_15 : decode cX10_plan 15 = .ok (.iload_n 1, 1) := by decide +kernel
theorem dX10_plan_16 : decode cX10_plan 16 = .ok (.ifCond .lt 8, 3) := by decide +kernel
theorem dX10_plan_19 : decode cX10_plan 19 = .ok (.iload_n 1, 1) := by decide +kernel
theorem dX10_plan_20 : decode cX10_plan 20 = .ok (.iconst 3, 1) := by decide +kernel
theorem dX10_plan_21 : decode cX10_plan 21 = .ok (.if_icmp .le 5, 3) := by decide +kernel
theorem dX10_plan_24 : decode cX10_plan 24 = .ok (.iconst (-1), 1) := by decide +kernel
theorem dX10_plan_25 : decode cX10_plan 25 = .ok (.ireturn, 1) := by decide +kernel
theorem dX10_plan_26 : decode cX10_plan 26 = .ok (.aload_n 0, 1) := by decide +kernel
theorem dX10_plan_27 : decode cX10_plan 27 = .ok (.getfield 45, 3) := by decide +kernel
theorem dX10_plan_30 : decode cX10_plan 30 = .ok (.iload_n 1, 1) := by decide +kernel
theorem dX10_plan_31 : decode cX10_plan 31 = .ok (.iload_n 2, 1) := by decide +kernel
theorem dX10_plan_32 : decode cX10_plan 32 = .ok (.invokevirtual 228, 3) := by decide +kernel
theorem dX10_plan_35 : decode cX10_plan 35 = .ok (.ifCond .ne 6, 3) := by decide +kernel
theorem dX10_plan_38 : decode cX10_plan 38 = .ok (.bipush (-2), 2) := by decide +kernel
theorem dX10_plan_40 : decode cX10_plan 40 = .ok (.ireturn, 1) := by decide +kernel
theorem dX10_plan_41 : decode cX10_plan 41 = .ok (.aload_n 0, 1) := by decide +kernel
theorem dX10_plan_42 : decode cX10_plan 42 = .ok (.getfield 45, 3) := by decide +kernel
theorem dX10_plan_45 : decode cX10_plan 45 = .ok (.invokevirtual 231, 3) := by decide +kernel
theorem dX10_plan_48 : decode cX10_plan 48 = .ok (.ifCond .eq 6, 3) := by decide +kernel
theorem dX10_plan_51 : decode cX10_plan 51 = .ok (.bipush (-4), 2) := by decide +kernel
theorem dX10_plan_53 : decode cX10_plan 53 = .ok (.ireturn, 1) := by decide +kernel
theorem dX10_plan_54 : decode cX10_plan 54 = .ok (.aload_n 0, 1) := by decide +kernel
theorem dX10_plan_55 : decode cX10_plan 55 = .ok (.getfield 45, 3) := by decide +kernel
theorem dX10_plan_58 : decode cX10_plan 58 = .ok (.iload_n 1, 1) := by decide +kernel
theorem dX10_plan_59 : decode cX10_plan 59 = .ok (.iload_n 2, 1) := by decide +kernel
theorem dX10_plan_60 : decode cX10_plan 60 = .ok (.invokevirtual 232, 3) := by decide +kernel
theorem dX10_plan_63 : decode cX10_plan 63 = .ok (.aload_n 0, 1) := by decide +kernel
theorem dX10_plan_64 : decode cX10_plan 64 = .ok (.getfield 45, 3) := by decide +kernel
theorem dX10_plan_67 : decode cX10_plan 67 = .ok (.getfield 227, 3) := by decide +kernel
theorem dX10_plan_70 : decode cX10_plan 70 = .ok (.ireturn, 1) := by decide +kernel
theorem dX10_ends_0 : decode cX10_ends 0 = .ok (.iload_n 1, 1) := by decide +kernel
theorem dX10_ends_1 : decode cX10_ends 1 = .ok (.iload_n 2, 1) := by decide +kernel
theorem dX10_ends_2 : decode cX10_ends 2 = .ok (.invokestatic 125, 3) := by decide +kernel
theorem dX10_ends_5 : decode cX10_ends 5 = .ok (.ifCond .eq 23, 3) := by decide +kernel
theorem dX10_ends_8 : decode cX10_ends 8 = .ok (.aload_n 0, 1) := by decide +kernel
theorem dX10_ends_9 : decode cX10_ends 9 = .ok (.getfield 45, 3) := by decide +kernel
theorem dX10_ends_12 : decode cX10_ends 12 = .ok (.aload_n 0, 1) := by decide +kernel
theorem dX10_ends_13 : decode cX10_ends 13 = .ok (.getfield 14, 3) := by decide +kernel
theorem dX10_ends_16 : decode cX10_ends 16 = .ok (.iload_n 1, 1) := by decide +kernel
theorem dX10_ends_17 : decode cX10_ends 17 = .ok (.bipush 32, 2) := by decide +kernel
theorem dX10_ends_19 : decode cX10_ends 19 = .ok (.imul, 1) := by decide +kernel
theorem dX10_ends_20 : decode cX10_ends 20 = .ok (.iload_n 2, 1) := by decide +kernel
theorem dX10_ends_21 : decode cX10_ends 21 = .ok (.iadd, 1) := by decide +kernel
theorem dX10_ends_22 : decode cX10_ends 22 = .ok (.invokevirtual 235, 3) := by decide +kernel
theorem dX10_ends_25 : decode cX10_ends 25 = .ok (.goto 4, 3) := by decide +kernel
theorem dX10_ends_28 : decode cX10_ends 28 = .ok (.iconst (-1), 1) := by decide +kernel
theorem dX10_ends_29 : decode cX10_ends 29 = .ok (.ireturn, 1) := by decide +kernel
theorem dX10_write_0 : decode cX10_write 0 = .ok (.iload_n 1, 1) := by decide +kernel
theorem dX10_write_1 : decode cX10_write 1 = .ok (.invokestatic 114, 3) := by decide +kernel
theorem dX10_write_4 : decode cX10_write 4 = .ok (.ifCond .ne 5, 3) := by decide +kernel
theorem dX10_write_7 : decode cX10_write 7 = .ok (.iconst (-1), 1) := by decide +kernel
theorem dX10_write_8 : decode cX10_write 8 = .ok (.ireturn, 1) := by decide +kernel
theorem dX10_write_9 : decode cX10_write 9 = .ok (.aload_n 0, 1) := by decide +kernel
theorem dX10_write_10 : decode cX10_write 10 = .ok (.getfield 56, 3) := by decide +kernel
theorem dX10_write_13 : decode cX10_write 13 = .ok (.aload_n 0, 1) := by decide +kernel
theorem dX10_write_14 : decode cX10_write 14 = .ok (.getfield 14, 3) := by decide +kernel
theorem dX10_write_17 : decode cX10_write 17 = .ok (.getfield 95, 3) := by decide +kernel
theorem dX10_write_20 : decode cX10_write 20 = .ok (.iload_n 1, 1) := by decide +kernel
theorem dX10_write_21 : decode cX10_write 21 = .ok (.invokevirtual 239, 3) := by decide +kernel
theorem dX10_write_24 : decode cX10_write 24 = .ok (.aload_n 0, 1) := by decide +kernel
theorem dX10_write_25 : decode cX10_write 25 = .ok (.getfield 56, 3) := by decide +kernel
theorem dX10_write_28 : decode cX10_write 28 = .ok (.getfield 106, 3) := by decide +kernel
theorem dX10_write_31 : decode cX10_write 31 = .ok (.ireturn, 1) := by decide +kernel
theorem dX10_paper_0 : decode cX10_paper 0 = .ok (.iload_n 1, 1) := by decide +kernel
theorem dX10_paper_1 : decode cX10_paper 1 = .ok (.ifCond .lt 25, 3) := by decide +kernel
theorem dX10_paper_4 : decode cX10_paper 4 = .ok (.iload_n 1, 1) := by decide +kernel
theorem dX10_paper_5 : decode cX10_paper 5 = .ok (.aload_n 0, 1) := by decide +kernel
theorem dX10_paper_6 : decode cX10_paper 6 = .ok (.getfield 56, 3) := by decide +kernel
theorem dX10_paper_9 : decode cX10_paper 9 = .ok (.getfield 106, 3) := by decide +kernel
theorem dX10_paper_12 : decode cX10_paper 12 = .ok (.if_icmp .ge 14, 3) := by decide +kernel
theorem dX10_paper_15 : decode cX10_paper 15 = .ok (.aload_n 0, 1) := by decide +kernel
theorem dX10_paper_16 : decode cX10_paper 16 = .ok (.getfield 56, 3) := by decide +kernel
theorem dX10_paper_19 : decode cX10_paper 19 = .ok (.iload_n 1, 1) := by decide +kernel
theorem dX10_paper_20 : decode cX10_paper 20 = .ok (.invokevirtual 243, 3) := by decide +kernel
theorem dX10_paper_23 : decode cX10_paper 23 = .ok (.goto 4, 3) := by decide +kernel
theorem dX10_paper_26 : decode cX10_paper 26 = .ok (.iconst (-1), 1) := by decide +kernel
theorem dX10_paper_27 : decode cX10_paper 27 = .ok (.ireturn, 1) := by decide +kernel
theorem dX10_judge_0 : decode cX10_judge 0 = .ok (.aload_n 0, 1) := by decide +kernel
theorem dX10_judge_1 : decode cX10_judge 1 = .ok (.getfield 62, 3) := by decide +kernel
theorem dX10_judge_4 : decode cX10_judge 4 = .ok (.iload_n 1, 1) := by decide +kernel
theorem dX10_judge_5 : decode cX10_judge 5 = .ok (.invokevirtual 246, 3) := by decide +kernel
theorem dX10_judge_8 : decode cX10_judge 8 = .ok (.ifCond .eq 11, 3) := by decide +kernel
theorem dX10_judge_11 : decode cX10_judge 11 = .ok (.iload_n 2, 1) := by decide +kernel
theorem dX10_judge_12 : decode cX10_judge 12 = .ok (.iload_n 3, 1) := by decide +kernel
theorem dX10_judge_13 : decode cX10_judge 13 = .ok (.invokestatic 125, 3) := by decide +kernel
theorem dX10_judge_16 : decode cX10_judge 16 = .ok (.ifCond .ne 5, 3) := by decide +kernel
theorem dX10_judge_19 : decode cX10_judge 19 = .ok (.iconst (-1), 1) := by decide +kernel
theorem dX10_judge_20 : decode cX10_judge 20 = .ok (.ireturn, 1) := by decide +kernel
theorem dX10_judge_21 : decode cX10_judge 21 = .ok (.aload_n 0, 1) := by decide +kernel
theorem dX10_judge_22 : decode cX10_judge 22 = .ok (.getfield 62, 3) := by decide +kernel
theorem dX10_judge_25 : decode cX10_judge 25 = .ok (.iload_n 1, 1) := by decide +kernel
theorem dX10_judge_26 : decode cX10_judge 26 = .ok (.invokevirtual 249, 3) := by decide +kernel
theorem dX10_judge_29 : decode cX10_judge 29 = .ok (.istore 4, 2) := by decide +kernel
theorem dX10_judge_31 : decode cX10_judge 31 = .ok (.iload 4, 2) := by decide +kernel
theorem dX10_judge_33 : decode cX10_judge 33 = .ok (.ifCond .ge 6, 3) := by decide +kernel
theorem dX10_judge_36 : decode cX10_judge 36 = .ok (.bipush (-11), 2) := by decide +kernel
theorem dX10_judge_38 : decode cX10_judge 38 = .ok (.ireturn, 1) := by decide +kernel
theorem dX10_judge_39 : decode cX10_judge 39 = .ok (.iload_n 2, 1) := by decide +kernel
theorem dX10_judge_40 : decode cX10_judge 40 = .ok (.bipush 32, 2) := by decide +kernel
theorem dX10_judge_42 : decode cX10_judge 42 = .ok (.imul, 1) := by decide +kernel
theorem dX10_judge_43 : decode cX10_judge 43 = .ok (.iload_n 3, 1) := by decide +kernel
theorem dX10_judge_44 : decode cX10_judge 44 = .ok (.iadd, 1) := by decide +kernel
theorem dX10_judge_45 : decode cX10_judge 45 = .ok (.istore 5, 2) := by decide +kernel
theorem dX10_judge_47 : decode cX10_judge 47 = .ok (.iconst 0, 1) := by decide +kernel
theorem dX10_judge_48 : decode cX10_judge 48 = .ok (.istore 6, 2) := by decide +kernel
theorem dX10_judge_50 : decode cX10_judge 50 = .ok (.iload 6, 2) := by decide +kernel
theorem dX10_judge_52 : decode cX10_judge 52 = .ok (.iload 4, 2) := by decide +kernel
theorem dX10_judge_54 : decode cX10_judge 54 = .ok (.if_icmp .ge 91, 3) := by decide +kernel
theorem dX10_judge_57 : decode cX10_judge 57 = .ok (.iload 6, 2) := by decide +kernel
theorem dX10_judge_59 : decode cX10_judge 59 = .ok (.iconst 2, 1) := by decide +kernel
theorem dX10_judge_60 : decode cX10_judge 60 = .ok (.irem, 1) := by decide +kernel
theorem dX10_judge_61 : decode cX10_judge 61 = .ok (.ifCond .ne 7, 3) := by decide +kernel
theorem dX10_judge_64 : decode cX10_judge 64 = .ok (.iconst 1, 1) := by decide +kernel
theorem dX10_judge_65 : decode cX10_judge 65 = .ok (.goto 4, 3) := by decide +kernel
theorem dX10_judge_68 : decode cX10_judge 68 = .ok (.iconst 0, 1) := by decide +kernel
theorem dX10_judge_69 : decode cX10_judge 69 = .ok (.istore 7, 2) := by decide +kernel
theorem dX10_judge_71 : decode cX10_judge 71 = .ok (.iload 7, 2) := by decide +kernel
theorem dX10_judge_73 : decode cX10_judge 73 = .ok (.ifCond .eq 15, 3) := by decide +kernel
theorem dX10_judge_76 : decode cX10_judge 76 = .ok (.aload_n 0, 1) := by decide +kernel
theorem dX10_judge_77 : decode cX10_judge 77 = .ok (.getfield 14, 3) := by decide +kernel
theorem dX10_judge_80 : decode cX10_judge 80 = .ok (.iload 5, 2) := by decide +kernel
theorem dX10_judge_82 : decode cX10_judge 82 = .ok (.invokevirtual 252, 3) := by decide +kernel
theorem dX10_judge_85 : decode cX10_judge 85 = .ok (.goto 5, 3) := by decide +kernel
theorem dX10_judge_88 : decode cX10_judge 88 = .ok (.iload 5, 2) := by decide +kernel
theorem dX10_judge_90 : decode cX10_judge 90 = .ok (.istore 5, 2) := by decide +kernel
theorem dX10_judge_92 : decode cX10_judge 92 = .ok (.iload 5, 2) := by decide +kernel
theorem dX10_judge_94 : decode cX10_judge 94 = .ok (.ifCond .ge 7, 3) := by decide +kernel
theorem dX10_judge_97 : decode cX10_judge 97 = .ok (.iconst (-1), 1) := by decide +kernel
theorem dX10_judge_98 : decode cX10_judge 98 = .ok (.goto 21, 3) := by decide +kernel
theorem dX10_judge_101 : decode cX10_judge 101 = .ok (.iload 7, 2) := by decide +kernel
theorem dX10_judge_103 : decode cX10_judge 103 = .ok (.ifCond .eq 11, 3) := by decide +kernel
theorem dX10_judge_106 : decode cX10_judge 106 = .ok (.iload 5, 2) := by decide +kernel
theorem dX10_judge_108 : decode cX10_judge 108 = .ok (.bipush 32, 2) := by decide +kernel
theorem dX10_judge_110 : decode cX10_judge 110 = .ok (.idiv, 1) := by decide +kernel
theorem dX10_judge_111 : decode cX10_judge 111 = .ok (.goto 8, 3) := by decide +kernel
theorem dX10_judge_114 : decode cX10_judge 114 = .ok (.iload 5, 2) := by decide +kernel
theorem dX10_judge_116 : decode cX10_judge 116 = .ok (.bipush 32, 2) := by decide +kernel
theorem dX10_judge_118 : decode cX10_judge 118 = .ok (.irem, 1) := by decide +kernel
theorem dX10_judge_119 : decode cX10_judge 119 = .ok (.istore 8, 2) := by decide +kernel
theorem dX10_judge_121 : decode cX10_judge 121 = .ok (.aload_n 0, 1) := by decide +kernel
theorem dX10_judge_122 : decode cX10_judge 122 = .ok (.getfield 62, 3) := by decide +kernel
theorem dX10_judge_125 : decode cX10_judge 125 = .ok (.iload_n 1, 1) := by decide +kernel
theorem dX10_judge_126 : decode cX10_judge 126 = .ok (.iload 6, 2) := by decide +kernel
theorem dX10_judge_128 : decode cX10_judge 128 = .ok (.invokevirtual 255, 3) := by decide +kernel
theorem dX10_judge_131 : decode cX10_judge 131 = .ok (.iload 8, 2) := by decide +kernel
theorem dX10_judge_133 : decode cX10_judge 133 = .ok (.if_icmp .eq 6, 3) := by decide +kernel
theorem dX10_judge_136 : decode cX10_judge 136 = .ok (.iload 6, 2) := by decide +kernel
theorem dX10_judge_138 : decode cX10_judge 138 = .ok (.ireturn, 1) := by decide +kernel
theorem dX10_judge_139 : decode cX10_judge 139 = .ok (.iinc 6 1, 3) := by decide +kernel
theorem dX10_judge_142 : decode cX10_judge 142 = .ok (.goto (-92), 3) := by decide +kernel
theorem dX10_judge_145 : decode cX10_judge 145 = .ok (.bipush (-5), 2) := by decide +kernel
theorem dX10_judge_147 : decode cX10_judge 147 = .ok (.ireturn, 1) := by decide +kernel
theorem dX10_list_0 : decode cX10_list 0 = .ok (.aload_n 0, 1) := by decide +kernel
theorem dX10_list_1 : decode cX10_list 1 = .ok (.getfield 62, 3) := by decide +kernel
theorem dX10_list_4 : decode cX10_list 4 = .ok (.iload_n 1, 1) := by decide +kernel
theorem dX10_list_5 : decode cX10_list 5 = .ok (.invokevirtual 246, 3) := by decide +kernel
theorem dX10_list_8 : decode cX10_list 8 = .ok (.ifCond .ne 5, 3) := by decide +kernel
theorem dX10_list_11 : decode cX10_list 11 = .ok (.iconst (-1), 1) := by decide +kernel
theorem dX10_list_12 : decode cX10_list 12 = .ok (.ireturn, 1) := by decide +kernel
theorem dX10_list_13 : decode cX10_list 13 = .ok (.iload_n 2, 1) := by decide +kernel
theorem dX10_list_14 : decode cX10_list 14 = .ok (.bipush 12, 2) := by decide +kernel
theorem dX10_list_16 : decode cX10_list 16 = .ok (.if_icmp .le 6, 3) := by decide +kernel
theorem dX10_list_19 : decode cX10_list 19 = .ok (.bipush (-2), 2) := by decide +kernel
theorem dX10_list_21 : decode cX10_list 21 = .ok (.ireturn, 1) := by decide +kernel
theorem dX10_list_22 : decode cX10_list 22 = .ok (.iload_n 2, 1) := by decide +kernel
theorem dX10_list_23 : decode cX10_list 23 = .ok (.ifCond .ge 6, 3) := by decide +kernel
theorem dX10_list_26 : decode cX10_list 26 = .ok (.bipush (-14), 2) := by decide +kernel
theorem dX10_list_28 : decode cX10_list 28 = .ok (.ireturn, 1) := by decide +kernel
theorem dX10_list_29 : decode cX10_list 29 = .ok (.aload_n 0, 1) := by decide +kernel
theorem dX10_list_30 : decode cX10_list 30 = .ok (.getfield 62, 3) := by decide +kernel
theorem dX10_list_33 : decode cX10_list 33 = .ok (.iload_n 1, 1) := by decide +kernel
theorem dX10_list_34 : decode cX10_list 34 = .ok (.iload_n 2, 1) := by decide +kernel
theorem dX10_list_35 : decode cX10_list 35 = .ok (.invokevirtual 257, 3) := by decide +kernel
theorem dX10_list_38 : decode cX10_list 38 = .ok (.iconst 1, 1) := by decide +kernel
theorem dX10_list_39 : decode cX10_list 39 = .ok (.ireturn, 1) := by decide +kernel
theorem dX10_put_0 : decode cX10_put 0 = .ok (.aload_n 0, 1) := by decide +kernel
theorem dX10_put_1 : decode cX10_put 1 = .ok (.getfield 62, 3) := by decide +kernel
theorem dX10_put_4 : decode cX10_put 4 = .ok (.iload_n 1, 1) := by decide +kernel
theorem dX10_put_5 : decode cX10_put 5 = .ok (.invokevirtual 246, 3) := by decide +kernel
theorem dX10_put_8 : decode cX10_put 8 = .ok (.ifCond .ne 5, 3) := by decide +kernel
theorem dX10_put_11 : decode cX10_put 11 = .ok (.iconst (-1), 1) := by decide +kernel
theorem dX10_put_12 : decode cX10_put 12 = .ok (.ireturn, 1) := by decide +kernel
theorem dX10_put_13 : decode cX10_put 13 = .ok (.aload_n 0, 1) := by decide +kernel
theorem dX10_put_14 : decode cX10_put 14 = .ok (.getfield 62, 3) := by decide +kernel
theorem dX10_put_17 : decode cX10_put 17 = .ok (.iload_n 1, 1) := by decide +kernel
theorem dX10_put_18 : decode cX10_put 18 = .ok (.invokevirtual 249, 3) := by decide +kernel
theorem dX10_put_21 : decode cX10_put 21 = .ok (.ifCond .ge 6, 3) := by decide +kernel
theorem dX10_put_24 : decode cX10_put 24 = .ok (.bipush (-11), 2) := by decide +kernel
theorem dX10_put_26 : decode cX10_put 26 = .ok (.ireturn, 1) := by decide +kernel
theorem dX10_put_27 : decode cX10_put 27 = .ok (.aload_n 0, 1) := by decide +kernel
theorem dX10_put_28 : decode cX10_put 28 = .ok (.getfield 62, 3) := by decide +kernel
theorem dX10_put_31 : decode cX10_put 31 = .ok (.iload_n 1, 1) := by decide +kernel
theorem dX10_put_32 : decode cX10_put 32 = .ok (.iload_n 2, 1) := by decide +kernel
theorem dX10_put_33 : decode cX10_put 33 = .ok (.invokevirtual 260, 3) := by decide +kernel
theorem dX10_put_36 : decode cX10_put 36 = .ok (.ifCond .ne 6, 3) := by decide +kernel
theorem dX10_put_39 : decode cX10_put 39 = .ok (.bipush (-13), 2) := by decide +kernel
theorem dX10_put_41 : decode cX10_put 41 = .ok (.ireturn, 1) := by decide +kernel
theorem dX10_put_42 : decode cX10_put 42 = .ok (.aload_n 0, 1) := by decide +kernel
theorem dX10_put_43 : decode cX10_put 43 = .ok (.getfield 62, 3) := by decide +kernel
theorem dX10_put_46 : decode cX10_put 46 = .ok (.iload_n 1, 1) := by decide +kernel
theorem dX10_put_47 : decode cX10_put 47 = .ok (.iload_n 2, 1) := by decide +kernel
theorem dX10_put_48 : decode cX10_put 48 = .ok (.iload_n 3, 1) := by decide +kernel
theorem dX10_put_49 : decode cX10_put 49 = .ok (.invokevirtual 263, 3) := by decide +kernel
theorem dX10_put_52 : decode cX10_put 52 = .ok (.iconst 1, 1) := by decide +kernel
theorem dX10_put_53 : decode cX10_put 53 = .ok (.ireturn, 1) := by decide +kernel
theorem dX10_get_0 : decode cX10_get 0 = .ok (.aload_n 0, 1) := by decide +kernel
theorem dX10_get_1 : decode cX10_get 1 = .ok (.getfield 62, 3) := by decide +kernel
theorem dX10_get_4 : decode cX10_get 4 = .ok (.iload_n 1, 1) := by decide +kernel
theorem dX10_get_5 : decode cX10_get 5 = .ok (.iload_n 2, 1) := by decide +kernel
theorem dX10_get_6 : decode cX10_get 6 = .ok (.invokevirtual 260, 3) := by decide +kernel
theorem dX10_get_9 : decode cX10_get 9 = .ok (.ifCond .eq 16, 3) := by decide +kernel
theorem dX10_get_12 : decode cX10_get 12 = .ok (.aload_n 0, 1) := by decide +kernel
theorem dX10_get_13 : decode cX10_get 13 = .ok (.getfield 62, 3) := by decide +kernel
theorem dX10_get_16 : decode cX10_get 16 = .ok (.iload_n 1, 1) := by decide +kernel
theorem dX10_get_17 : decode cX10_get 17 = .ok (.iload_n 2, 1) := by decide +kernel
theorem dX10_get_18 : decode cX10_get 18 = .ok (.invokevirtual 255, 3) := by decide +kernel
theorem dX10_get_21 : decode cX10_get 21 = .ok (.i2l, 1) := by decide +kernel
theorem dX10_get_22 : decode cX10_get 22 = .ok (.goto 6, 3) := by decide +kernel
theorem dX10_get_25 : decode cX10_get 25 = .ok (.ldc2_w 152, 3) := by decide +kernel
theorem dX10_get_28 : decode cX10_get 28 = .ok (.lreturn, 1) := by decide +kernel
theorem dX10_image_0 : decode cX10_image 0 = .ok (.aload_n 0, 1) := by decide +kernel
theorem dX10_image_1 : decode cX10_image 1 = .ok (.getfield 73, 3) := by decide +kernel
theorem dX10_image_4 : decode cX10_image 4 = .ok (.aload_n 0, 1) := by decide +kernel
theorem dX10_image_5 : decode cX10_image 5 = .ok (.getfield 14, 3) := by decide +kernel
theorem dX10_image_8 : decode cX10_image 8 = .ok (.getfield 95, 3) := by decide +kernel
theorem dX10_image_11 : decode cX10_image 11 = .ok (.invokevirtual 266, 3) := by decide +kernel
theorem dX10_image_14 : decode cX10_image 14 = .ok (.aload_n 0, 1) := by decide +kernel
theorem dX10_image_15 : decode cX10_image 15 = .ok (.getfield 77, 3) := by decide +kernel
theorem dX10_image_18 : decode cX10_image 18 = .ok (.aload_n 0, 1) := by decide +kernel
theorem dX10_image_19 : decode cX10_image 19 = .ok (.getfield 35, 3) := by decide +kernel
theorem dX10_image_22 : decode cX10_image 22 = .ok (.invokevirtual 209, 3) := by decide +kernel
theorem dX10_image_25 : decode cX10_image 25 = .ok (.aload_n 0, 1) := by decide +kernel
theorem dX10_image_26 : decode cX10_image 26 = .ok (.getfield 80, 3) := by decide +kernel
theorem dX10_image_29 : decode cX10_image 29 = .ok (.aload_n 0, 1) := by decide +kernel
theorem dX10_image_30 : decode cX10_image 30 = .ok (.getfield 45, 3) := by decide +kernel
theorem dX10_image_33 : decode cX10_image 33 = .ok (.invokevirtual 269, 3) := by decide +kernel
theorem dX10_image_36 : decode cX10_image 36 = .ok (.aload_n 0, 1) := by decide +kernel
theorem dX10_image_37 : decode cX10_image 37 = .ok (.iconst 1, 1) := by decide +kernel
theorem dX10_image_38 : decode cX10_image 38 = .ok (.putfield 83, 3) := by decide +kernel
theorem dX10_image_41 : decode cX10_image 41 = .ok (.aload_n 0, 1) := by decide +kernel
theorem dX10_image_42 : decode cX10_image 42 = .ok (.getfield 35, 3) := by decide +kernel
theorem dX10_image_45 : decode cX10_image 45 = .ok (.getfield 198, 3) := by decide +kernel
theorem dX10_image_48 : decode cX10_image 48 = .ok (.ireturn, 1) := by decide +kernel
theorem dX10_undo_0 : decode cX10_undo 0 = .ok (.aload_n 0, 1) := by decide +kernel
theorem dX10_undo_1 : decode cX10_undo 1 = .ok (.getfield 83, 3) := by decide +kernel
theorem dX10_undo_4 : decode cX10_undo 4 = .ok (.ifCond .ne 6, 3) := by decide +kernel
theorem dX10_undo_7 : decode cX10_undo 7 = .ok (.bipush (-3), 2) := by decide +kernel
theorem dX10_undo_9 : decode cX10_undo 9 = .ok (.ireturn, 1) := by decide +kernel
theorem dX10_undo_10 : decode cX10_undo 10 = .ok (.aload_n 0, 1) := by decide +kernel
theorem dX10_undo_11 : decode cX10_undo 11 = .ok (.getfield 14, 3) := by decide +kernel
theorem dX10_undo_14 : decode cX10_undo 14 = .ok (.aload_n 0, 1) := by decide +kernel
theorem dX10_undo_15 : decode cX10_undo 15 = .ok (.getfield 73, 3) := by decide +kernel
theorem dX10_undo_18 : decode cX10_undo 18 = .ok (.invokevirtual 272, 3) := by decide +kernel
theorem dX10_undo_21 : decode cX10_undo 21 = .ok (.aload_n 0, 1) := by decide +kernel
theorem dX10_undo_22 : decode cX10_undo 22 = .ok (.getfield 35, 3) := by decide +kernel
theorem dX10_undo_25 : decode cX10_undo 25 = .ok (.aload_n 0, 1) := by decide +kernel
theorem dX10_undo_26 : decode cX10_undo 26 = .ok (.getfield 77, 3) := by decide +kernel
theorem dX10_undo_29 : decode cX10_undo 29 = .ok (.invokevirtual 209, 3) := by decide +kernel
theorem dX10_undo_32 : decode cX10_undo 32 = .ok (.aload_n 0, 1) := by decide +kernel
theorem dX10_undo_33 : decode cX10_undo 33 = .ok (.getfield 45, 3) := by decide +kernel
theorem dX10_undo_36 : decode cX10_undo 36 = .ok (.aload_n 0, 1) := by decide +kernel
theorem dX10_undo_37 : decode cX10_undo 37 = .ok (.getfield 80, 3) := by decide +kernel
theorem dX10_undo_40 : decode cX10_undo 40 = .ok (.invokevirtual 269, 3) := by decide +kernel
theorem dX10_undo_43 : decode cX10_undo 43 = .ok (.aload_n 0, 1) := by decide +kernel
theorem dX10_undo_44 : decode cX10_undo 44 = .ok (.getfield 35, 3) := by decide +kernel
theorem dX10_undo_47 : decode cX10_undo 47 = .ok (.getfield 198, 3) := by decide +kernel
theorem dX10_undo_50 : decode cX10_undo 50 = .ok (.ireturn, 1) := by decide +kernel
theorem dX10_count_0 : decode cX10_count 0 = .ok (.iload_n 1, 1) := by decide +kernel
theorem dX10_count_1 : decode cX10_count 1 = .ok (.tableswitch 78 0 4 #[35, 43, 54, 62, 70], 35) := by decide +kernel
theorem dX10_count_36 : decode cX10_count 36 = .ok (.aload_n 0, 1) := by decide +kernel
theorem dX10_count_37 : decode cX10_count 37 = .ok (.getfield 35, 3) := by decide +kernel
theorem dX10_count_40 : decode cX10_count 40 = .ok (.getfield 198, 3) := by decide +kernel
theorem dX10_count_43 : decode cX10_count 43 = .ok (.ireturn, 1) := by decide +kernel
theorem dX10_count_44 : decode cX10_count 44 = .ok (.aload_n 0, 1) := by decide +kernel
theorem dX10_count_45 : decode cX10_count 45 = .ok (.getfield 14, 3) := by decide +kernel
theorem dX10_count_48 : decode cX10_count 48 = .ok (.getfield 95, 3) := by decide +kernel
theorem dX10_count_51 : decode cX10_count 51 = .ok (.invokevirtual 275, 3) := by decide +kernel
theorem dX10_count_54 : decode cX10_count 54 = .ok (.ireturn, 1) := by decide +kernel
theorem dX10_count_55 : decode cX10_count 55 = .ok (.aload_n 0, 1) := by decide +kernel
theorem dX10_count_56 : decode cX10_count 56 = .ok (.getfield 52, 3) := by decide +kernel
theorem dX10_count_59 : decode cX10_count 59 = .ok (.getfield 106, 3) := by decide +kernel
theorem dX10_count_62 : decode cX10_count 62 = .ok (.ireturn, 1) := by decide +kernel
theorem dX10_count_63 : decode cX10_count 63 = .ok (.aload_n 0, 1) := by decide +kernel
theorem dX10_count_64 : decode cX10_count 64 = .ok (.getfield 56, 3) := by decide +kernel
theorem dX10_count_67 : decode cX10_count 67 = .ok (.getfield 106, 3) := by decide +kernel
theorem dX10_count_70 : decode cX10_count 70 = .ok (.ireturn, 1) := by decide +kernel
theorem dX10_count_71 : decode cX10_count 71 = .ok (.aload_n 0, 1) := by decide +kernel
theorem dX10_count_72 : decode cX10_count 72 = .ok (.getfield 45, 3) := by decide +kernel
theorem dX10_count_75 : decode cX10_count 75 = .ok (.getfield 227, 3) := by decide +kernel
theorem dX10_count_78 : decode cX10_count 78 = .ok (.ireturn, 1) := by decide +kernel
theorem dX10_count_79 : decode cX10_count 79 = .ok (.bipush (-2), 2) := by decide +kernel
theorem dX10_count_81 : decode cX10_count 81 = .ok (.ireturn, 1) := by decide +kernel
theorem dX10_isNumber_0 : decode cX10_isNumber 0 = .ok (.iload_n 0, 1) := by decide +kernel
theorem dX10_isNumber_1 : decode cX10_isNumber 1 = .ok (.ifCond .lt 13, 3) := by decide +kernel
theorem dX10_isNumber_4 : decode cX10_isNumber 4 = .ok (.iload_n 0, 1) := by decide +kernel
theorem dX10_isNumber_5 : decode cX10_isNumber 5 = .ok (.bipush 31, 2) := by decide +kernel
theorem dX10_isNumber_7 : decode cX10_isNumber 7 = .ok (.if_icmp .ge 7, 3) := by decide +kernel
theorem dX10_isNumber_10 : decode cX10_isNumber 10 = .ok (.iconst 1, 1) := by decide +kernel
theorem dX10_isNumber_11 : decode cX10_isNumber 11 = .ok (.goto 4, 3) := by decide +kernel
theorem dX10_isNumber_14 : decode cX10_isNumber 14 = .ok (.iconst 0, 1) := by decide +kernel
theorem dX10_isNumber_15 : decode cX10_isNumber 15 = .ok (.ireturn, 1) := by decide +kernel
theorem dX10_isCoordinate_0 : decode cX10_isCoordinate 0 = .ok (.iload_n 0, 1) := by decide +kernel
theorem dX10_isCoordinate_1 : decode cX10_isCoordinate 1 = .ok (.ifCond .lt 13, 3) := by decide +kernel
theorem dX10_isCoordinate_4 : decode cX10_isCoordinate 4 = .ok (.iload_n 0, 1) := by decide +kernel
theorem dX10_isCoordinate_5 : decode cX10_isCoordinate 5 = .ok (.bipush 32, 2) := by decide +kernel
theorem dX10_isCoordinate_7 : decode cX10_isCoordinate 7 = .ok (.if_icmp .ge 7, 3) := by decide +kernel
theorem dX10_isCoordinate_10 : decode cX10_isCoordinate 10 = .ok (.iconst 1, 1) := by decide +kernel
theorem dX10_isCoordinate_11 : decode cX10_isCoordinate 11 = .ok (.goto 4, 3) := by decide +kernel
theorem dX10_isCoordinate_14 : decode cX10_isCoordinate 14 = .ok (.iconst 0, 1) := by decide +kernel
theorem dX10_isCoordinate_15 : decode cX10_isCoordinate 15 = .ok (.ireturn, 1) := by decide +kernel
theorem dX10_isSpot_0 : decode cX10_isSpot 0 = .ok (.iload_n 0, 1) := by decide +kernel
theorem dX10_isSpot_1 : decode cX10_isSpot 1 = .ok (.invokestatic 142, 3) := by decide +kernel
theorem dX10_isSpot_4 : decode cX10_isSpot 4 = .ok (.ifCond .eq 14, 3) := by decide +kernel
theorem dX10_isSpot_7 : decode cX10_isSpot 7 = .ok (.iload_n 1, 1) := by decide +kernel
theorem dX10_isSpot_8 : decode cX10_isSpot 8 = .ok (.invokestatic 142, 3) := by decide +kernel
theorem dX10_isSpot_11 : decode cX10_isSpot 11 = .ok (.ifCond .eq 7, 3) := by decide +kernel
theorem dX10_isSpot_14 : decode cX10_isSpot 14 = .ok (.iconst 1, 1) := by decide +kernel
theorem dX10_isSpot_15 : decode cX10_isSpot 15 = .ok (.goto 4, 3) := by decide +kernel
theorem dX10_isSpot_18 : decode cX10_isSpot 18 = .ok (.iconst 0, 1) := by decide +kernel
theorem dX10_isSpot_19 : decode cX10_isSpot 19 = .ok (.ireturn, 1) := by decide +kernel
theorem dX10_isAxis_0 : decode cX10_isAxis 0 = .ok (.iload_n 0, 1) := by decide +kernel
theorem dX10_isAxis_1 : decode cX10_isAxis 1 = .ok (.ifCond .eq 8, 3) := by decide +kernel
theorem dX10_isAxis_4 : decode cX10_isAxis 4 = .ok (.iload_n 0, 1) := by decide +kernel
theorem dX10_isAxis_5 : decode cX10_isAxis 5 = .ok (.iconst 1, 1) := by decide +kernel
theorem dX10_isAxis_6 : decode cX10_isAxis 6 = .ok (.if_icmp .ne 7, 3) := by decide +kernel
theorem dX10_isAxis_9 : decode cX10_isAxis 9 = .ok (.iconst 1, 1) := by decide +kernel
theorem dX10_isAxis_10 : decode cX10_isAxis 10 = .ok (.goto 4, 3) := by decide +kernel
theorem dX10_isAxis_13 : decode cX10_isAxis 13 = .ok (.iconst 0, 1) := by decide +kernel
theorem dX10_isAxis_14 : decode cX10_isAxis 14 = .ok (.ireturn, 1) := by decide +kernel
theorem dX10_isTable_0 : decode cX10_isTable 0 = .ok (.iload_n 0, 1) := by decide +kernel
theorem dX10_isTable_1 : decode cX10_isTable 1 = .ok (.ifCond .eq 8, 3) := by decide +kernel
theorem dX10_isTable_4 : decode cX10_isTable 4 = .ok (.iload_n 0, 1) := by decide +kernel
theorem dX10_isTable_5 : decode cX10_isTable 5 = .ok (.iconst 1, 1) := by decide +kernel
theorem dX10_isTable_6 : decode cX10_isTable 6 = .ok (.if_icmp .ne 7, 3) := by decide +kernel
theorem dX10_isTable_9 : decode cX10_isTable 9 = .ok (.iconst 1, 1) := by decide +kernel
theorem dX10_isTable_10 : decode cX10_isTable 10 = .ok (.goto 4, 3) := by decide +kernel
theorem dX10_isTable_13 : decode cX10_isTable 13 = .ok (.iconst 0, 1) := by decide +kernel
theorem dX10_isTable_14 : decode cX10_isTable 14 = .ok (.ireturn, 1) := by decide +kernel
theorem dX10_isPower_0 : decode cX10_isPower 0 = .ok (.iload_n 0, 1) := by decide +kernel
theorem dX10_isPower_1 : decode cX10_isPower 1 = .ok (.invokestatic 114, 3) := by decide +kernel
theorem dX10_isPower_4 : decode cX10_isPower 4 = .ok (.ifCond .eq 25, 3) := by decide +kernel
theorem dX10_isPower_7 : decode cX10_isPower 7 = .ok (.iload_n 1, 1) := by decide +kernel
theorem dX10_isPower_8 : decode cX10_isPower 8 = .ok (.ifCond .lt 21, 3) := by decide +kernel
theorem dX10_isPower_11 : decode cX10_isPower 11 = .ok (.iload_n 1, 1) := by decide +kernel
theorem dX10_isPower_12 : decode cX10_isPower 12 = .ok (.iconst 2, 1) := by decide +kernel
theorem dX10_isPower_13 : decode cX10_isPower 13 = .ok (.if_icmp .gt 16, 3) := by decide +kernel
theorem dX10_isPower_16 : decode cX10_isPower 16 = .ok (.iload_n 2, 1) := by decide +kernel
theorem dX10_isPower_17 : decode cX10_isPower 17 = .ok (.ifCond .lt 12, 3) := by decide +kernel
theorem dX10_isPower_20 : decode cX10_isPower 20 = .ok (.iload_n 2, 1) := by decide +kernel
theorem dX10_isPower_21 : decode cX10_isPower 21 = .ok (.iconst 2, 1) := by decide +kernel
theorem dX10_isPower_22 : decode cX10_isPower 22 = .ok (.if_icmp .gt 7, 3) := by decide +kernel
theorem dX10_isPower_25 : decode cX10_isPower 25 = .ok (.iconst 1, 1) := by decide +kernel
theorem dX10_isPower_26 : decode cX10_isPower 26 = .ok (.goto 4, 3) := by decide +kernel
theorem dX10_isPower_29 : decode cX10_isPower 29 = .ok (.iconst 0, 1) := by decide +kernel
theorem dX10_isPower_30 : decode cX10_isPower 30 = .ok (.ireturn, 1) := by decide +kernel
theorem dX10_modulo_0 : decode cX10_modulo 0 = .ok (.iload_n 0, 1) := by decide +kernel
theorem dX10_modulo_1 : decode cX10_modulo 1 = .ok (.bipush 31, 2) := by decide +kernel
theorem dX10_modulo_3 : decode cX10_modulo 3 = .ok (.invokestatic 279, 3) := by decide +kernel
theorem dX10_modulo_6 : decode cX10_modulo 6 = .ok (.ireturn, 1) := by decide +kernel
theorem dX10_quotient_0 : decode cX10_quotient 0 = .ok (.iload_n 0, 1) := by decide +kernel
theorem dX10_quotient_1 : decode cX10_quotient 1 = .ok (.bipush 31, 2) := by decide +kernel
theorem dX10_quotient_3 : decode cX10_quotient 3 = .ok (.invokestatic 279, 3) := by decide +kernel
theorem dX10_quotient_6 : decode cX10_quotient 6 = .ok (.istore_n 2, 1) := by decide +kernel
theorem dX10_quotient_7 : decode cX10_quotient 7 = .ok (.iload_n 1, 1) := by decide +kernel
theorem dX10_quotient_8 : decode cX10_quotient 8 = .ok (.bipush 31, 2) := by decide +kernel
theorem dX10_quotient_10 : decode cX10_quotient 10 = .ok (.invokestatic 279, 3) := by decide +kernel
theorem dX10_quotient_13 : decode cX10_quotient 13 = .ok (.istore_n 3, 1) := by decide +kernel
theorem dX10_quotient_14 : decode cX10_quotient 14 = .ok (.iload_n 3, 1) := by decide +kernel
theorem dX10_quotient_15 : decode cX10_quotient 15 = .ok (.ifCond .ne 15, 3) := by decide +kernel
theorem dX10_quotient_18 : decode cX10_quotient 18 = .ok (.iload_n 2, 1) := by decide +kernel
theorem dX10_quotient_19 : decode cX10_quotient 19 = .ok (.ifCond .ne 8, 3) := by decide +kernel
theorem dX10_quotient_22 : decode cX10_quotient 22 = .ok (.bipush (-6), 2) := by decide +kernel
theorem dX10_quotient_24 : decode cX10_quotient 24 = .ok (.goto 5, 3) := by decide +kernel
theorem dX10_quotient_27 : decode cX10_quotient 27 = .ok (.bipush 31, 2) := by decide +kernel
theorem dX10_quotient_29 : decode cX10_quotient 29 = .ok (.ireturn, 1) := by decide +kernel
theorem dX10_quotient_30 : decode cX10_quotient 30 = .ok (.iload_n 2, 1) := by decide +kernel
theorem dX10_quotient_31 : decode cX10_quotient 31 = .ok (.getstatic 284, 3) := by decide +kernel
theorem dX10_quotient_34 : decode cX10_quotient 34 = .ok (.iload_n 3, 1) := by decide +kernel
theorem dX10_quotient_35 : decode cX10_quotient 35 = .ok (.iaload, 1) := by decide +kernel
theorem dX10_quotient_36 : decode cX10_quotient 36 = .ok (.imul, 1) := by decide +kernel
theorem dX10_quotient_37 : decode cX10_quotient 37 = .ok (.bipush 31, 2) := by decide +kernel
theorem dX10_quotient_39 : decode cX10_quotient 39 = .ok (.irem, 1) := by decide +kernel
theorem dX10_quotient_40 : decode cX10_quotient 40 = .ok (.ireturn, 1) := by decide +kernel
theorem dX10_quadraticAt_0 : decode cX10_quadraticAt 0 = .ok (.iload_n 3, 1) := by decide +kernel
theorem dX10_quadraticAt_1 : decode cX10_quadraticAt 1 = .ok (.bipush 31, 2) := by decide +kernel
theorem dX10_quadraticAt_3 : decode cX10_quadraticAt 3 = .ok (.if_icmp .ne 7, 3) := by decide +kernel
theorem dX10_quadraticAt_6 : decode cX10_quadraticAt 6 = .ok (.iload_n 2, 1) := by decide +kernel
theorem dX10_quadraticAt_7 : decode cX10_quadraticAt 7 = .ok (.goto 15, 3) := by decide +kernel
theorem dX10_quadraticAt_10 : decode cX10_quadraticAt 10 = .ok (.iload_n 0, 1) := by decide +kernel
theorem dX10_quadraticAt_11 : decode cX10_quadraticAt 11 = .ok (.iload_n 1, 1) := by decide +kernel
theorem dX10_quadraticAt_12 : decode cX10_quadraticAt 12 = .ok (.iload_n 2, 1) := by decide +kernel
theorem dX10_quadraticAt_13 : decode cX10_quadraticAt 13 = .ok (.iload_n 3, 1) := by decide +kernel
theorem dX10_quadraticAt_14 : decode cX10_quadraticAt 14 = .ok (.imul, 1) := by decide +kernel
theorem dX10_quadraticAt_15 : decode cX10_quadraticAt 15 = .ok (.iadd, 1) := by decide +kernel
theorem dX10_quadraticAt_16 : decode cX10_quadraticAt 16 = .ok (.iload_n 3, 1) := by decide +kernel
theorem dX10_quadraticAt_17 : decode cX10_quadraticAt 17 = .ok (.imul, 1) := by decide +kernel
theorem dX10_quadraticAt_18 : decode cX10_quadraticAt 18 = .ok (.iadd, 1) := by decide +kernel
theorem dX10_quadraticAt_19 : decode cX10_quadraticAt 19 = .ok (.bipush 31, 2) := by decide +kernel
theorem dX10_quadraticAt_21 : decode cX10_quadraticAt 21 = .ok (.irem, 1) := by decide +kernel
theorem dX10_quadraticAt_22 : decode cX10_quadraticAt 22 = .ok (.ireturn, 1) := by decide +kernel
theorem dX10_powerAt_0 : decode cX10_powerAt 0 = .ok (.iload_n 0, 1) := by decide +kernel
theorem dX10_powerAt_1 : decode cX10_powerAt 1 = .ok (.ifCond .ne 7, 3) := by decide +kernel
theorem dX10_powerAt_4 : decode cX10_powerAt 4 = .ok (.iconst 1, 1) := by decide +kernel
theorem dX10_powerAt_5 : decode cX10_powerAt 5 = .ok (.goto 4, 3) := by decide +kernel
theorem dX10_powerAt_8 : decode cX10_powerAt 8 = .ok (.iconst 0, 1) := by decide +kernel
theorem dX10_powerAt_9 : decode cX10_powerAt 9 = .ok (.iload_n 0, 1) := by decide +kernel
theorem dX10_powerAt_10 : decode cX10_powerAt 10 = .ok (.iconst 1, 1) := by decide +kernel
theorem dX10_powerAt_11 : decode cX10_powerAt 11 = .ok (.if_icmp .ne 7, 3) := by decide +kernel
theorem dX10_powerAt_14 : decode cX10_powerAt 14 = .ok (.iconst 1, 1) := by decide +kernel
theorem dX10_powerAt_15 : decode cX10_powerAt 15 = .ok (.goto 4, 3) := by decide +kernel
theorem dX10_powerAt_18 : decode cX10_powerAt 18 = .ok (.iconst 0, 1) := by decide +kernel
theorem dX10_powerAt_19 : decode cX10_powerAt 19 = .ok (.iload_n 0, 1) := by decide +kernel
theorem dX10_powerAt_20 : decode cX10_powerAt 20 = .ok (.iconst 2, 1) := by decide +kernel
theorem dX10_powerAt_21 : decode cX10_powerAt 21 = .ok (.if_icmp .ne 7, 3) := by decide +kernel
theorem dX10_powerAt_24 : decode cX10_powerAt 24 = .ok (.iconst 1, 1) := by decide +kernel
theorem dX10_powerAt_25 : decode cX10_powerAt 25 = .ok (.goto 4, 3) := by decide +kernel
theorem dX10_powerAt_28 : decode cX10_powerAt 28 = .ok (.iconst 0, 1) := by decide +kernel
theorem dX10_powerAt_29 : decode cX10_powerAt 29 = .ok (.iload_n 1, 1) := by decide +kernel
theorem dX10_powerAt_30 : decode cX10_powerAt 30 = .ok (.invokestatic 287, 3) := by decide +kernel
theorem dX10_powerAt_33 : decode cX10_powerAt 33 = .ok (.ireturn, 1) := by decide +kernel
theorem dX10_drawn_0 : decode cX10_drawn 0 = .ok (.iload_n 0, 1) := by decide +kernel
theorem dX10_drawn_1 : decode cX10_drawn 1 = .ok (.ldc_w 291, 3) := by decide +kernel
theorem dX10_drawn_4 : decode cX10_drawn 4 = .ok (.imul, 1) := by decide +kernel
theorem dX10_drawn_5 : decode cX10_drawn 5 = .ok (.sipush 12345, 3) := by decide +kernel
theorem dX10_drawn_8 : decode cX10_drawn 8 = .ok (.iadd, 1) := by decide +kernel
theorem dX10_drawn_9 : decode cX10_drawn 9 = .ok (.ireturn, 1) := by decide +kernel
theorem dX10_commonDivisor_0 : decode cX10_commonDivisor 0 = .ok (.iload_n 0, 1) := by decide +kernel
theorem dX10_commonDivisor_1 : decode cX10_commonDivisor 1 = .ok (.istore_n 2, 1) := by decide +kernel
theorem dX10_commonDivisor_2 : decode cX10_commonDivisor 2 = .ok (.iload_n 1, 1) := by decide +kernel
theorem dX10_commonDivisor_3 : decode cX10_commonDivisor 3 = .ok (.istore_n 3, 1) := by decide +kernel
theorem dX10_commonDivisor_4 : decode cX10_commonDivisor 4 = .ok (.iconst 0, 1) := by decide +kernel
theorem dX10_commonDivisor_5 : decode cX10_commonDivisor 5 = .ok (.istore 4, 2) := by decide +kernel
theorem dX10_commonDivisor_7 : decode cX10_commonDivisor 7 = .ok (.iload 4, 2) := by decide +kernel
theorem dX10_commonDivisor_9 : decode cX10_commonDivisor 9 = .ok (.bipush 64, 2) := by decide +kernel
theorem dX10_commonDivisor_11 : decode cX10_commonDivisor 11 = .ok (.if_icmp .ge 23, 3) := by decide +kernel
theorem dX10_commonDivisor_14 : decode cX10_commonDivisor 14 = .ok (.iload_n 3, 1) := by decide +kernel
theorem dX10_commonDivisor_15 : decode cX10_commonDivisor 15 = .ok (.ifCond .le 19, 3) := by decide +kernel
theorem dX10_commonDivisor_18 : decode cX10_commonDivisor 18 = .ok (.iload_n 2, 1) := by decide +kernel
theorem dX10_commonDivisor_19 : decode cX10_commonDivisor 19 = .ok (.iload_n 3, 1) := by decide +kernel
theorem dX10_commonDivisor_20 : decode cX10_commonDivisor 20 = .ok (.irem, 1) := by decide +kernel
theorem dX10_commonDivisor_21 : decode cX10_commonDivisor 21 = .ok (.istore 5, 2) := by decide +kernel
theorem dX10_commonDivisor_23 : decode cX10_commonDivisor 23 = .ok (.iload_n 3, 1) := by decide +kernel
theorem dX10_commonDivisor_24 : decode cX10_commonDivisor 24 = .ok (.istore_n 2, 1) := by decide +kernel
theorem dX10_commonDivisor_25 : decode cX10_commonDivisor 25 = .ok (.iload 5, 2) := by decide +kernel
theorem dX10_commonDivisor_27 : decode cX10_commonDivisor 27 = .ok (.istore_n 3, 1) := by decide +kernel
theorem dX10_commonDivisor_28 : decode cX10_commonDivisor 28 = .ok (.iinc 4 1, 3) := by decide +kernel
theorem dX10_commonDivisor_31 : decode cX10_commonDivisor 31 = .ok (.goto (-24), 3) := by decide +kernel
theorem dX10_commonDivisor_34 : decode cX10_commonDivisor 34 = .ok (.iload_n 2, 1) := by decide +kernel
theorem dX10_commonDivisor_35 : decode cX10_commonDivisor 35 = .ok (.ifCond .le 7, 3) := by decide +kernel
theorem dX10_commonDivisor_38 : decode cX10_commonDivisor 38 = .ok (.iload_n 2, 1) := by decide +kernel
theorem dX10_commonDivisor_39 : decode cX10_commonDivisor 39 = .ok (.goto 4, 3) := by decide +kernel
theorem dX10_commonDivisor_42 : decode cX10_commonDivisor 42 = .ok (.iconst 1, 1) := by decide +kernel
theorem dX10_commonDivisor_43 : decode cX10_commonDivisor 43 = .ok (.ireturn, 1) := by decide +kernel
