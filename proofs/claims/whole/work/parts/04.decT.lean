theorem dX10_init_0 : decode cX10_init 0 = .ok (.aload_n 0, 1) := by decide +kernel
theorem dX10_init_1 : decode cX10_init 1 = .ok (.invokespecial 1, 3) := by decide +kernel
theorem dX10_init_4 : decode cX10_init 4 = .ok (.aload_n 0, 1) := by decide +kernel
theorem dX10_init_5 : decode cX10_init 5 = .ok (.new 7, 3) := by decide +kernel
theorem dX10_init_8 : decode cX10_init 8 = .ok (.dup, 1) := by decide +kernel
theorem dX10_init_9 : decode cX10_init 9 = .ok (.invokespecial 9, 3) := by decide +kernel
theorem dX10_init_12 : decode cX10_init 12 = .ok (.putfield 10, 3) := by decide +kernel
theorem dX10_init_15 : decode cX10_init 15 = .ok (.aload_n 0, 1) := by decide +kernel
theorem dX10_init_16 : decode cX10_init 16 = .ok (.new 16, 3) := by decide +kernel
theorem dX10_init_19 : decode cX10_init 19 = .ok (.dup, 1) := by decide +kernel
theorem dX10_init_20 : decode cX10_init 20 = .ok (.invokespecial 18, 3) := by decide +kernel
theorem dX10_init_23 : decode cX10_init 23 = .ok (.putfield 19, 3) := by decide +kernel
theorem dX10_init_26 : decode cX10_init 26 = .ok (.aload_n 0, 1) := by decide +kernel
theorem dX10_init_27 : decode cX10_init 27 = .ok (.new 23, 3) := by decide +kernel
theorem dX10_init_30 : decode cX10_init 30 = .ok (.dup, 1) := by decide +kernel
theorem dX10_init_31 : decode cX10_init 31 = .ok (.invokespecial 25, 3) := by decide +kernel
theorem dX10_init_34 : decode cX10_init 34 = .ok (.putfield 26, 3) := by decide +kernel
theorem dX10_init_37 : decode cX10_init 37 = .ok (.aload_n 0, 1) := by decide +kernel
theorem dX10_init_38 : decode cX10_init 38 = .ok (.new 30, 3) := by decide +kernel
theorem dX10_init_41 : decode cX10_init 41 = .ok (.dup, 1) := by decide +kernel
theorem dX10_init_42 : decode cX10_init 42 = .ok (.invokespecial 32, 3) := by decide +kernel
theorem dX10_init_45 : decode cX10_init 45 = .ok (.putfield 33, 3) := by decide +kernel
theorem dX10_init_48 : decode cX10_init 48 = .ok (.aload_n 0, 1) := by decide +kernel
theorem dX10_init_49 : decode cX10_init 49 = .ok (.new 37, 3) := by decide +kernel
theorem dX10_init_52 : decode cX10_init 52 = .ok (.dup, 1) := by decide +kernel
theorem dX10_init_53 : decode cX10_init 53 = .ok (.invokespecial 39, 3) := by decide +kernel
theorem dX10_init_56 : decode cX10_init 56 = .ok (.putfield 40, 3) := by decide +kernel
theorem dX10_init_59 : decode cX10_init 59 = .ok (.aload_n 0, 1) := by decide +kernel
theorem dX10_init_60 : decode cX10_init 60 = .ok (.new 44, 3) := by decide +kernel
theorem dX10_init_63 : decode cX10_init 63 = .ok (.dup, 1) := by decide +kernel
theorem dX10_init_64 : decode cX10_init 64 = .ok (.invokespecial 46, 3) := by decide +kernel
theorem dX10_init_67 : decode cX10_init 67 = .ok (.putfield 47, 3) := by decide +kernel
theorem dX10_init_70 : decode cX10_init 70 = .ok (.aload_n 0, 1) := by decide +kernel
theorem dX10_init_71 : decode cX10_init 71 = .ok (.new 51, 3) := by decide +kernel
theorem dX10_init_74 : decode cX10_init 74 = .ok (.dup, 1) := by decide +kernel
theorem dX10_init_75 : decode cX10_init 75 = .ok (.invokespecial 53, 3) := by decide +kernel
theorem dX10_init_78 : decode cX10_init 78 = .ok (.putfield 54, 3) := by decide +kernel
theorem dX10_init_81 : decode cX10_init 81 = .ok (.aload_n 0, 1) := by decide +kernel
theorem dX10_init_82 : decode cX10_init 82 = .ok (.new 58, 3) := by decide +kernel
theorem dX10_init_85 : decode cX10_init 85 = .ok (.dup, 1) := by decide +kernel
theorem dX10_init_86 : decode cX10_init 86 = .ok (.invokespecial 60, 3) := by decide +kernel
theorem dX10_init_89 : decode cX10_init 89 = .ok (.putfield 61, 3) := by decide +kernel
theorem dX10_init_92 : decode cX10_init 92 = .ok (.aload_n 0, 1) := by decide +kernel
theorem dX10_init_93 : decode cX10_init 93 = .ok (.new 58, 3) := by decide +kernel
theorem dX10_init_96 : decode cX10_init 96 = .ok (.dup, 1) := by decide +kernel
theorem dX10_init_97 : decode cX10_init 97 = .ok (.invokespecial 60, 3) := by decide +kernel
theorem dX10_init_100 : decode cX10_init 100 = .ok (.putfield 65, 3) := by decide +kernel
theorem dX10_init_103 : decode cX10_init 103 = .ok (.aload_n 0, 1) := by decide +kernel
theorem dX10_init_104 : decode cX10_init 104 = .ok (.getfield 10, 3) := by decide +kernel
theorem dX10_init_107 : decode cX10_init 107 = .ok (.ldc 68, 2) := by decide +kernel
theorem dX10_init_109 : decode cX10_init 109 = .ok (.invokevirtual 70, 3) := by decide +kernel
theorem dX10_init_112 : decode cX10_init 112 = .ok (.aload_n 0, 1) := by decide +kernel
theorem dX10_init_113 : decode cX10_init 113 = .ok (.invokevirtual 74, 3) := by decide +kernel
theorem dX10_init_116 : decode cX10_init 116 = .ok (.pop, 1) := by decide +kernel
theorem dX10_init_117 : decode cX10_init 117 = .ok (.aload_n 0, 1) := by decide +kernel
theorem dX10_init_118 : decode cX10_init 118 = .ok (.getfield 10, 3) := by decide +kernel
theorem dX10_init_121 : decode cX10_init 121 = .ok (.invokevirtual 78, 3) := by decide +kernel
theorem dX10_init_124 : decode cX10_init 124 = .ok (.return_, 1) := by decide +kernel
theorem dX10_write_0 : decode cX10_write 0 = .ok (.iload_n 1, 1) := by decide +kernel
theorem dX10_write_1 : decode cX10_write 1 = .ok (.bipush 32, 2) := by decide +kernel
theorem dX10_write_3 : decode cX10_write 3 = .ok (.if_icmp .lt 9, 3) := by decide +kernel
theorem dX10_write_6 : decode cX10_write 6 = .ok (.iload_n 1, 1) := by decide +kernel
theorem dX10_write_7 : decode cX10_write 7 = .ok (.bipush 126, 2) := by decide +kernel
theorem dX10_write_9 : decode cX10_write 9 = .ok (.if_icmp .le 5, 3) := by decide +kernel
theorem dX10_write_12 : decode cX10_write 12 = .ok (.iconst (-1), 1) := by decide +kernel
theorem dX10_write_13 : decode cX10_write 13 = .ok (.ireturn, 1) := by decide +kernel
theorem dX10_write_14 : decode cX10_write 14 = .ok (.aload_n 0, 1) := by decide +kernel
theorem dX10_write_15 : decode cX10_write 15 = .ok (.getfield 10, 3) := by decide +kernel
theorem dX10_write_18 : decode cX10_write 18 = .ok (.iload_n 1, 1) := by decide +kernel
theorem dX10_write_19 : decode cX10_write 19 = .ok (.invokevirtual 81, 3) := by decide +kernel
theorem dX10_write_22 : decode cX10_write 22 = .ok (.ifCond .eq 13, 3) := by decide +kernel
theorem dX10_write_25 : decode cX10_write 25 = .ok (.aload_n 0, 1) := by decide +kernel
theorem dX10_write_26 : decode cX10_write 26 = .ok (.getfield 10, 3) := by decide +kernel
theorem dX10_write_29 : decode cX10_write 29 = .ok (.getfield 85, 3) := by decide +kernel
theorem dX10_write_32 : decode cX10_write 32 = .ok (.goto 5, 3) := by decide +kernel
theorem dX10_write_35 : decode cX10_write 35 = .ok (.bipush (-3), 2) := by decide +kernel
theorem dX10_write_37 : decode cX10_write 37 = .ok (.ireturn, 1) := by decide +kernel
theorem dX10_wipe_0 : decode cX10_wipe 0 = .ok (.aload_n 0, 1) := by decide +kernel
theorem dX10_wipe_1 : decode cX10_wipe 1 = .ok (.getfield 10, 3) := by decide +kernel
theorem dX10_wipe_4 : decode cX10_wipe 4 = .ok (.getfield 85, 3) := by decide +kernel
theorem dX10_wipe_7 : decode cX10_wipe 7 = .ok (.istore_n 1, 1) := by decide +kernel
theorem dX10_wipe_8 : decode cX10_wipe 8 = .ok (.aload_n 0, 1) := by decide +kernel
theorem dX10_wipe_9 : decode cX10_wipe 9 = .ok (.getfield 10, 3) := by decide +kernel
theorem dX10_wipe_12 : decode cX10_wipe 12 = .ok (.invokevirtual 78, 3) := by decide +kernel
theorem dX10_wipe_15 : decode cX10_wipe 15 = .ok (.iload_n 1, 1) := by decide +kernel
theorem dX10_wipe_16 : decode cX10_wipe 16 = .ok (.ireturn, 1) := by decide +kernel
theorem dX10_fault_0 : decode cX10_fault 0 = .ok (.aload_n 0, 1) := by decide +kernel
theorem dX10_fault_1 : decode cX10_fault 1 = .ok (.getfield 65, 3) := by decide +kernel
theorem dX10_fault_4 : decode cX10_fault 4 = .ok (.aload_n 0, 1) := by decide +kernel
theorem dX10_fault_5 : decode cX10_fault 5 = .ok (.getfield 10, 3) := by decide +kernel
theorem dX10_fault_8 : decode cX10_fault 8 = .ok (.invokevirtual 89, 3) := by decide +kernel
theorem dX10_fault_11 : decode cX10_fault 11 = .ok (.ireturn, 1) := by decide +kernel
theorem dX10_lay_0 : decode cX10_lay 0 = .ok (.aload_n 0, 1) := by decide +kernel
theorem dX10_lay_1 : decode cX10_lay 1 = .ok (.invokevirtual 74, 3) := by decide +kernel
theorem dX10_lay_4 : decode cX10_lay 4 = .ok (.ifCond .eq 13, 3) := by decide +kernel
theorem dX10_lay_7 : decode cX10_lay 7 = .ok (.aload_n 0, 1) := by decide +kernel
theorem dX10_lay_8 : decode cX10_lay 8 = .ok (.getfield 19, 3) := by decide +kernel
theorem dX10_lay_11 : decode cX10_lay 11 = .ok (.invokevirtual 93, 3) := by decide +kernel
theorem dX10_lay_14 : decode cX10_lay 14 = .ok (.goto 5, 3) := by decide +kernel
theorem dX10_lay_17 : decode cX10_lay 17 = .ok (.bipush (-2), 2) := by decide +kernel
theorem dX10_lay_19 : decode cX10_lay 19 = .ok (.ireturn, 1) := by decide +kernel
theorem dX10_figure_0 : decode cX10_figure 0 = .ok (.iload_n 1, 1) := by decide +kernel
theorem dX10_figure_1 : decode cX10_figure 1 = .ok (.invokestatic 97, 3) := by decide +kernel
theorem dX10_figure_4 : decode cX10_figure 4 = .ok (.ifCond .eq 12, 3) := by decide +kernel
theorem dX10_figure_7 : decode cX10_figure 7 = .ok (.iload_n 2, 1) := by decide +kernel
theorem dX10_figure_8 : decode cX10_figure 8 = .ok (.iconst 0, 1) := by decide +kernel
theorem dX10_figure_9 : decode cX10_figure 9 = .ok (.iconst 1, 1) := by decide +kernel
theorem dX10_figure_10 : decode cX10_figure 10 = .ok (.invokestatic 100, 3) := by decide +kernel
theorem dX10_figure_13 : decode cX10_figure 13 = .ok (.ifCond .ne 5, 3) := by decide +kernel
theorem dX10_figure_16 : decode cX10_figure 16 = .ok (.iconst (-1), 1) := by decide +kernel
theorem dX10_figure_17 : decode cX10_figure 17 = .ok (.ireturn, 1) := by decide +kernel
theorem dX10_figure_18 : decode cX10_figure 18 = .ok (.iload_n 2, 1) := by decide +kernel
theorem dX10_figure_19 : decode cX10_figure 19 = .ok (.ifCond .ne 20, 3) := by decide +kernel
theorem dX10_figure_22 : decode cX10_figure 22 = .ok (.aload_n 0, 1) := by decide +kernel
theorem dX10_figure_23 : decode cX10_figure 23 = .ok (.getfield 19, 3) := by decide +kernel
theorem dX10_figure_26 : decode cX10_figure 26 = .ok (.iload_n 1, 1) := by decide +kernel
theorem dX10_figure_27 : decode cX10_figure 27 = .ok (.invokevirtual 104, 3) := by decide +kernel
theorem dX10_figure_30 : decode cX10_figure 30 = .ok (.ifCond .eq 7, 3) := by decide +kernel
theorem dX10_figure_33 : decode cX10_figure 33 = .ok (.iconst 1, 1) := by decide +kernel
theorem dX10_figure_34 : decode cX10_figure 34 = .ok (.goto 4, 3) := by decide +kernel
theorem dX10_figure_37 : decode cX10_figure 37 = .ok (.iconst 0, 1) := by decide +kernel
theorem dX10_figure_38 : decode cX10_figure 38 = .ok (.ireturn, 1) := by decide +kernel
theorem dX10_figure_39 : decode cX10_figure 39 = .ok (.aload_n 0, 1) := by decide +kernel
theorem dX10_figure_40 : decode cX10_figure 40 = .ok (.getfield 19, 3) := by decide +kernel
theorem dX10_figure_43 : decode cX10_figure 43 = .ok (.getfield 107, 3) := by decide +kernel
theorem dX10_figure_46 : decode cX10_figure 46 = .ok (.iload_n 1, 1) := by decide +kernel
theorem dX10_figure_47 : decode cX10_figure 47 = .ok (.iaload, 1) := by decide +kernel
theorem dX10_figure_48 : decode cX10_figure 48 = .ok (.ireturn, 1) := by decide +kernel
theorem dX10_coin_0 : decode cX10_coin 0 = .ok (.iload_n 1, 1) := by decide +kernel
theorem dX10_coin_1 : decode cX10_coin 1 = .ok (.iconst 0, 1) := by decide +kernel
theorem dX10_coin_2 : decode cX10_coin 2 = .ok (.aload_n 0, 1) := by decide +kernel
theorem dX10_coin_3 : decode cX10_coin 3 = .ok (.getfield 61, 3) := by decide +kernel
theorem dX10_coin_6 : decode cX10_coin 6 = .ok (.getfield 111, 3) := by decide +kernel
theorem dX10_coin_9 : decode cX10_coin 9 = .ok (.iconst 1, 1) := by decide +kernel
theorem dX10_coin_10 : decode cX10_coin 10 = .ok (.isub, 1) := by decide +kernel
theorem dX10_coin_11 : decode cX10_coin 11 = .ok (.invokestatic 100, 3) := by decide +kernel
theorem dX10_coin_14 : decode cX10_coin 14 = .ok (.ifCond .eq 15, 3) := by decide +kernel
theorem dX10_coin_17 : decode cX10_coin 17 = .ok (.aload_n 0, 1) := by decide +kernel
theorem dX10_coin_18 : decode cX10_coin 18 = .ok (.getfield 61, 3) := by decide +kernel
theorem dX10_coin_21 : decode cX10_coin 21 = .ok (.getfield 114, 3) := by decide +kernel
theorem dX10_coin_24 : decode cX10_coin 24 = .ok (.iload_n 1, 1) := by decide +kernel
theorem dX10_coin_25 : decode cX10_coin 25 = .ok (.iaload, 1) := by decide +kernel
theorem dX10_coin_26 : decode cX10_coin 26 = .ok (.goto 4, 3) := by decide +kernel
theorem dX10_coin_29 : decode cX10_coin 29 = .ok (.iconst (-1), 1) := by decide +kernel
theorem dX10_coin_30 : decode cX10_coin 30 = .ok (.ireturn, 1) := by decide +kernel
theorem dX10_strike_0 : decode cX10_strike 0 = .ok (.iload_n 1, 1) := by decide +kernel
theorem dX10_strike_1 : decode cX10_strike 1 = .ok (.invokestatic 97, 3) := by decide +kernel
theorem dX10_strike_4 : decode cX10_strike 4 = .ok (.ifCond .eq 12, 3) := by decide +kernel
theorem dX10_strike_7 : decode cX10_strike 7 = .ok (.iload_n 2, 1) := by decide +kernel
theorem dX10_strike_8 : decode cX10_strike 8 = .ok (.iconst 0, 1) := by decide +kernel
theorem dX10_strike_9 : decode cX10_strike 9 = .ok (.iconst 1, 1) := by decide +kernel
theorem dX10_strike_10 : decode cX10_strike 10 = .ok (.invokestatic 100, 3) := by decide +kernel
theorem dX10_strike_13 : decode cX10_strike 13 = .ok (.ifCond .ne 5, 3) := by decide +kernel
theorem dX10_strike_16 : decode cX10_strike 16 = .ok (.iconst (-1), 1) := by decide +kernel
theorem dX10_strike_17 : decode cX10_strike 17 = .ok (.ireturn, 1) := by decide +kernel
theorem dX10_strike_18 : decode cX10_strike 18 = .ok (.aload_n 0, 1) := by decide +kernel
theorem dX10_strike_19 : decode cX10_strike 19 = .ok (.getfield 19, 3) := by decide +kernel
theorem dX10_strike_22 : decode cX10_strike 22 = .ok (.iload_n 1, 1) := by decide +kernel
theorem dX10_strike_23 : decode cX10_strike 23 = .ok (.invokevirtual 104, 3) := by decide +kernel
theorem dX10_strike_26 : decode cX10_strike 26 = .ok (.iload_n 2, 1) := by decide +kernel
theorem dX10_strike_27 : decode cX10_strike 27 = .ok (.iconst 1, 1) := by decide +kernel
theorem dX10_strike_28 : decode cX10_strike 28 = .ok (.if_icmp .ne 7, 3) := by decide +kernel
theorem dX10_strike_31 : decode cX10_strike 31 = .ok (.iconst 1, 1) := by decide +kernel
theorem dX10_strike_32 : decode cX10_strike 32 = .ok (.goto 4, 3) := by decide +kernel
theorem dX10_strike_35 : decode cX10_strike 35 = .ok (.iconst 0, 1) := by decide +kernel
theorem dX10_strike_36 : decode cX10_strike 36 = .ok (.if_icmp .ne 6, 3) := by decide +kernel
theorem dX10_strike_39 : decode cX10_strike 39 = .ok (.bipush (-2), 2) := by decide +kernel
theorem dX10_strike_41 : decode cX10_strike 41 = .ok (.ireturn, 1) := by decide +kernel
theorem dX10_strike_42 : decode cX10_strike 42 = .ok (.aload_n 0, 1) := by decide +kernel
theorem dX10_strike_43 : decode cX10_strike 43 = .ok (.getfield 19, 3) := by decide +kernel
theorem dX10_strike_46 : decode cX10_strike 46 = .ok (.dup, 1) := by decide +kernel
theorem dX10_strike_47 : decode cX10_strike 47 = .ok (.getfield 117, 3) := by decide +kernel
theorem dX10_strike_50 : decode cX10_strike 50 = .ok (.iconst 1, 1) := by decide +kernel
theorem dX10_strike_51 : decode cX10_strike 51 = .ok (.iload_n 1, 1) := by decide +kernel
theorem dX10_strike_52 : decode cX10_strike 52 = .ok (.ishl, 1) := by decide +kernel
theorem dX10_strike_53 : decode cX10_strike 53 = .ok (.ixor, 1) := by decide +kernel
theorem dX10_strike_54 : decode cX10_strike 54 = .ok (.putfield 117, 3) := by decide +kernel
theorem dX10_strike_57 : decode cX10_strike 57 = .ok (.aload_n 0, 1) := by decide +kernel
theorem dX10_strike_58 : decode cX10_strike 58 = .ok (.getfield 26, 3) := by decide +kernel
theorem dX10_strike_61 : decode cX10_strike 61 = .ok (.iload_n 1, 1) := by decide +kernel
theorem dX10_strike_62 : decode cX10_strike 62 = .ok (.iconst (-1), 1) := by decide +kernel
theorem dX10_strike_63 : decode cX10_strike 63 = .ok (.invokevirtual 120, 3) := by decide +kernel
theorem dX10_strike_66 : decode cX10_strike 66 = .ok (.aload_n 0, 1) := by decide +kernel
theorem dX10_strike_67 : decode cX10_strike 67 = .ok (.getfield 19, 3) := by decide +kernel
theorem dX10_strike_70 : decode cX10_strike 70 = .ok (.invokevirtual 93, 3) := by decide +kernel
theorem dX10_strike_73 : decode cX10_strike 73 = .ok (.ireturn, 1) := by decide +kernel
theorem dX10_standIn_0 : decode cX10_standIn 0 = .ok (.iload_n 1, 1) := by decide +kernel
theorem dX10_standIn_1 : decode cX10_standIn 1 = .ok (.invokestatic 97, 3) := by decide +kernel
theorem dX10_standIn_4 : decode cX10_standIn 4 = .ok (.ifCond .eq 10, 3) := by decide +kernel
theorem dX10_standIn_7 : decode cX10_standIn 7 = .ok (.iload_n 2, 1) := by decide +kernel
theorem dX10_standIn_8 : decode cX10_standIn 8 = .ok (.invokestatic 97, 3) := by decide +kernel
theorem dX10_standIn_11 : decode cX10_standIn 11 = .ok (.ifCond .ne 5, 3) := by decide +kernel
theorem dX10_standIn_14 : decode cX10_standIn 14 = .ok (.iconst (-1), 1) := by decide +kernel
theorem dX10_standIn_15 : decode cX10_standIn 15 = .ok (.ireturn, 1) := by decide +kernel
theorem dX10_standIn_16 : decode cX10_standIn 16 = .ok (.aload_n 0, 1) := by decide +kernel
theorem dX10_standIn_17 : decode cX10_standIn 17 = .ok (.getfield 19, 3) := by decide +kernel
theorem dX10_standIn_20 : decode cX10_standIn 20 = .ok (.getfield 107, 3) := by decide +kernel
theorem dX10_standIn_23 : decode cX10_standIn 23 = .ok (.iload_n 1, 1) := by decide +kernel
theorem dX10_standIn_24 : decode cX10_standIn 24 = .ok (.iaload, 1) := by decide +kernel
theorem dX10_standIn_25 : decode cX10_standIn 25 = .ok (.istore_n 3, 1) := by decide +kernel
theorem dX10_standIn_26 : decode cX10_standIn 26 = .ok (.aload_n 0, 1) := by decide +kernel
theorem dX10_standIn_27 : decode cX10_standIn 27 = .ok (.getfield 19, 3) := by decide +kernel
theorem dX10_standIn_30 : decode cX10_standIn 30 = .ok (.getfield 107, 3) := by decide +kernel
theorem dX10_standIn_33 : decode cX10_standIn 33 = .ok (.iload_n 1, 1) := by decide +kernel
theorem dX10_standIn_34 : decode cX10_standIn 34 = .ok (.iload_n 2, 1) := by decide +kernel
theorem dX10_standIn_35 : decode cX10_standIn 35 = .ok (.iastore, 1) := by decide +kernel
theorem dX10_standIn_36 : decode cX10_standIn 36 = .ok (.aload_n 0, 1) := by decide +kernel
theorem dX10_standIn_37 : decode cX10_standIn 37 = .ok (.getfield 26, 3) := by decide +kernel
theorem dX10_standIn_40 : decode cX10_standIn 40 = .ok (.iload_n 1, 1) := by decide +kernel
theorem dX10_standIn_41 : decode cX10_standIn 41 = .ok (.iload_n 3, 1) := by decide +kernel
theorem dX10_standIn_42 : decode cX10_standIn 42 = .ok (.invokevirtual 120, 3) := by decide +kernel
theorem dX10_standIn_45 : decode cX10_standIn 45 = .ok (.iload_n 3, 1) := by decide +kernel
theorem dX10_standIn_46 : decode cX10_standIn 46 = .ok (.ireturn, 1) := by decide +kernel
theorem dX10_undo_0 : decode cX10_undo 0 = .ok (.aload_n 0, 1) := by decide +kernel
theorem dX10_undo_1 : decode cX10_undo 1 = .ok (.getfield 26, 3) := by decide +kernel
theorem dX10_undo_4 : decode cX10_undo 4 = .ok (.aload_n 0, 1) := by decide +kernel
theorem dX10_undo_5 : decode cX10_undo 5 = .ok (.getfield 19, 3) := by decide +kernel
theorem dX10_undo_8 : decode cX10_undo 8 = .ok (.invokevirtual 124, 3) := by decide +kernel
theorem dX10_undo_11 : decode cX10_undo 11 = .ok (.ifCond .eq 13, 3) := by decide +kernel
theorem dX10_undo_14 : decode cX10_undo 14 = .ok (.aload_n 0, 1) := by decide +kernel
theorem dX10_undo_15 : decode cX10_undo 15 = .ok (.getfield 26, 3) := by decide +kernel
theorem dX10_undo_18 : decode cX10_undo 18 = .ok (.getfield 128, 3) := by decide +kernel
theorem dX10_undo_21 : decode cX10_undo 21 = .ok (.goto 5, 3) := by decide +kernel
theorem dX10_undo_24 : decode cX10_undo 24 = .ok (.bipush (-2), 2) := by decide +kernel
theorem dX10_undo_26 : decode cX10_undo 26 = .ok (.ireturn, 1) := by decide +kernel
theorem dX10_said_0 : decode cX10_said 0 = .ok (.iload_n 1, 1) := by decide +kernel
theorem dX10_said_1 : decode cX10_said 1 = .ok (.iconst 0, 1) := by decide +kernel
theorem dX10_said_2 : decode cX10_said 2 = .ok (.ldc 131, 2) := by decide +kernel
theorem dX10_said_4 : decode cX10_said 4 = .ok (.invokestatic 100, 3) := by decide +kernel
theorem dX10_said_7 : decode cX10_said 7 = .ok (.ifCond .ne 5, 3) := by decide +kernel
theorem dX10_said_10 : decode cX10_said 10 = .ok (.iconst (-1), 1) := by decide +kernel
theorem dX10_said_11 : decode cX10_said 11 = .ok (.ireturn, 1) := by decide +kernel
theorem dX10_said_12 : decode cX10_said 12 = .ok (.aload_n 0, 1) := by decide +kernel
theorem dX10_said_13 : decode cX10_said 13 = .ok (.getfield 19, 3) := by decide +kernel
theorem dX10_said_16 : decode cX10_said 16 = .ok (.getfield 117, 3) := by decide +kernel
theorem dX10_said_19 : decode cX10_said 19 = .ok (.iload_n 1, 1) := by decide +kernel
theorem dX10_said_20 : decode cX10_said 20 = .ok (.invokestatic 132, 3) := by decide +kernel
theorem dX10_said_23 : decode cX10_said 23 = .ok (.ifCond .eq 7, 3) := by decide +kernel
theorem dX10_said_26 : decode cX10_said 26 = .ok (.iconst 1, 1) := by decide +kernel
theorem dX10_said_27 : decode cX10_said 27 = .ok (.goto 4, 3) := by decide +kernel
theorem dX10_said_30 : decode cX10_said 30 = .ok (.iconst 0, 1) := by decide +kernel
theorem dX10_said_31 : decode cX10_said 31 = .ok (.ireturn, 1) := by decide +kernel
theorem dX10_next_0 : decode cX10_next 0 = .ok (.iload_n 1, 1) := by decide +kernel
theorem dX10_next_1 : decode cX10_next 1 = .ok (.iconst 0, 1) := by decide +kernel
theorem dX10_next_2 : decode cX10_next 2 = .ok (.ldc 131, 2) := by decide +kernel
theorem dX10_next_4 : decode cX10_next 4 = .ok (.invokestatic 100, 3) := by decide +kernel
theorem dX10_next_7 : decode cX10_next 7 = .ok (.ifCond .ne 5, 3) := by decide +kernel
theorem dX10_next_10 : decode cX10_next 10 = .ok (.iconst (-1), 1) := by decide +kernel
theorem dX10_next_11 : decode cX10_next 11 = .ok (.ireturn, 1) := by decide +kernel
theorem dX10_next_12 : decode cX10_next 12 = .ok (.aload_n 0, 1) := by decide +kernel
theorem dX10_next_13 : decode cX10_next 13 = .ok (.getfield 19, 3) := by decide +kernel
theorem dX10_next_16 : decode cX10_next 16 = .ok (.getfield 117, 3) := by decide +kernel
theorem dX10_next_19 : decode cX10_next 19 = .ok (.aload_n 0, 1) := by decide +kernel
theorem dX10_next_20 : decode cX10_next 20 = .ok (.getfield 19, 3) := by decide +kernel
theorem dX10_next_23 : decode cX10_next 23 = .ok (.getfield 117, 3) := by decide +kernel
theorem dX10_next_26 : decode cX10_next 26 = .ok (.iload_n 1, 1) := by decide +kernel
theorem dX10_next_27 : decode cX10_next 27 = .ok (.invokestatic 138, 3) := by decide +kernel
theorem dX10_next_30 : decode cX10_next 30 = .ok (.invokestatic 142, 3) := by decide +kernel
theorem dX10_next_33 : decode cX10_next 33 = .ok (.ireturn, 1) := by decide +kernel
theorem dX10_rank_0 : decode cX10_rank 0 = .ok (.iload_n 1, 1) := by decide +kernel
theorem dX10_rank_1 : decode cX10_rank 1 = .ok (.iconst 0, 1) := by decide +kernel
theorem dX10_rank_2 : decode cX10_rank 2 = .ok (.ldc 131, 2) := by decide +kernel
theorem dX10_rank_4 : decode cX10_rank 4 = .ok (.invokestatic 100, 3) := by decide +kernel
theorem dX10_rank_7 : decode cX10_rank 7 = .ok (.ifCond .eq 17, 3) := by decide +kernel
theorem dX10_rank_10 : decode cX10_rank 10 = .ok (.aload_n 0, 1) := by decide +kernel
theorem dX10_rank_11 : decode cX10_rank 11 = .ok (.getfield 19, 3) := by decide +kernel
theorem dX10_rank_14 : decode cX10_rank 14 = .ok (.getfield 117, 3) := by decide +kernel
theorem dX10_rank_17 : decode cX10_rank 17 = .ok (.iload_n 1, 1) := by decide +kernel
theorem dX10_rank_18 : decode cX10_rank 18 = .ok (.invokestatic 138, 3) := by decide +kernel
theorem dX10_rank_21 : decode cX10_rank 21 = .ok (.goto 4, 3) := by decide +kernel
theorem dX10_rank_24 : decode cX10_rank 24 = .ok (.iconst (-1), 1) := by decide +kernel
theorem dX10_rank_25 : decode cX10_rank 25 = .ok (.ireturn, 1) := by decide +kernel
theorem dX10_kth_0 : decode cX10_kth 0 = .ok (.iload_n 1, 1) := by decide +kernel
theorem dX10_kth_1 : decode cX10_kth 1 = .ok (.iconst 0, 1) := by decide +kernel
theorem dX10_kth_2 : decode cX10_kth 2 = .ok (.ldc 131, 2) := by decide +kernel
theorem dX10_kth_4 : decode cX10_kth 4 = .ok (.invokestatic 100, 3) := by decide +kernel
theorem dX10_kth_7 : decode cX10_kth 7 = .ok (.ifCond .eq 17, 3) := by decide +kernel
theorem dX10_kth_10 : decode cX10_kth 10 = .ok (.aload_n 0, 1) := by decide +kernel
theorem dX10_kth_11 : decode cX10_kth 11 = .ok (.getfield 19, 3) := by decide +kernel
theorem dX10_kth_14 : decode cX10_kth 14 = .ok (.getfield 117, 3) := by decide +kernel
theorem dX10_kth_17 : decode cX10_kth 17 = .ok (.iload_n 1, 1) := by decide +kernel
theorem dX10_kth_18 : decode cX10_kth 18 = .ok (.invokestatic 142, 3) := by decide +kernel
theorem dX10_kth_21 : decode cX10_kth 21 = .ok (.goto 4, 3) := by decide +kernel
theorem dX10_kth_24 : decode cX10_kth 24 = .ok (.iconst (-1), 1) := by decide +kernel
theorem dX10_kth_25 : decode cX10_kth 25 = .ok (.ireturn, 1) := by decide +kernel
theorem dX10_sum_0 : decode cX10_sum 0 = .ok (.iload_n 1, 1) := by decide +kernel
theorem dX10_sum_1 : decode cX10_sum 1 = .ok (.tableswitch 82 0 2 #[27, 46, 71], 27) := by decide +kernel
theorem dX10_sum_28 : decode cX10_sum 28 = .ok (.aload_n 0, 1) := by decide +kernel
theorem dX10_sum_29 : decode cX10_sum 29 = .ok (.getfield 61, 3) := by decide +kernel
theorem dX10_sum_32 : decode cX10_sum 32 = .ok (.getfield 145, 3) := by decide +kernel
theorem dX10_sum_35 : decode cX10_sum 35 = .ok (.iconst 0, 1) := by decide +kernel
theorem dX10_sum_36 : decode cX10_sum 36 = .ok (.aload_n 0, 1) := by decide +kernel
theorem dX10_sum_37 : decode cX10_sum 37 = .ok (.getfield 19, 3) := by decide +kernel
theorem dX10_sum_40 : decode cX10_sum 40 = .ok (.getfield 107, 3) := by decide +kernel
theorem dX10_sum_43 : decode cX10_sum 43 = .ok (.invokevirtual 149, 3) := by decide +kernel
theorem dX10_sum_46 : decode cX10_sum 46 = .ok (.ireturn, 1) := by decide +kernel
theorem dX10_sum_47 : decode cX10_sum 47 = .ok (.aload_n 0, 1) := by decide +kernel
theorem dX10_sum_48 : decode cX10_sum 48 = .ok (.getfield 61, 3) := by decide +kernel
theorem dX10_sum_51 : decode cX10_sum 51 = .ok (.getfield 145, 3) := by decide +kernel
theorem dX10_sum_54 : decode cX10_sum 54 = .ok (.aload_n 0, 1) := by decide +kernel
theorem dX10_sum_55 : decode cX10_sum 55 = .ok (.getfield 19, 3) := by decide +kernel
theorem dX10_sum_58 : decode cX10_sum 58 = .ok (.getfield 117, 3) := by decide +kernel
theorem dX10_sum_61 : decode cX10_sum 61 = .ok (.aload_n 0, 1) := by decide +kernel
theorem dX10_sum_62 : decode cX10_sum 62 = .ok (.getfield 19, 3) := by decide +kernel
theorem dX10_sum_65 : decode cX10_sum 65 = .ok (.getfield 107, 3) := by decide +kernel
theorem dX10_sum_68 : decode cX10_sum 68 = .ok (.invokevirtual 149, 3) := by decide +kernel
theorem dX10_sum_71 : decode cX10_sum 71 = .ok (.ireturn, 1) := by decide +kernel
theorem dX10_sum_72 : decode cX10_sum 72 = .ok (.aload_n 0, 1) := by decide +kernel
theorem dX10_sum_73 : decode cX10_sum 73 = .ok (.getfield 61, 3) := by decide +kernel
theorem dX10_sum_76 : decode cX10_sum 76 = .ok (.getfield 145, 3) := by decide +kernel
theorem dX10_sum_79 : decode cX10_sum 79 = .ok (.invokevirtual 155, 3) := by decide +kernel
theorem dX10_sum_82 : decode cX10_sum 82 = .ok (.ireturn, 1) := by decide +kernel
theorem dX10_sum_83 : decode cX10_sum 83 = .ok (.iconst (-1), 1) := by decide +kernel
theorem dX10_sum_84 : decode cX10_sum 84 = .ok (.ireturn, 1) := by decide +kernel
theorem dX10_ways_0 : decode cX10_ways 0 = .ok (.iload_n 1, 1) := by decide +kernel
theorem dX10_ways_1 : decode cX10_ways 1 = .ok (.iconst 0, 1) := by decide +kernel
theorem dX10_ways_2 : decode cX10_ways 2 = .ok (.sipush 999, 3) := by decide +kernel
theorem dX10_ways_5 : decode cX10_ways 5 = .ok (.invokestatic 100, 3) := by decide +kernel
theorem dX10_ways_8 : decode cX10_ways 8 = .ok (.ifCond .ne 5, 3) := by decide +kernel
theorem dX10_ways_11 : decode cX10_ways 11 = .ok (.iconst (-1), 1) := by decide +kernel
theorem dX10_ways_12 : decode cX10_ways 12 = .ok (.ireturn, 1) := by decide +kernel
theorem dX10_ways_13 : decode cX10_ways 13 = .ok (.aload_n 0, 1) := by decide +kernel
theorem dX10_ways_14 : decode cX10_ways 14 = .ok (.getfield 47, 3) := by decide +kernel
theorem dX10_ways_17 : decode cX10_ways 17 = .ok (.iload_n 1, 1) := by decide +kernel
theorem dX10_ways_18 : decode cX10_ways 18 = .ok (.aload_n 0, 1) := by decide +kernel
theorem dX10_ways_19 : decode cX10_ways 19 = .ok (.getfield 19, 3) := by decide +kernel
theorem dX10_ways_22 : decode cX10_ways 22 = .ok (.getfield 117, 3) := by decide +kernel
theorem dX10_ways_25 : decode cX10_ways 25 = .ok (.invokevirtual 158, 3) := by decide +kernel
theorem dX10_ways_28 : decode cX10_ways 28 = .ok (.aload_n 0, 1) := by decide +kernel
theorem dX10_ways_29 : decode cX10_ways 29 = .ok (.getfield 47, 3) := by decide +kernel
theorem dX10_ways_32 : decode cX10_ways 32 = .ok (.getfield 161, 3) := by decide +kernel
theorem dX10_ways_35 : decode cX10_ways 35 = .ok (.ireturn, 1) := by decide +kernel
theorem dX10_shortest_0 : decode cX10_shortest 0 = .ok (.iload_n 1, 1) := by decide +kernel
theorem dX10_shortest_1 : decode cX10_shortest 1 = .ok (.iconst 0, 1) := by decide +kernel
theorem dX10_shortest_2 : decode cX10_shortest 2 = .ok (.sipush 999, 3) := by decide +kernel
theorem dX10_shortest_5 : decode cX10_shortest 5 = .ok (.invokestatic 100, 3) := by decide +kernel
theorem dX10_shortest_8 : decode cX10_shortest 8 = .ok (.ifCond .eq 12, 3) := by decide +kernel
theorem dX10_shortest_11 : decode cX10_shortest 11 = .ok (.iload_n 2, 1) := by decide +kernel
theorem dX10_shortest_12 : decode cX10_shortest 12 = .ok (.iconst 0, 1) := by decide +kernel
theorem dX10_shortest_13 : decode cX10_shortest 13 = .ok (.iconst 3, 1) := by decide +kernel
theorem dX10_shortest_14 : decode cX10_shortest 14 = .ok (.invokestatic 100, 3) := by decide +kernel
theorem dX10_shortest_17 : decode cX10_shortest 17 = .ok (.ifCond .ne 5, 3) := by decide +kernel
theorem dX10_shortest_20 : decode cX10_shortest 20 = .ok (.iconst (-1), 1) := by decide +kernel
theorem dX10_shortest_21 : decode cX10_shortest 21 = .ok (.ireturn, 1) := by decide +kernel
theorem dX10_shortest_22 : decode cX10_shortest 22 = .ok (.aload_n 0, 1) := by decide +kernel
theorem dX10_shortest_23 : decode cX10_shortest 23 = .ok (.getfield 47, 3) := by decide +kernel
theorem dX10_shortest_26 : decode cX10_shortest 26 = .ok (.iload_n 1, 1) := by decide +kernel
theorem dX10_shortest_27 : decode cX10_shortest 27 = .ok (.aload_n 0, 1) := by decide +kernel
theorem dX10_shortest_28 : decode cX10_shortest 28 = .ok (.getfield 19, 3) := by decide +kernel
theorem dX10_shortest_31 : decode cX10_shortest 31 = .ok (.getfield 117, 3) := by decide +kernel
theorem dX10_shortest_34 : decode cX10_shortest 34 = .ok (.invokevirtual 158, 3) := by decide +kernel
theorem dX10_shortest_37 : decode cX10_shortest 37 = .ok (.aload_n 0, 1) := by decide +kernel
theorem dX10_shortest_38 : decode cX10_shortest 38 = .ok (.getfield 47, 3) := by decide +kernel
theorem dX10_shortest_41 : decode cX10_shortest 41 = .ok (.getfield 161, 3) := by decide +kernel
theorem dX10_shortest_44 : decode cX10_shortest 44 = .ok (.ifCond .ne 6, 3) := by decide +kernel
theorem dX10_shortest_47 : decode cX10_shortest 47 = .ok (.bipush (-4), 2) := by decide +kernel
theorem dX10_shortest_49 : decode cX10_shortest 49 = .ok (.ireturn, 1) := by decide +kernel
theorem dX10_shortest_50 : decode cX10_shortest 50 = .ok (.iload_n 2, 1) := by decide +kernel
theorem dX10_shortest_51 : decode cX10_shortest 51 = .ok (.tableswitch 49 0 2 #[25, 33, 41], 25) := by decide +kernel
theorem dX10_shortest_76 : decode cX10_shortest 76 = .ok (.aload_n 0, 1) := by decide +kernel
theorem dX10_shortest_77 : decode cX10_shortest 77 = .ok (.getfield 47, 3) := by decide +kernel
theorem dX10_shortest_80 : decode cX10_shortest 80 = .ok (.getfield 164, 3) := by decide +kernel
theorem dX10_shortest_83 : decode cX10_shortest 83 = .ok (.ireturn, 1) := by decide +kernel
theorem dX10_shortest_84 : decode cX10_shortest 84 = .ok (.aload_n 0, 1) := by decide +kernel
theorem dX10_shortest_85 : decode cX10_shortest 85 = .ok (.getfield 47, 3) := by decide +kernel
theorem dX10_shortest_88 : decode cX10_shortest 88 = .ok (.getfield 167, 3) := by decide +kernel
theorem dX10_shortest_91 : decode cX10_shortest 91 = .ok (.ireturn, 1) := by decide +kernel
theorem dX10_shortest_92 : decode cX10_shortest 92 = .ok (.aload_n 0, 1) := by decide +kernel
theorem dX10_shortest_93 : decode cX10_shortest 93 = .ok (.getfield 47, 3) := by decide +kernel
theorem dX10_shortest_96 : decode cX10_shortest 96 = .ok (.getfield 170, 3) := by decide +kernel
theorem dX10_shortest_99 : decode cX10_shortest 99 = .ok (.ireturn, 1) := by decide +kernel
theorem dX10_shortest_100 : decode cX10_shortest 100 = .ok (.aload_n 0, 1) := by decide +kernel
theorem dX10_shortest_101 : decode cX10_shortest 101 = .ok (.getfield 47, 3) := by decide +kernel
theorem dX10_shortest_104 : decode cX10_shortest 104 = .ok (.getfield 173, 3) := by decide +kernel
theorem dX10_shortest_107 : decode cX10_shortest 107 = .ok (.ireturn, 1) := by decide +kernel
theorem dX10_change_0 : decode cX10_change 0 = .ok (.iload_n 1, 1) := by decide +kernel
theorem dX10_change_1 : decode cX10_change 1 = .ok (.iconst 0, 1) := by decide +kernel
theorem dX10_change_2 : decode cX10_change 2 = .ok (.sipush 200, 3) := by decide +kernel
theorem dX10_change_5 : decode cX10_change 5 = .ok (.invokestatic 100, 3) := by decide +kernel
theorem dX10_change_8 : decode cX10_change 8 = .ok (.ifCond .ne 5, 3) := by decide +kernel
theorem dX10_change_11 : decode cX10_change 11 = .ok (.iconst (-1), 1) := by decide +kernel
theorem dX10_change_12 : decode cX10_change 12 = .ok (.ireturn, 1) := by decide +kernel
theorem dX10_change_13 : decode cX10_change 13 = .ok (.aload_n 0, 1) := by decide +kernel
theorem dX10_change_14 : decode cX10_change 14 = .ok (.getfield 54, 3) := by decide +kernel
theorem dX10_change_17 : decode cX10_change 17 = .ok (.aload_n 0, 1) := by decide +kernel
theorem dX10_change_18 : decode cX10_change 18 = .ok (.getfield 61, 3) := by decide +kernel
theorem dX10_change_21 : decode cX10_change 21 = .ok (.aload_n 0, 1) := by decide +kernel
theorem dX10_change_22 : decode cX10_change 22 = .ok (.getfield 19, 3) := by decide +kernel
theorem dX10_change_25 : decode cX10_change 25 = .ok (.getfield 117, 3) := by decide +kernel
theorem dX10_change_28 : decode cX10_change 28 = .ok (.invokevirtual 176, 3) := by decide +kernel
theorem dX10_change_31 : decode cX10_change 31 = .ok (.aload_n 0, 1) := by decide +kernel
theorem dX10_change_32 : decode cX10_change 32 = .ok (.getfield 54, 3) := by decide +kernel
theorem dX10_change_35 : decode cX10_change 35 = .ok (.iload_n 1, 1) := by decide +kernel
theorem dX10_change_36 : decode cX10_change 36 = .ok (.invokevirtual 180, 3) := by decide +kernel
theorem dX10_change_39 : decode cX10_change 39 = .ok (.ifCond .eq 15, 3) := by decide +kernel
theorem dX10_change_42 : decode cX10_change 42 = .ok (.aload_n 0, 1) := by decide +kernel
theorem dX10_change_43 : decode cX10_change 43 = .ok (.getfield 54, 3) := by decide +kernel
theorem dX10_change_46 : decode cX10_change 46 = .ok (.getfield 183, 3) := by decide +kernel
theorem dX10_change_49 : decode cX10_change 49 = .ok (.iload_n 1, 1) := by decide +kernel
theorem dX10_change_50 : decode cX10_change 50 = .ok (.iaload, 1) := by decide +kernel
theorem dX10_change_51 : decode cX10_change 51 = .ok (.goto 5, 3) := by decide +kernel
theorem dX10_change_54 : decode cX10_change 54 = .ok (.bipush (-4), 2) := by decide +kernel
theorem dX10_change_56 : decode cX10_change 56 = .ok (.ireturn, 1) := by decide +kernel
theorem dX10_never_0 : decode cX10_never 0 = .ok (.aload_n 0, 1) := by decide +kernel
theorem dX10_never_1 : decode cX10_never 1 = .ok (.getfield 54, 3) := by decide +kernel
theorem dX10_never_4 : decode cX10_never 4 = .ok (.aload_n 0, 1) := by decide +kernel
theorem dX10_never_5 : decode cX10_never 5 = .ok (.getfield 61, 3) := by decide +kernel
theorem dX10_never_8 : decode cX10_never 8 = .ok (.aload_n 0, 1) := by decide +kernel
theorem dX10_never_9 : decode cX10_never 9 = .ok (.getfield 19, 3) := by decide +kernel
theorem dX10_never_12 : decode cX10_never 12 = .ok (.getfield 117, 3) := by decide +kernel
theorem dX10_never_15 : decode cX10_never 15 = .ok (.invokevirtual 176, 3) := by decide +kernel
theorem dX10_never_18 : decode cX10_never 18 = .ok (.sipush 200, 3) := by decide +kernel
theorem dX10_never_21 : decode cX10_never 21 = .ok (.istore_n 1, 1) := by decide +kernel
theorem dX10_never_22 : decode cX10_never 22 = .ok (.iload_n 1, 1) := by decide +kernel
theorem dX10_never_23 : decode cX10_never 23 = .ok (.iconst 1, 1) := by decide +kernel
theorem dX10_never_24 : decode cX10_never 24 = .ok (.if_icmp .lt 22, 3) := by decide +kernel
theorem dX10_never_27 : decode cX10_never 27 = .ok (.aload_n 0, 1) := by decide +kernel
theorem dX10_never_28 : decode cX10_never 28 = .ok (.getfield 54, 3) := by decide +kernel
theorem dX10_never_31 : decode cX10_never 31 = .ok (.iload_n 1, 1) := by decide +kernel
theorem dX10_never_32 : decode cX10_never 32 = .ok (.invokevirtual 180, 3) := by decide +kernel
theorem dX10_never_35 : decode cX10_never 35 = .ok (.ifCond .ne 5, 3) := by decide +kernel
theorem dX10_never_38 : decode cX10_never 38 = .ok (.iload_n 1, 1) := by decide +kernel
theorem dX10_never_39 : decode cX10_never 39 = .ok (.ireturn, 1) := by decide +kernel
theorem dX10_never_40 : decode cX10_never 40 = .ok (.iinc 1 (-1), 3) := by decide +kernel
theorem dX10_never_43 : decode cX10_never 43 = .ok (.goto (-21), 3) := by decide +kernel
theorem dX10_never_46 : decode cX10_never 46 = .ok (.bipush (-4), 2) := by decide +kernel
theorem dX10_never_48 : decode cX10_never 48 = .ok (.ireturn, 1) := by decide +kernel
theorem dX10_pays_0 : decode cX10_pays 0 = .ok (.iload_n 1, 1) := by decide +kernel
theorem dX10_pays_1 : decode cX10_pays 1 = .ok (.iconst 0, 1) := by decide +kernel
theorem dX10_pays_2 : decode cX10_pays 2 = .ok (.sipush 200, 3) := by decide +kernel
theorem dX10_pays_5 : decode cX10_pays 5 = .ok (.invokestatic 100, 3) := by decide +kernel
theorem dX10_pays_8 : decode cX10_pays 8 = .ok (.ifCond .ne 5, 3) := by decide +kernel
theorem dX10_pays_11 : decode cX10_pays 11 = .ok (.iconst (-1), 1) := by decide +kernel
theorem dX10_pays_12 : decode cX10_pays 12 = .ok (.ireturn, 1) := by decide +kernel
theorem dX10_pays_13 : decode cX10_pays 13 = .ok (.aload_n 0, 1) := by decide +kernel
theorem dX10_pays_14 : decode cX10_pays 14 = .ok (.getfield 54, 3) := by decide +kernel
theorem dX10_pays_17 : decode cX10_pays 17 = .ok (.aload_n 0, 1) := by decide +kernel
theorem dX10_pays_18 : decode cX10_pays 18 = .ok (.getfield 61, 3) := by decide +kernel
theorem dX10_pays_21 : decode cX10_pays 21 = .ok (.aload_n 0, 1) := by decide +kernel
theorem dX10_pays_22 : decode cX10_pays 22 = .ok (.getfield 19, 3) := by decide +kernel
theorem dX10_pays_25 : decode cX10_pays 25 = .ok (.getfield 117, 3) := by decide +kernel
theorem dX10_pays_28 : decode cX10_pays 28 = .ok (.invokevirtual 186, 3) := by decide +kernel
theorem dX10_pays_31 : decode cX10_pays 31 = .ok (.aload_n 0, 1) := by decide +kernel
theorem dX10_pays_32 : decode cX10_pays 32 = .ok (.getfield 54, 3) := by decide +kernel
theorem dX10_pays_35 : decode cX10_pays 35 = .ok (.getfield 183, 3) := by decide +kernel
theorem dX10_pays_38 : decode cX10_pays 38 = .ok (.iload_n 1, 1) := by decide +kernel
theorem dX10_pays_39 : decode cX10_pays 39 = .ok (.iaload, 1) := by decide +kernel
theorem dX10_pays_40 : decode cX10_pays 40 = .ok (.ireturn, 1) := by decide +kernel
theorem dX10_day_0 : decode cX10_day 0 = .ok (.iload_n 1, 1) := by decide +kernel
theorem dX10_day_1 : decode cX10_day 1 = .ok (.iconst 0, 1) := by decide +kernel
theorem dX10_day_2 : decode cX10_day 2 = .ok (.sipush 9999, 3) := by decide +kernel
theorem dX10_day_5 : decode cX10_day 5 = .ok (.invokestatic 100, 3) := by decide +kernel
theorem dX10_day_8 : decode cX10_day 8 = .ok (.ifCond .ne 5, 3) := by decide +kernel
theorem dX10_day_11 : decode cX10_day 11 = .ok (.iconst (-1), 1) := by decide +kernel
theorem dX10_day_12 : decode cX10_day 12 = .ok (.ireturn, 1) := by decide +kernel
theorem dX10_day_13 : decode cX10_day 13 = .ok (.aload_n 0, 1) := by decide +kernel
theorem dX10_day_14 : decode cX10_day 14 = .ok (.invokevirtual 189, 3) := by decide +kernel
theorem dX10_day_17 : decode cX10_day 17 = .ok (.istore_n 2, 1) := by decide +kernel
theorem dX10_day_18 : decode cX10_day 18 = .ok (.iload_n 2, 1) := by decide +kernel
theorem dX10_day_19 : decode cX10_day 19 = .ok (.ifCond .gt 6, 3) := by decide +kernel
theorem dX10_day_22 : decode cX10_day 22 = .ok (.bipush (-4), 2) := by decide +kernel
theorem dX10_day_24 : decode cX10_day 24 = .ok (.ireturn, 1) := by decide +kernel
theorem dX10_day_25 : decode cX10_day 25 = .ok (.iload_n 1, 1) := by decide +kernel
theorem dX10_day_26 : decode cX10_day 26 = .ok (.iload_n 2, 1) := by decide +kernel
theorem dX10_day_27 : decode cX10_day 27 = .ok (.irem, 1) := by decide +kernel
theorem dX10_day_28 : decode cX10_day 28 = .ok (.istore_n 3, 1) := by decide +kernel
theorem dX10_day_29 : decode cX10_day 29 = .ok (.iconst 1, 1) := by decide +kernel
theorem dX10_day_30 : decode cX10_day 30 = .ok (.istore 4, 2) := by decide +kernel
theorem dX10_day_32 : decode cX10_day 32 = .ok (.iload 4, 2) := by decide +kernel
theorem dX10_day_34 : decode cX10_day 34 = .ok (.aload_n 0, 1) := by decide +kernel
theorem dX10_day_35 : decode cX10_day 35 = .ok (.getfield 61, 3) := by decide +kernel
theorem dX10_day_38 : decode cX10_day 38 = .ok (.getfield 192, 3) := by decide +kernel
theorem dX10_day_41 : decode cX10_day 41 = .ok (.if_icmp .gt 31, 3) := by decide +kernel
theorem dX10_day_44 : decode cX10_day 44 = .ok (.aload_n 0, 1) := by decide +kernel
theorem dX10_day_45 : decode cX10_day 45 = .ok (.getfield 19, 3) := by decide +kernel
theorem dX10_day_48 : decode cX10_day 48 = .ok (.iload 4, 2) := by decide +kernel
theorem dX10_day_50 : decode cX10_day 50 = .ok (.invokevirtual 104, 3) := by decide +kernel
theorem dX10_day_53 : decode cX10_day 53 = .ok (.ifCond .ne 13, 3) := by decide +kernel
theorem dX10_day_56 : decode cX10_day 56 = .ok (.iload_n 3, 1) := by decide +kernel
theorem dX10_day_57 : decode cX10_day 57 = .ok (.ifCond .ne 6, 3) := by decide +kernel
theorem dX10_day_60 : decode cX10_day 60 = .ok (.iload 4, 2) := by decide +kernel
theorem dX10_day_62 : decode cX10_day 62 = .ok (.ireturn, 1) := by decide +kernel
theorem dX10_day_63 : decode cX10_day 63 = .ok (.iinc 3 (-1), 3) := by decide +kernel
theorem dX10_day_66 : decode cX10_day 66 = .ok (.iinc 4 1, 3) := by decide +kernel
theorem dX10_day_69 : decode cX10_day 69 = .ok (.goto (-37), 3) := by decide +kernel
theorem dX10_day_72 : decode cX10_day 72 = .ok (.bipush (-4), 2) := by decide +kernel
theorem dX10_day_74 : decode cX10_day 74 = .ok (.ireturn, 1) := by decide +kernel
theorem dX10_agree_0 : decode cX10_agree 0 = .ok (.aload_n 0, 1) := by decide +kernel
theorem dX10_agree_1 : decode cX10_agree 1 = .ok (.invokevirtual 189, 3) := by decide +kernel
theorem dX10_agree_4 : decode cX10_agree 4 = .ok (.istore_n 1, 1) := by decide +kernel
theorem dX10_agree_5 : decode cX10_agree 5 = .ok (.iload_n 1, 1) := by decide +kernel
theorem dX10_agree_6 : decode cX10_agree 6 = .ok (.ifCond .gt 6, 3) := by decide +kernel
theorem dX10_agree_9 : decode cX10_agree 9 = .ok (.bipush (-4), 2) := by decide +kernel
theorem dX10_agree_11 : decode cX10_agree 11 = .ok (.ireturn, 1) := by decide +kernel
theorem dX10_agree_12 : decode cX10_agree 12 = .ok (.iconst 1, 1) := by decide +kernel
theorem dX10_agree_13 : decode cX10_agree 13 = .ok (.istore_n 2, 1) := by decide +kernel
theorem dX10_agree_14 : decode cX10_agree 14 = .ok (.iload_n 2, 1) := by decide +kernel
theorem dX10_agree_15 : decode cX10_agree 15 = .ok (.iload_n 1, 1) := by decide +kernel
theorem dX10_agree_16 : decode cX10_agree 16 = .ok (.if_icmp .gt 33, 3) := by decide +kernel
theorem dX10_agree_19 : decode cX10_agree 19 = .ok (.aload_n 0, 1) := by decide +kernel
theorem dX10_agree_20 : decode cX10_agree 20 = .ok (.getfield 61, 3) := by decide +kernel
theorem dX10_agree_23 : decode cX10_agree 23 = .ok (.getfield 192, 3) := by decide +kernel
theorem dX10_agree_26 : decode cX10_agree 26 = .ok (.iload_n 2, 1) := by decide +kernel
theorem dX10_agree_27 : decode cX10_agree 27 = .ok (.imul, 1) := by decide +kernel
theorem dX10_agree_28 : decode cX10_agree 28 = .ok (.iload_n 1, 1) := by decide +kernel
theorem dX10_agree_29 : decode cX10_agree 29 = .ok (.irem, 1) := by decide +kernel
theorem dX10_agree_30 : decode cX10_agree 30 = .ok (.ifCond .ne 13, 3) := by decide +kernel
theorem dX10_agree_33 : decode cX10_agree 33 = .ok (.aload_n 0, 1) := by decide +kernel
theorem dX10_agree_34 : decode cX10_agree 34 = .ok (.getfield 61, 3) := by decide +kernel
theorem dX10_agree_37 : decode cX10_agree 37 = .ok (.getfield 192, 3) := by decide +kernel
theorem dX10_agree_40 : decode cX10_agree 40 = .ok (.iload_n 2, 1) := by decide +kernel
theorem dX10_agree_41 : decode cX10_agree 41 = .ok (.imul, 1) := by decide +kernel
theorem dX10_agree_42 : decode cX10_agree 42 = .ok (.ireturn, 1) := by decide +kernel
theorem dX10_agree_43 : decode cX10_agree 43 = .ok (.iinc 2 1, 3) := by decide +kernel
theorem dX10_agree_46 : decode cX10_agree 46 = .ok (.goto (-32), 3) := by decide +kernel
theorem dX10_agree_49 : decode cX10_agree 49 = .ok (.bipush (-4), 2) := by decide +kernel
theorem dX10_agree_51 : decode cX10_agree 51 = .ok (.ireturn, 1) := by decide +kernel
theorem dX10_odds_0 : decode cX10_odds 0 = .ok (.iload_n 1, 1) := by decide +kernel
theorem dX10_odds_1 : decode cX10_odds 1 = .ok (.iconst 0, 1) := by decide +kernel
theorem dX10_odds_2 : decode cX10_odds 2 = .ok (.bipush 18, 2) := by decide +kernel
theorem dX10_odds_4 : decode cX10_odds 4 = .ok (.invokestatic 100, 3) := by decide +kernel
theorem dX10_odds_7 : decode cX10_odds 7 = .ok (.ifCond .eq 12, 3) := by decide +kernel
theorem dX10_odds_10 : decode cX10_odds 10 = .ok (.iload_n 2, 1) := by decide +kernel
theorem dX10_odds_11 : decode cX10_odds 11 = .ok (.iconst 0, 1) := by decide +kernel
theorem dX10_odds_12 : decode cX10_odds 12 = .ok (.iconst 1, 1) := by decide +kernel
theorem dX10_odds_13 : decode cX10_odds 13 = .ok (.invokestatic 100, 3) := by decide +kernel
theorem dX10_odds_16 : decode cX10_odds 16 = .ok (.ifCond .ne 5, 3) := by decide +kernel
theorem dX10_odds_19 : decode cX10_odds 19 = .ok (.iconst (-1), 1) := by decide +kernel
theorem dX10_odds_20 : decode cX10_odds 20 = .ok (.ireturn, 1) := by decide +kernel
theorem dX10_odds_21 : decode cX10_odds 21 = .ok (.iconst 0, 1) := by decide +kernel
theorem dX10_odds_22 : decode cX10_odds 22 = .ok (.istore_n 3, 1) := by decide +kernel
theorem dX10_odds_23 : decode cX10_odds 23 = .ok (.iconst 1, 1) := by decide +kernel
theorem dX10_odds_24 : decode cX10_odds 24 = .ok (.istore 4, 2) := by decide +kernel
theorem dX10_odds_26 : decode cX10_odds 26 = .ok (.iload 4, 2) := by decide +kernel
theorem dX10_odds_28 : decode cX10_odds 28 = .ok (.aload_n 0, 1) := by decide +kernel
theorem dX10_odds_29 : decode cX10_odds 29 = .ok (.getfield 61, 3) := by decide +kernel
theorem dX10_odds_32 : decode cX10_odds 32 = .ok (.getfield 195, 3) := by decide +kernel
theorem dX10_odds_35 : decode cX10_odds 35 = .ok (.if_icmp .gt 50, 3) := by decide +kernel
theorem dX10_odds_38 : decode cX10_odds 38 = .ok (.iconst 1, 1) := by decide +kernel
theorem dX10_odds_39 : decode cX10_odds 39 = .ok (.istore 5, 2) := by decide +kernel
theorem dX10_odds_41 : decode cX10_odds 41 = .ok (.iload 5, 2) := by decide +kernel
theorem dX10_odds_43 : decode cX10_odds 43 = .ok (.aload_n 0, 1) := by decide +kernel
theorem dX10_odds_44 : decode cX10_odds 44 = .ok (.getfield 61, 3) := by decide +kernel
theorem dX10_odds_47 : decode cX10_odds 47 = .ok (.getfield 195, 3) := by decide +kernel
theorem dX10_odds_50 : decode cX10_odds 50 = .ok (.if_icmp .gt 29, 3) := by decide +kernel
theorem dX10_odds_53 : decode cX10_odds 53 = .ok (.aload_n 0, 1) := by decide +kernel
theorem dX10_odds_54 : decode cX10_odds 54 = .ok (.iload 4, 2) := by decide +kernel
theorem dX10_odds_56 : decode cX10_odds 56 = .ok (.invokevirtual 198, 3) := by decide +kernel
theorem dX10_odds_59 : decode cX10_odds 59 = .ok (.aload_n 0, 1) := by decide +kernel
theorem dX10_odds_60 : decode cX10_odds 60 = .ok (.iload 5, 2) := by decide +kernel
theorem dX10_odds_62 : decode cX10_odds 62 = .ok (.invokevirtual 198, 3) := by decide +kernel
theorem dX10_odds_65 : decode cX10_odds 65 = .ok (.iadd, 1) := by decide +kernel
theorem dX10_odds_66 : decode cX10_odds 66 = .ok (.iload_n 1, 1) := by decide +kernel
theorem dX10_odds_67 : decode cX10_odds 67 = .ok (.if_icmp .ne 6, 3) := by decide +kernel
theorem dX10_odds_70 : decode cX10_odds 70 = .ok (.iinc 3 1, 3) := by decide +kernel
theorem dX10_odds_73 : decode cX10_odds 73 = .ok (.iinc 5 1, 3) := by decide +kernel
theorem dX10_odds_76 : decode cX10_odds 76 = .ok (.goto (-35), 3) := by decide +kernel
theorem dX10_odds_79 : decode cX10_odds 79 = .ok (.iinc 4 1, 3) := by decide +kernel
theorem dX10_odds_82 : decode cX10_odds 82 = .ok (.goto (-56), 3) := by decide +kernel
theorem dX10_odds_85 : decode cX10_odds 85 = .ok (.iload_n 3, 1) := by decide +kernel
theorem dX10_odds_86 : decode cX10_odds 86 = .ok (.aload_n 0, 1) := by decide +kernel
theorem dX10_odds_87 : decode cX10_odds 87 = .ok (.getfield 61, 3) := by decide +kernel
theorem dX10_odds_90 : decode cX10_odds 90 = .ok (.getfield 195, 3) := by decide +kernel
theorem dX10_odds_93 : decode cX10_odds 93 = .ok (.aload_n 0, 1) := by decide +kernel
theorem dX10_odds_94 : decode cX10_odds 94 = .ok (.getfield 61, 3) := by decide +kernel
theorem dX10_odds_97 : decode cX10_odds 97 = .ok (.getfield 195, 3) := by decide +kernel
theorem dX10_odds_100 : decode cX10_odds 100 = .ok (.imul, 1) := by decide +kernel
theorem dX10_odds_101 : decode cX10_odds 101 = .ok (.iload_n 2, 1) := by decide +kernel
theorem dX10_odds_102 : decode cX10_odds 102 = .ok (.invokestatic 202, 3) := by decide +kernel
theorem dX10_odds_105 : decode cX10_odds 105 = .ok (.ireturn, 1) := by decide +kernel
theorem dX10_mean_0 : decode cX10_mean 0 = .ok (.iload_n 1, 1) := by decide +kernel
theorem dX10_mean_1 : decode cX10_mean 1 = .ok (.iconst 0, 1) := by decide +kernel
theorem dX10_mean_2 : decode cX10_mean 2 = .ok (.iconst 1, 1) := by decide +kernel
theorem dX10_mean_3 : decode cX10_mean 3 = .ok (.invokestatic 100, 3) := by decide +kernel
theorem dX10_mean_6 : decode cX10_mean 6 = .ok (.ifCond .ne 5, 3) := by decide +kernel
theorem dX10_mean_9 : decode cX10_mean 9 = .ok (.iconst (-1), 1) := by decide +kernel
theorem dX10_mean_10 : decode cX10_mean 10 = .ok (.ireturn, 1) := by decide +kernel
theorem dX10_mean_11 : decode cX10_mean 11 = .ok (.iconst 0, 1) := by decide +kernel
theorem dX10_mean_12 : decode cX10_mean 12 = .ok (.istore_n 2, 1) := by decide +kernel
theorem dX10_mean_13 : decode cX10_mean 13 = .ok (.iconst 1, 1) := by decide +kernel
theorem dX10_mean_14 : decode cX10_mean 14 = .ok (.istore_n 3, 1) := by decide +kernel
theorem dX10_mean_15 : decode cX10_mean 15 = .ok (.iload_n 3, 1) := by decide +kernel
theorem dX10_mean_16 : decode cX10_mean 16 = .ok (.aload_n 0, 1) := by decide +kernel
theorem dX10_mean_17 : decode cX10_mean 17 = .ok (.getfield 61, 3) := by decide +kernel
theorem dX10_mean_20 : decode cX10_mean 20 = .ok (.getfield 195, 3) := by decide +kernel
theorem dX10_mean_23 : decode cX10_mean 23 = .ok (.if_icmp .gt 17, 3) := by decide +kernel
theorem dX10_mean_26 : decode cX10_mean 26 = .ok (.iload_n 2, 1) := by decide +kernel
theorem dX10_mean_27 : decode cX10_mean 27 = .ok (.aload_n 0, 1) := by decide +kernel
theorem dX10_mean_28 : decode cX10_mean 28 = .ok (.iload_n 3, 1) := by decide +kernel
theorem dX10_mean_29 : decode cX10_mean 29 = .ok (.invokevirtual 198, 3) := by decide +kernel
theorem dX10_mean_32 : decode cX10_mean 32 = .ok (.iadd, 1) := by decide +kernel
theorem dX10_mean_33 : decode cX10_mean 33 = .ok (.istore_n 2, 1) := by decide +kernel
theorem dX10_mean_34 : decode cX10_mean 34 = .ok (.iinc 3 1, 3) := by decide +kernel
theorem dX10_mean_37 : decode cX10_mean 37 = .ok (.goto (-22), 3) := by decide +kernel
theorem dX10_mean_40 : decode cX10_mean 40 = .ok (.iload_n 2, 1) := by decide +kernel
theorem dX10_mean_41 : decode cX10_mean 41 = .ok (.aload_n 0, 1) := by decide +kernel
theorem dX10_mean_42 : decode cX10_mean 42 = .ok (.getfield 61, 3) := by decide +kernel
theorem dX10_mean_45 : decode cX10_mean 45 = .ok (.getfield 195, 3) := by decide +kernel
theorem dX10_mean_48 : decode cX10_mean 48 = .ok (.iload_n 1, 1) := by decide +kernel
theorem dX10_mean_49 : decode cX10_mean 49 = .ok (.invokestatic 202, 3) := by decide +kernel
theorem dX10_mean_52 : decode cX10_mean 52 = .ok (.ireturn, 1) := by decide +kernel
theorem dX10_dark_0 : decode cX10_dark 0 = .ok (.iload_n 1, 1) := by decide +kernel
theorem dX10_dark_1 : decode cX10_dark 1 = .ok (.iconst 0, 1) := by decide +kernel
theorem dX10_dark_2 : decode cX10_dark 2 = .ok (.sipush 9999, 3) := by decide +kernel
theorem dX10_dark_5 : decode cX10_dark 5 = .ok (.invokestatic 100, 3) := by decide +kernel
theorem dX10_dark_8 : decode cX10_dark 8 = .ok (.ifCond .eq 25, 3) := by decide +kernel
theorem dX10_dark_11 : decode cX10_dark 11 = .ok (.iload_n 2, 1) := by decide +kernel
theorem dX10_dark_12 : decode cX10_dark 12 = .ok (.iconst 0, 1) := by decide +kernel
theorem dX10_dark_13 : decode cX10_dark 13 = .ok (.sipush 9999, 3) := by decide +kernel
theorem dX10_dark_16 : decode cX10_dark 16 = .ok (.invokestatic 100, 3) := by decide +kernel
theorem dX10_dark_19 : decode cX10_dark 19 = .ok (.ifCond .eq 14, 3) := by decide +kernel
theorem dX10_dark_22 : decode cX10_dark 22 = .ok (.iload_n 1, 1) := by decide +kernel
theorem dX10_dark_23 : decode cX10_dark 23 = .ok (.invokestatic 206, 3) := by decide +kernel
theorem dX10_dark_26 : decode cX10_dark 26 = .ok (.iload_n 2, 1) := by decide +kernel
theorem dX10_dark_27 : decode cX10_dark 27 = .ok (.invokestatic 206, 3) := by decide +kernel
theorem dX10_dark_30 : decode cX10_dark 30 = .ok (.if_icmp .eq 5, 3) := by decide +kernel
theorem dX10_dark_33 : decode cX10_dark 33 = .ok (.iconst (-1), 1) := by decide +kernel
theorem dX10_dark_34 : decode cX10_dark 34 = .ok (.ireturn, 1) := by decide +kernel
theorem dX10_dark_35 : decode cX10_dark 35 = .ok (.aload_n 0, 1) := by decide +kernel
theorem dX10_dark_36 : decode cX10_dark 36 = .ok (.getfield 40, 3) := by decide +kernel
theorem dX10_dark_39 : decode cX10_dark 39 = .ok (.iload_n 1, 1) := by decide +kernel
theorem dX10_dark_40 : decode cX10_dark 40 = .ok (.iload_n 2, 1) := by decide +kernel
theorem dX10_dark_41 : decode cX10_dark 41 = .ok (.invokevirtual 209, 3) := by decide +kernel
theorem dX10_dark_44 : decode cX10_dark 44 = .ok (.ifCond .eq 13, 3) := by decide +kernel
theorem dX10_dark_47 : decode cX10_dark 47 = .ok (.aload_n 0, 1) := by decide +kernel
theorem dX10_dark_48 : decode cX10_dark 48 = .ok (.getfield 40, 3) := by decide +kernel
theorem dX10_dark_51 : decode cX10_dark 51 = .ok (.getfield 212, 3) := by decide +kernel
theorem dX10_dark_54 : decode cX10_dark 54 = .ok (.goto 5, 3) := by decide +kernel
theorem dX10_dark_57 : decode cX10_dark 57 = .ok (.bipush (-3), 2) := by decide +kernel
theorem dX10_dark_59 : decode cX10_dark 59 = .ok (.ireturn, 1) := by decide +kernel
theorem dX10_forget_0 : decode cX10_forget 0 = .ok (.aload_n 0, 1) := by decide +kernel
theorem dX10_forget_1 : decode cX10_forget 1 = .ok (.getfield 40, 3) := by decide +kernel
theorem dX10_forget_4 : decode cX10_forget 4 = .ok (.getfield 212, 3) := by decide +kernel
theorem dX10_forget_7 : decode cX10_forget 7 = .ok (.istore_n 1, 1) := by decide +kernel
theorem dX10_forget_8 : decode cX10_forget 8 = .ok (.aload_n 0, 1) := by decide +kernel
theorem dX10_forget_9 : decode cX10_forget 9 = .ok (.getfield 40, 3) := by decide +kernel
theorem dX10_forget_12 : decode cX10_forget 12 = .ok (.iconst 0, 1) := by decide +kernel
theorem dX10_forget_13 : decode cX10_forget 13 = .ok (.putfield 212, 3) := by decide +kernel
theorem dX10_forget_16 : decode cX10_forget 16 = .ok (.iload_n 1, 1) := by decide +kernel
theorem dX10_forget_17 : decode cX10_forget 17 = .ok (.ireturn, 1) := by decide +kernel
theorem dX10_works_0 : decode cX10_works 0 = .ok (.aload_n 0, 1) := by decide +kernel
theorem dX10_works_1 : decode cX10_works 1 = .ok (.getfield 40, 3) := by decide +kernel
theorem dX10_works_4 : decode cX10_works 4 = .ok (.aload_n 0, 1) := by decide +kernel
theorem dX10_works_5 : decode cX10_works 5 = .ok (.getfield 19, 3) := by decide +kernel
theorem dX10_works_8 : decode cX10_works 8 = .ok (.getfield 117, 3) := by decide +kernel
theorem dX10_works_11 : decode cX10_works 11 = .ok (.aload_n 0, 1) := by decide +kernel
theorem dX10_works_12 : decode cX10_works 12 = .ok (.getfield 19, 3) := by decide +kernel
theorem dX10_works_15 : decode cX10_works 15 = .ok (.getfield 107, 3) := by decide +kernel
theorem dX10_works_18 : decode cX10_works 18 = .ok (.invokevirtual 213, 3) := by decide +kernel
theorem dX10_works_21 : decode cX10_works 21 = .ok (.ifCond .eq 9, 3) := by decide +kernel
theorem dX10_works_24 : decode cX10_works 24 = .ok (.sipush 1024, 3) := by decide +kernel
theorem dX10_works_27 : decode cX10_works 27 = .ok (.goto 4, 3) := by decide +kernel
theorem dX10_works_30 : decode cX10_works 30 = .ok (.iconst 0, 1) := by decide +kernel
theorem dX10_works_31 : decode cX10_works 31 = .ok (.istore_n 1, 1) := by decide +kernel
theorem dX10_works_32 : decode cX10_works 32 = .ok (.iconst 0, 1) := by decide +kernel
theorem dX10_works_33 : decode cX10_works 33 = .ok (.istore_n 2, 1) := by decide +kernel
theorem dX10_works_34 : decode cX10_works 34 = .ok (.iload_n 2, 1) := by decide +kernel
theorem dX10_works_35 : decode cX10_works 35 = .ok (.bipush 10, 2) := by decide +kernel
theorem dX10_works_37 : decode cX10_works 37 = .ok (.if_icmp .ge 45, 3) := by decide +kernel
theorem dX10_works_40 : decode cX10_works 40 = .ok (.aload_n 0, 1) := by decide +kernel
theorem dX10_works_41 : decode cX10_works 41 = .ok (.getfield 40, 3) := by decide +kernel
theorem dX10_works_44 : decode cX10_works 44 = .ok (.aload_n 0, 1) := by decide +kernel
theorem dX10_works_45 : decode cX10_works 45 = .ok (.getfield 19, 3) := by decide +kernel
theorem dX10_works_48 : decode cX10_works 48 = .ok (.getfield 117, 3) := by decide +kernel
theorem dX10_works_51 : decode cX10_works 51 = .ok (.iconst 1, 1) := by decide +kernel
theorem dX10_works_52 : decode cX10_works 52 = .ok (.iload_n 2, 1) := by decide +kernel
theorem dX10_works_53 : decode cX10_works 53 = .ok (.ishl, 1) := by decide +kernel
theorem dX10_works_54 : decode cX10_works 54 = .ok (.iconst (-1), 1) := by decide +kernel
theorem dX10_works_55 : decode cX10_works 55 = .ok (.ixor, 1) := by decide +kernel
theorem dX10_works_56 : decode cX10_works 56 = .ok (.iand, 1) := by decide +kernel
theorem dX10_works_57 : decode cX10_works 57 = .ok (.aload_n 0, 1) := by decide +kernel
theorem dX10_works_58 : decode cX10_works 58 = .ok (.getfield 19, 3) := by decide +kernel
theorem dX10_works_61 : decode cX10_works 61 = .ok (.getfield 107, 3) := by decide +kernel
theorem dX10_works_64 : decode cX10_works 64 = .ok (.invokevirtual 213, 3) := by decide +kernel
theorem dX10_works_67 : decode cX10_works 67 = .ok (.ifCond .eq 9, 3) := by decide +kernel
theorem dX10_works_70 : decode cX10_works 70 = .ok (.iload_n 1, 1) := by decide +kernel
theorem dX10_works_71 : decode cX10_works 71 = .ok (.iconst 1, 1) := by decide +kernel
theorem dX10_works_72 : decode cX10_works 72 = .ok (.iload_n 2, 1) := by decide +kernel
theorem dX10_works_73 : decode cX10_works 73 = .ok (.ishl, 1) := by decide +kernel
theorem dX10_works_74 : decode cX10_works 74 = .ok (.ior, 1) := by decide +kernel
theorem dX10_works_75 : decode cX10_works 75 = .ok (.istore_n 1, 1) := by decide +kernel
theorem dX10_works_76 : decode cX10_works 76 = .ok (.iinc 2 1, 3) := by decide +kernel
theorem dX10_works_79 : decode cX10_works 79 = .ok (.goto (-45), 3) := by decide +kernel
theorem dX10_works_82 : decode cX10_works 82 = .ok (.iload_n 1, 1) := by decide +kernel
theorem dX10_works_83 : decode cX10_works 83 = .ok (.ireturn, 1) := by decide +kernel
theorem dX10_costs_0 : decode cX10_costs 0 = .ok (.iload_n 1, 1) := by decide +kernel
theorem dX10_costs_1 : decode cX10_costs 1 = .ok (.invokestatic 97, 3) := by decide +kernel
theorem dX10_costs_4 : decode cX10_costs 4 = .ok (.ifCond .eq 14, 3) := by decide +kernel
theorem dX10_costs_7 : decode cX10_costs 7 = .ok (.iload_n 2, 1) := by decide +kernel
theorem dX10_costs_8 : decode cX10_costs 8 = .ok (.iconst 0, 1) := by decide +kernel
theorem dX10_costs_9 : decode cX10_costs 9 = .ok (.sipush 9999, 3) := by decide +kernel
theorem dX10_costs_12 : decode cX10_costs 12 = .ok (.invokestatic 100, 3) := by decide +kernel
theorem dX10_costs_15 : decode cX10_costs 15 = .ok (.ifCond .ne 5, 3) := by decide +kernel
theorem dX10_costs_18 : decode cX10_costs 18 = .ok (.iconst (-1), 1) := by decide +kernel
theorem dX10_costs_19 : decode cX10_costs 19 = .ok (.ireturn, 1) := by decide +kernel
theorem dX10_costs_20 : decode cX10_costs 20 = .ok (.aload_n 0, 1) := by decide +kernel
theorem dX10_costs_21 : decode cX10_costs 21 = .ok (.iload_n 1, 1) := by decide +kernel
theorem dX10_costs_22 : decode cX10_costs 22 = .ok (.iload_n 2, 1) := by decide +kernel
theorem dX10_costs_23 : decode cX10_costs 23 = .ok (.invokevirtual 217, 3) := by decide +kernel
theorem dX10_costs_26 : decode cX10_costs 26 = .ok (.ireturn, 1) := by decide +kernel
theorem dX10_dearest_0 : decode cX10_dearest 0 = .ok (.iload_n 1, 1) := by decide +kernel
theorem dX10_dearest_1 : decode cX10_dearest 1 = .ok (.iconst 0, 1) := by decide +kernel
theorem dX10_dearest_2 : decode cX10_dearest 2 = .ok (.sipush 9999, 3) := by decide +kernel
theorem dX10_dearest_5 : decode cX10_dearest 5 = .ok (.invokestatic 100, 3) := by decide +kernel
theorem dX10_dearest_8 : decode cX10_dearest 8 = .ok (.ifCond .eq 12, 3) := by decide +kernel
theorem dX10_dearest_11 : decode cX10_dearest 11 = .ok (.iload_n 2, 1) := by decide +kernel
theorem dX10_dearest_12 : decode cX10_dearest 12 = .ok (.iconst 0, 1) := by decide +kernel
theorem dX10_dearest_13 : decode cX10_dearest 13 = .ok (.iconst 1, 1) := by decide +kernel
theorem dX10_dearest_14 : decode cX10_dearest 14 = .ok (.invokestatic 100, 3) := by decide +kernel
theorem dX10_dearest_17 : decode cX10_dearest 17 = .ok (.ifCond .ne 5, 3) := by decide +kernel
theorem dX10_dearest_20 : decode cX10_dearest 20 = .ok (.iconst (-1), 1) := by decide +kernel
theorem dX10_dearest_21 : decode cX10_dearest 21 = .ok (.ireturn, 1) := by decide +kernel
theorem dX10_dearest_22 : decode cX10_dearest 22 = .ok (.iconst 0, 1) := by decide +kernel
theorem dX10_dearest_23 : decode cX10_dearest 23 = .ok (.istore_n 3, 1) := by decide +kernel
theorem dX10_dearest_24 : decode cX10_dearest 24 = .ok (.aload_n 0, 1) := by decide +kernel
theorem dX10_dearest_25 : decode cX10_dearest 25 = .ok (.iconst 0, 1) := by decide +kernel
theorem dX10_dearest_26 : decode cX10_dearest 26 = .ok (.iload_n 1, 1) := by decide +kernel
theorem dX10_dearest_27 : decode cX10_dearest 27 = .ok (.invokevirtual 217, 3) := by decide +kernel
theorem dX10_dearest_30 : decode cX10_dearest 30 = .ok (.istore 4, 2) := by decide +kernel
theorem dX10_dearest_32 : decode cX10_dearest 32 = .ok (.iconst 1, 1) := by decide +kernel
theorem dX10_dearest_33 : decode cX10_dearest 33 = .ok (.istore 5, 2) := by decide +kernel
theorem dX10_dearest_35 : decode cX10_dearest 35 = .ok (.iload 5, 2) := by decide +kernel
theorem dX10_dearest_37 : decode cX10_dearest 37 = .ok (.bipush 10, 2) := by decide +kernel
theorem dX10_dearest_39 : decode cX10_dearest 39 = .ok (.if_icmp .ge 32, 3) := by decide +kernel
theorem dX10_dearest_42 : decode cX10_dearest 42 = .ok (.aload_n 0, 1) := by decide +kernel
theorem dX10_dearest_43 : decode cX10_dearest 43 = .ok (.iload 5, 2) := by decide +kernel
theorem dX10_dearest_45 : decode cX10_dearest 45 = .ok (.iload_n 1, 1) := by decide +kernel
theorem dX10_dearest_46 : decode cX10_dearest 46 = .ok (.invokevirtual 217, 3) := by decide +kernel
theorem dX10_dearest_49 : decode cX10_dearest 49 = .ok (.istore 6, 2) := by decide +kernel
theorem dX10_dearest_51 : decode cX10_dearest 51 = .ok (.iload 6, 2) := by decide +kernel
theorem dX10_dearest_53 : decode cX10_dearest 53 = .ok (.iload 4, 2) := by decide +kernel
theorem dX10_dearest_55 : decode cX10_dearest 55 = .ok (.if_icmp .le 10, 3) := by decide +kernel
theorem dX10_dearest_58 : decode cX10_dearest 58 = .ok (.iload 5, 2) := by decide +kernel
theorem dX10_dearest_60 : decode cX10_dearest 60 = .ok (.istore_n 3, 1) := by decide +kernel
theorem dX10_dearest_61 : decode cX10_dearest 61 = .ok (.iload 6, 2) := by decide +kernel
theorem dX10_dearest_63 : decode cX10_dearest 63 = .ok (.istore 4, 2) := by decide +kernel
theorem dX10_dearest_65 : decode cX10_dearest 65 = .ok (.iinc 5 1, 3) := by decide +kernel
theorem dX10_dearest_68 : decode cX10_dearest 68 = .ok (.goto (-33), 3) := by decide +kernel
theorem dX10_dearest_71 : decode cX10_dearest 71 = .ok (.iload_n 2, 1) := by decide +kernel
theorem dX10_dearest_72 : decode cX10_dearest 72 = .ok (.ifCond .ne 7, 3) := by decide +kernel
theorem dX10_dearest_75 : decode cX10_dearest 75 = .ok (.iload_n 3, 1) := by decide +kernel
theorem dX10_dearest_76 : decode cX10_dearest 76 = .ok (.goto 5, 3) := by decide +kernel
theorem dX10_dearest_79 : decode cX10_dearest 79 = .ok (.iload 4, 2) := by decide +kernel
theorem dX10_dearest_81 : decode cX10_dearest 81 = .ok (.ireturn, 1) := by decide +kernel
theorem dX10_bargain_0 : decode cX10_bargain 0 = .ok (.iload_n 1, 1) := by decide +kernel
theorem dX10_bargain_1 : decode cX10_bargain 1 = .ok (.invokestatic 97, 3) := by decide +kernel
theorem dX10_bargain_4 : decode cX10_bargain 4 = .ok (.ifCond .eq 26, 3) := by decide +kernel
theorem dX10_bargain_7 : decode cX10_bargain 7 = .ok (.iload_n 2, 1) := by decide +kernel
theorem dX10_bargain_8 : decode cX10_bargain 8 = .ok (.invokestatic 97, 3) := by decide +kernel
theorem dX10_bargain_11 : decode cX10_bargain 11 = .ok (.ifCond .eq 19, 3) := by decide +kernel
theorem dX10_bargain_14 : decode cX10_bargain 14 = .ok (.iload_n 1, 1) := by decide +kernel
theorem dX10_bargain_15 : decode cX10_bargain 15 = .ok (.iload_n 2, 1) := by decide +kernel
theorem dX10_bargain_16 : decode cX10_bargain 16 = .ok (.if_icmp .eq 14, 3) := by decide +kernel
theorem dX10_bargain_19 : decode cX10_bargain 19 = .ok (.iload_n 3, 1) := by decide +kernel
theorem dX10_bargain_20 : decode cX10_bargain 20 = .ok (.iconst 0, 1) := by decide +kernel
theorem dX10_bargain_21 : decode cX10_bargain 21 = .ok (.sipush 9999, 3) := by decide +kernel
theorem dX10_bargain_24 : decode cX10_bargain 24 = .ok (.invokestatic 100, 3) := by decide +kernel
theorem dX10_bargain_27 : decode cX10_bargain 27 = .ok (.ifCond .ne 5, 3) := by decide +kernel
theorem dX10_bargain_30 : decode cX10_bargain 30 = .ok (.iconst (-1), 1) := by decide +kernel
theorem dX10_bargain_31 : decode cX10_bargain 31 = .ok (.ireturn, 1) := by decide +kernel
theorem dX10_bargain_32 : decode cX10_bargain 32 = .ok (.aload_n 0, 1) := by decide +kernel
theorem dX10_bargain_33 : decode cX10_bargain 33 = .ok (.getfield 19, 3) := by decide +kernel
theorem dX10_bargain_36 : decode cX10_bargain 36 = .ok (.getfield 117, 3) := by decide +kernel
theorem dX10_bargain_39 : decode cX10_bargain 39 = .ok (.iconst 1, 1) := by decide +kernel
theorem dX10_bargain_40 : decode cX10_bargain 40 = .ok (.iload_n 1, 1) := by decide +kernel
theorem dX10_bargain_41 : decode cX10_bargain 41 = .ok (.ishl, 1) := by decide +kernel
theorem dX10_bargain_42 : decode cX10_bargain 42 = .ok (.iconst (-1), 1) := by decide +kernel
theorem dX10_bargain_43 : decode cX10_bargain 43 = .ok (.ixor, 1) := by decide +kernel
theorem dX10_bargain_44 : decode cX10_bargain 44 = .ok (.iand, 1) := by decide +kernel
theorem dX10_bargain_45 : decode cX10_bargain 45 = .ok (.iconst 1, 1) := by decide +kernel
theorem dX10_bargain_46 : decode cX10_bargain 46 = .ok (.iload_n 2, 1) := by decide +kernel
theorem dX10_bargain_47 : decode cX10_bargain 47 = .ok (.ishl, 1) := by decide +kernel
theorem dX10_bargain_48 : decode cX10_bargain 48 = .ok (.iconst (-1), 1) := by decide +kernel
theorem dX10_bargain_49 : decode cX10_bargain 49 = .ok (.ixor, 1) := by decide +kernel
theorem dX10_bargain_50 : decode cX10_bargain 50 = .ok (.iand, 1) := by decide +kernel
theorem dX10_bargain_51 : decode cX10_bargain 51 = .ok (.istore 4, 2) := by decide +kernel
theorem dX10_bargain_53 : decode cX10_bargain 53 = .ok (.iload 4, 2) := by decide +kernel
theorem dX10_bargain_55 : decode cX10_bargain 55 = .ok (.iconst 1, 1) := by decide +kernel
theorem dX10_bargain_56 : decode cX10_bargain 56 = .ok (.iload_n 1, 1) := by decide +kernel
theorem dX10_bargain_57 : decode cX10_bargain 57 = .ok (.ishl, 1) := by decide +kernel
theorem dX10_bargain_58 : decode cX10_bargain 58 = .ok (.ior, 1) := by decide +kernel
theorem dX10_bargain_59 : decode cX10_bargain 59 = .ok (.iload_n 3, 1) := by decide +kernel
theorem dX10_bargain_60 : decode cX10_bargain 60 = .ok (.invokestatic 138, 3) := by decide +kernel
theorem dX10_bargain_63 : decode cX10_bargain 63 = .ok (.istore 5, 2) := by decide +kernel
theorem dX10_bargain_65 : decode cX10_bargain 65 = .ok (.iload 4, 2) := by decide +kernel
theorem dX10_bargain_67 : decode cX10_bargain 67 = .ok (.iconst 1, 1) := by decide +kernel
theorem dX10_bargain_68 : decode cX10_bargain 68 = .ok (.iload_n 2, 1) := by decide +kernel
theorem dX10_bargain_69 : decode cX10_bargain 69 = .ok (.ishl, 1) := by decide +kernel
theorem dX10_bargain_70 : decode cX10_bargain 70 = .ok (.ior, 1) := by decide +kernel
theorem dX10_bargain_71 : decode cX10_bargain 71 = .ok (.iload_n 3, 1) := by decide +kernel
theorem dX10_bargain_72 : decode cX10_bargain 72 = .ok (.invokestatic 138, 3) := by decide +kernel
theorem dX10_bargain_75 : decode cX10_bargain 75 = .ok (.istore 6, 2) := by decide +kernel
theorem dX10_bargain_77 : decode cX10_bargain 77 = .ok (.iload 6, 2) := by decide +kernel
theorem dX10_bargain_79 : decode cX10_bargain 79 = .ok (.iload 5, 2) := by decide +kernel
theorem dX10_bargain_81 : decode cX10_bargain 81 = .ok (.isub, 1) := by decide +kernel
theorem dX10_bargain_82 : decode cX10_bargain 82 = .ok (.sipush 10000, 3) := by decide +kernel
theorem dX10_bargain_85 : decode cX10_bargain 85 = .ok (.iadd, 1) := by decide +kernel
theorem dX10_bargain_86 : decode cX10_bargain 86 = .ok (.ireturn, 1) := by decide +kernel
theorem dX10_days_0 : decode cX10_days 0 = .ok (.iload_n 1, 1) := by decide +kernel
theorem dX10_days_1 : decode cX10_days 1 = .ok (.iconst 0, 1) := by decide +kernel
theorem dX10_days_2 : decode cX10_days 2 = .ok (.sipush 9999, 3) := by decide +kernel
theorem dX10_days_5 : decode cX10_days 5 = .ok (.invokestatic 100, 3) := by decide +kernel
theorem dX10_days_8 : decode cX10_days 8 = .ok (.ifCond .eq 22, 3) := by decide +kernel
theorem dX10_days_11 : decode cX10_days 11 = .ok (.iload_n 2, 1) := by decide +kernel
theorem dX10_days_12 : decode cX10_days 12 = .ok (.iconst 1, 1) := by decide +kernel
theorem dX10_days_13 : decode cX10_days 13 = .ok (.bipush 50, 2) := by decide +kernel
theorem dX10_days_15 : decode cX10_days 15 = .ok (.invokestatic 100, 3) := by decide +kernel
theorem dX10_days_18 : decode cX10_days 18 = .ok (.ifCond .eq 12, 3) := by decide +kernel
theorem dX10_days_21 : decode cX10_days 21 = .ok (.iload_n 3, 1) := by decide +kernel
theorem dX10_days_22 : decode cX10_days 22 = .ok (.iconst 0, 1) := by decide +kernel
theorem dX10_days_23 : decode cX10_days 23 = .ok (.iconst 1, 1) := by decide +kernel
theorem dX10_days_24 : decode cX10_days 24 = .ok (.invokestatic 100, 3) := by decide +kernel
theorem dX10_days_27 : decode cX10_days 27 = .ok (.ifCond .ne 5, 3) := by decide +kernel
theorem dX10_days_30 : decode cX10_days 30 = .ok (.iconst (-1), 1) := by decide +kernel
theorem dX10_days_31 : decode cX10_days 31 = .ok (.ireturn, 1) := by decide +kernel
theorem dX10_days_32 : decode cX10_days 32 = .ok (.aload_n 0, 1) := by decide +kernel
theorem dX10_days_33 : decode cX10_days 33 = .ok (.getfield 19, 3) := by decide +kernel
theorem dX10_days_36 : decode cX10_days 36 = .ok (.getfield 117, 3) := by decide +kernel
theorem dX10_days_39 : decode cX10_days 39 = .ok (.istore 4, 2) := by decide +kernel
theorem dX10_days_41 : decode cX10_days 41 = .ok (.iconst 0, 1) := by decide +kernel
theorem dX10_days_42 : decode cX10_days 42 = .ok (.istore 5, 2) := by decide +kernel
theorem dX10_days_44 : decode cX10_days 44 = .ok (.iconst 0, 1) := by decide +kernel
theorem dX10_days_45 : decode cX10_days 45 = .ok (.istore 6, 2) := by decide +kernel
theorem dX10_days_47 : decode cX10_days 47 = .ok (.iload 6, 2) := by decide +kernel
theorem dX10_days_49 : decode cX10_days 49 = .ok (.iload_n 2, 1) := by decide +kernel
theorem dX10_days_50 : decode cX10_days 50 = .ok (.if_icmp .ge 34, 3) := by decide +kernel
theorem dX10_days_53 : decode cX10_days 53 = .ok (.iload 4, 2) := by decide +kernel
theorem dX10_days_55 : decode cX10_days 55 = .ok (.iconst 1, 1) := by decide +kernel
theorem dX10_days_56 : decode cX10_days 56 = .ok (.iload_n 1, 1) := by decide +kernel
theorem dX10_days_57 : decode cX10_days 57 = .ok (.iload 6, 2) := by decide +kernel
theorem dX10_days_59 : decode cX10_days 59 = .ok (.invokestatic 220, 3) := by decide +kernel
theorem dX10_days_62 : decode cX10_days 62 = .ok (.ishl, 1) := by decide +kernel
theorem dX10_days_63 : decode cX10_days 63 = .ok (.ixor, 1) := by decide +kernel
theorem dX10_days_64 : decode cX10_days 64 = .ok (.istore 4, 2) := by decide +kernel
theorem dX10_days_66 : decode cX10_days 66 = .ok (.iload 5, 2) := by decide +kernel
theorem dX10_days_68 : decode cX10_days 68 = .ok (.iload 4, 2) := by decide +kernel
theorem dX10_days_70 : decode cX10_days 70 = .ok (.bipush 7, 2) := by decide +kernel
theorem dX10_days_72 : decode cX10_days 72 = .ok (.ishr, 1) := by decide +kernel
theorem dX10_days_73 : decode cX10_days 73 = .ok (.iconst 1, 1) := by decide +kernel
theorem dX10_days_74 : decode cX10_days 74 = .ok (.iand, 1) := by decide +kernel
theorem dX10_days_75 : decode cX10_days 75 = .ok (.iadd, 1) := by decide +kernel
theorem dX10_days_76 : decode cX10_days 76 = .ok (.istore 5, 2) := by decide +kernel
theorem dX10_days_78 : decode cX10_days 78 = .ok (.iinc 6 1, 3) := by decide +kernel
theorem dX10_days_81 : decode cX10_days 81 = .ok (.goto (-34), 3) := by decide +kernel
theorem dX10_days_84 : decode cX10_days 84 = .ok (.iload_n 3, 1) := by decide +kernel
theorem dX10_days_85 : decode cX10_days 85 = .ok (.ifCond .ne 14, 3) := by decide +kernel
theorem dX10_days_88 : decode cX10_days 88 = .ok (.iload 4, 2) := by decide +kernel
theorem dX10_days_90 : decode cX10_days 90 = .ok (.sipush 999, 3) := by decide +kernel
theorem dX10_days_93 : decode cX10_days 93 = .ok (.invokestatic 138, 3) := by decide +kernel
theorem dX10_days_96 : decode cX10_days 96 = .ok (.goto 5, 3) := by decide +kernel
theorem dX10_days_99 : decode cX10_days 99 = .ok (.iload 5, 2) := by decide +kernel
theorem dX10_days_101 : decode cX10_days 101 = .ok (.ireturn, 1) := by decide +kernel
theorem dX10_keep_0 : decode cX10_keep 0 = .ok (.aload_n 0, 1) := by decide +kernel
theorem dX10_keep_1 : decode cX10_keep 1 = .ok (.getfield 33, 3) := by decide +kernel
theorem dX10_keep_4 : decode cX10_keep 4 = .ok (.aload_n 0, 1) := by decide +kernel
theorem dX10_keep_5 : decode cX10_keep 5 = .ok (.getfield 19, 3) := by decide +kernel
theorem dX10_keep_8 : decode cX10_keep 8 = .ok (.invokevirtual 223, 3) := by decide +kernel
theorem dX10_keep_11 : decode cX10_keep 11 = .ok (.ifCond .eq 13, 3) := by decide +kernel
theorem dX10_keep_14 : decode cX10_keep 14 = .ok (.aload_n 0, 1) := by decide +kernel
theorem dX10_keep_15 : decode cX10_keep 15 = .ok (.getfield 33, 3) := by decide +kernel
theorem dX10_keep_18 : decode cX10_keep 18 = .ok (.getfield 226, 3) := by decide +kernel
theorem dX10_keep_21 : decode cX10_keep 21 = .ok (.goto 5, 3) := by decide +kernel
theorem dX10_keep_24 : decode cX10_keep 24 = .ok (.bipush (-3), 2) := by decide +kernel
theorem dX10_keep_26 : decode cX10_keep 26 = .ok (.ireturn, 1) := by decide +kernel
theorem dX10_back_0 : decode cX10_back 0 = .ok (.aload_n 0, 1) := by decide +kernel
theorem dX10_back_1 : decode cX10_back 1 = .ok (.getfield 33, 3) := by decide +kernel
theorem dX10_back_4 : decode cX10_back 4 = .ok (.aload_n 0, 1) := by decide +kernel
theorem dX10_back_5 : decode cX10_back 5 = .ok (.getfield 19, 3) := by decide +kernel
theorem dX10_back_8 : decode cX10_back 8 = .ok (.invokevirtual 227, 3) := by decide +kernel
theorem dX10_back_11 : decode cX10_back 11 = .ok (.ifCond .ne 6, 3) := by decide +kernel
theorem dX10_back_14 : decode cX10_back 14 = .ok (.bipush (-2), 2) := by decide +kernel
theorem dX10_back_16 : decode cX10_back 16 = .ok (.ireturn, 1) := by decide +kernel
theorem dX10_back_17 : decode cX10_back 17 = .ok (.aload_n 0, 1) := by decide +kernel
theorem dX10_back_18 : decode cX10_back 18 = .ok (.getfield 26, 3) := by decide +kernel
theorem dX10_back_21 : decode cX10_back 21 = .ok (.iconst 0, 1) := by decide +kernel
theorem dX10_back_22 : decode cX10_back 22 = .ok (.putfield 128, 3) := by decide +kernel
theorem dX10_back_25 : decode cX10_back 25 = .ok (.aload_n 0, 1) := by decide +kernel
theorem dX10_back_26 : decode cX10_back 26 = .ok (.getfield 33, 3) := by decide +kernel
theorem dX10_back_29 : decode cX10_back 29 = .ok (.getfield 226, 3) := by decide +kernel
theorem dX10_back_32 : decode cX10_back 32 = .ok (.ireturn, 1) := by decide +kernel
theorem dX10_count_0 : decode cX10_count 0 = .ok (.iload_n 1, 1) := by decide +kernel
theorem dX10_count_1 : decode cX10_count 1 = .ok (.tableswitch 111 0 7 #[47, 55, 63, 71, 79, 87, 95, 103], 47) := by decide +kernel
theorem dX10_count_48 : decode cX10_count 48 = .ok (.aload_n 0, 1) := by decide +kernel
theorem dX10_count_49 : decode cX10_count 49 = .ok (.getfield 19, 3) := by decide +kernel
theorem dX10_count_52 : decode cX10_count 52 = .ok (.invokevirtual 93, 3) := by decide +kernel
theorem dX10_count_55 : decode cX10_count 55 = .ok (.ireturn, 1) := by decide +kernel
theorem dX10_count_56 : decode cX10_count 56 = .ok (.aload_n 0, 1) := by decide +kernel
theorem dX10_count_57 : decode cX10_count 57 = .ok (.getfield 61, 3) := by decide +kernel
theorem dX10_count_60 : decode cX10_count 60 = .ok (.getfield 111, 3) := by decide +kernel
theorem dX10_count_63 : decode cX10_count 63 = .ok (.ireturn, 1) := by decide +kernel
theorem dX10_count_64 : decode cX10_count 64 = .ok (.aload_n 0, 1) := by decide +kernel
theorem dX10_count_65 : decode cX10_count 65 = .ok (.getfield 61, 3) := by decide +kernel
theorem dX10_count_68 : decode cX10_count 68 = .ok (.getfield 195, 3) := by decide +kernel
theorem dX10_count_71 : decode cX10_count 71 = .ok (.ireturn, 1) := by decide +kernel
theorem dX10_count_72 : decode cX10_count 72 = .ok (.aload_n 0, 1) := by decide +kernel
theorem dX10_count_73 : decode cX10_count 73 = .ok (.getfield 61, 3) := by decide +kernel
theorem dX10_count_76 : decode cX10_count 76 = .ok (.getfield 192, 3) := by decide +kernel
theorem dX10_count_79 : decode cX10_count 79 = .ok (.ireturn, 1) := by decide +kernel
theorem dX10_count_80 : decode cX10_count 80 = .ok (.aload_n 0, 1) := by decide +kernel
theorem dX10_count_81 : decode cX10_count 81 = .ok (.getfield 40, 3) := by decide +kernel
theorem dX10_count_84 : decode cX10_count 84 = .ok (.getfield 212, 3) := by decide +kernel
theorem dX10_count_87 : decode cX10_count 87 = .ok (.ireturn, 1) := by decide +kernel
theorem dX10_count_88 : decode cX10_count 88 = .ok (.aload_n 0, 1) := by decide +kernel
theorem dX10_count_89 : decode cX10_count 89 = .ok (.getfield 26, 3) := by decide +kernel
theorem dX10_count_92 : decode cX10_count 92 = .ok (.getfield 128, 3) := by decide +kernel
theorem dX10_count_95 : decode cX10_count 95 = .ok (.ireturn, 1) := by decide +kernel
theorem dX10_count_96 : decode cX10_count 96 = .ok (.aload_n 0, 1) := by decide +kernel
theorem dX10_count_97 : decode cX10_count 97 = .ok (.getfield 33, 3) := by decide +kernel
theorem dX10_count_100 : decode cX10_count 100 = .ok (.getfield 226, 3) := by decide +kernel
theorem dX10_count_103 : decode cX10_count 103 = .ok (.ireturn, 1) := by decide +kernel
theorem dX10_count_104 : decode cX10_count 104 = .ok (.aload_n 0, 1) := by decide +kernel
theorem dX10_count_105 : decode cX10_count 105 = .ok (.getfield 10, 3) := by decide +kernel
theorem dX10_count_108 : decode cX10_count 108 = .ok (.getfield 85, 3) := by decide +kernel
theorem dX10_count_111 : decode cX10_count 111 = .ok (.ireturn, 1) := by decide +kernel
theorem dX10_count_112 : decode cX10_count 112 = .ok (.iconst (-1), 1) := by decide +kernel
theorem dX10_count_113 : decode cX10_count 113 = .ok (.ireturn, 1) := by decide +kernel
theorem dX10_isWithin_0 : decode cX10_isWithin 0 = .ok (.iload_n 0, 1) := by decide +kernel
theorem dX10_isWithin_1 : decode cX10_isWithin 1 = .ok (.iload_n 1, 1) := by decide +kernel
theorem dX10_isWithin_2 : decode cX10_isWithin 2 = .ok (.if_icmp .lt 12, 3) := by decide +kernel
theorem dX10_isWithin_5 : decode cX10_isWithin 5 = .ok (.iload_n 0, 1) := by decide +kernel
theorem dX10_isWithin_6 : decode cX10_isWithin 6 = .ok (.iload_n 2, 1) := by decide +kernel
theorem dX10_isWithin_7 : decode cX10_isWithin 7 = .ok (.if_icmp .gt 7, 3) := by decide +kernel
theorem dX10_isWithin_10 : decode cX10_isWithin 10 = .ok (.iconst 1, 1) := by decide +kernel
theorem dX10_isWithin_11 : decode cX10_isWithin 11 = .ok (.goto 4, 3) := by decide +kernel
theorem dX10_isWithin_14 : decode cX10_isWithin 14 = .ok (.iconst 0, 1) := by decide +kernel
theorem dX10_isWithin_15 : decode cX10_isWithin 15 = .ok (.ireturn, 1) := by decide +kernel
theorem dX10_isFigure_0 : decode cX10_isFigure 0 = .ok (.iload_n 0, 1) := by decide +kernel
theorem dX10_isFigure_1 : decode cX10_isFigure 1 = .ok (.iconst 0, 1) := by decide +kernel
theorem dX10_isFigure_2 : decode cX10_isFigure 2 = .ok (.bipush 9, 2) := by decide +kernel
theorem dX10_isFigure_4 : decode cX10_isFigure 4 = .ok (.invokestatic 100, 3) := by decide +kernel
theorem dX10_isFigure_7 : decode cX10_isFigure 7 = .ok (.ireturn, 1) := by decide +kernel
theorem dX10_layText_0 : decode cX10_layText 0 = .ok (.aload_n 0, 1) := by decide +kernel
theorem dX10_layText_1 : decode cX10_layText 1 = .ok (.getfield 65, 3) := by decide +kernel
theorem dX10_layText_4 : decode cX10_layText 4 = .ok (.aload_n 0, 1) := by decide +kernel
theorem dX10_layText_5 : decode cX10_layText 5 = .ok (.getfield 10, 3) := by decide +kernel
theorem dX10_layText_8 : decode cX10_layText 8 = .ok (.invokevirtual 89, 3) := by decide +kernel
theorem dX10_layText_11 : decode cX10_layText 11 = .ok (.bipush (-4), 2) := by decide +kernel
theorem dX10_layText_13 : decode cX10_layText 13 = .ok (.if_icmp .eq 5, 3) := by decide +kernel
theorem dX10_layText_16 : decode cX10_layText 16 = .ok (.iconst 0, 1) := by decide +kernel
theorem dX10_layText_17 : decode cX10_layText 17 = .ok (.ireturn, 1) := by decide +kernel
theorem dX10_layText_18 : decode cX10_layText 18 = .ok (.aload_n 0, 1) := by decide +kernel
theorem dX10_layText_19 : decode cX10_layText 19 = .ok (.getfield 61, 3) := by decide +kernel
theorem dX10_layText_22 : decode cX10_layText 22 = .ok (.astore_n 1, 1) := by decide +kernel
theorem dX10_layText_23 : decode cX10_layText 23 = .ok (.aload_n 0, 1) := by decide +kernel
theorem dX10_layText_24 : decode cX10_layText 24 = .ok (.aload_n 0, 1) := by decide +kernel
theorem dX10_layText_25 : decode cX10_layText 25 = .ok (.getfield 65, 3) := by decide +kernel
theorem dX10_layText_28 : decode cX10_layText 28 = .ok (.putfield 61, 3) := by decide +kernel
theorem dX10_layText_31 : decode cX10_layText 31 = .ok (.aload_n 0, 1) := by decide +kernel
theorem dX10_layText_32 : decode cX10_layText 32 = .ok (.aload_n 1, 1) := by decide +kernel
theorem dX10_layText_33 : decode cX10_layText 33 = .ok (.putfield 65, 3) := by decide +kernel
theorem dX10_layText_36 : decode cX10_layText 36 = .ok (.aload_n 0, 1) := by decide +kernel
theorem dX10_layText_37 : decode cX10_layText 37 = .ok (.getfield 19, 3) := by decide +kernel
theorem dX10_layText_40 : decode cX10_layText 40 = .ok (.aload_n 0, 1) := by decide +kernel
theorem dX10_layText_41 : decode cX10_layText 41 = .ok (.getfield 61, 3) := by decide +kernel
theorem dX10_layText_44 : decode cX10_layText 44 = .ok (.getfield 230, 3) := by decide +kernel
theorem dX10_layText_47 : decode cX10_layText 47 = .ok (.invokevirtual 231, 3) := by decide +kernel
theorem dX10_layText_50 : decode cX10_layText 50 = .ok (.aload_n 0, 1) := by decide +kernel
theorem dX10_layText_51 : decode cX10_layText 51 = .ok (.getfield 40, 3) := by decide +kernel
theorem dX10_layText_54 : decode cX10_layText 54 = .ok (.iconst 0, 1) := by decide +kernel
theorem dX10_layText_55 : decode cX10_layText 55 = .ok (.putfield 212, 3) := by decide +kernel
theorem dX10_layText_58 : decode cX10_layText 58 = .ok (.aload_n 0, 1) := by decide +kernel
theorem dX10_layText_59 : decode cX10_layText 59 = .ok (.getfield 26, 3) := by decide +kernel
theorem dX10_layText_62 : decode cX10_layText 62 = .ok (.iconst 0, 1) := by decide +kernel
theorem dX10_layText_63 : decode cX10_layText 63 = .ok (.putfield 128, 3) := by decide +kernel
theorem dX10_layText_66 : decode cX10_layText 66 = .ok (.aload_n 0, 1) := by decide +kernel
theorem dX10_layText_67 : decode cX10_layText 67 = .ok (.getfield 33, 3) := by decide +kernel
theorem dX10_layText_70 : decode cX10_layText 70 = .ok (.iconst 0, 1) := by decide +kernel
theorem dX10_layText_71 : decode cX10_layText 71 = .ok (.putfield 226, 3) := by decide +kernel
theorem dX10_layText_74 : decode cX10_layText 74 = .ok (.iconst 1, 1) := by decide +kernel
theorem dX10_layText_75 : decode cX10_layText 75 = .ok (.ireturn, 1) := by decide +kernel
theorem dX10_workingDays_0 : decode cX10_workingDays 0 = .ok (.iconst 0, 1) := by decide +kernel
theorem dX10_workingDays_1 : decode cX10_workingDays 1 = .ok (.istore_n 1, 1) := by decide +kernel
theorem dX10_workingDays_2 : decode cX10_workingDays 2 = .ok (.iconst 1, 1) := by decide +kernel
theorem dX10_workingDays_3 : decode cX10_workingDays 3 = .ok (.istore_n 2, 1) := by decide +kernel
theorem dX10_workingDays_4 : decode cX10_workingDays 4 = .ok (.iload_n 2, 1) := by decide +kernel
theorem dX10_workingDays_5 : decode cX10_workingDays 5 = .ok (.aload_n 0, 1) := by decide +kernel
theorem dX10_workingDays_6 : decode cX10_workingDays 6 = .ok (.getfield 61, 3) := by decide +kernel
theorem dX10_workingDays_9 : decode cX10_workingDays 9 = .ok (.getfield 192, 3) := by decide +kernel
theorem dX10_workingDays_12 : decode cX10_workingDays 12 = .ok (.if_icmp .gt 23, 3) := by decide +kernel
theorem dX10_workingDays_15 : decode cX10_workingDays 15 = .ok (.aload_n 0, 1) := by decide +kernel
theorem dX10_workingDays_16 : decode cX10_workingDays 16 = .ok (.getfield 19, 3) := by decide +kernel
theorem dX10_workingDays_19 : decode cX10_workingDays 19 = .ok (.iload_n 2, 1) := by decide +kernel
theorem dX10_workingDays_20 : decode cX10_workingDays 20 = .ok (.invokevirtual 104, 3) := by decide +kernel
theorem dX10_workingDays_23 : decode cX10_workingDays 23 = .ok (.ifCond .ne 6, 3) := by decide +kernel
theorem dX10_workingDays_26 : decode cX10_workingDays 26 = .ok (.iinc 1 1, 3) := by decide +kernel
theorem dX10_workingDays_29 : decode cX10_workingDays 29 = .ok (.iinc 2 1, 3) := by decide +kernel
theorem dX10_workingDays_32 : decode cX10_workingDays 32 = .ok (.goto (-28), 3) := by decide +kernel
theorem dX10_workingDays_35 : decode cX10_workingDays 35 = .ok (.iload_n 1, 1) := by decide +kernel
theorem dX10_workingDays_36 : decode cX10_workingDays 36 = .ok (.ireturn, 1) := by decide +kernel
theorem dX10_shownBy_0 : decode cX10_shownBy 0 = .ok (.aload_n 0, 1) := by decide +kernel
theorem dX10_shownBy_1 : decode cX10_shownBy 1 = .ok (.getfield 19, 3) := by decide +kernel
theorem dX10_shownBy_4 : decode cX10_shownBy 4 = .ok (.iload_n 1, 1) := by decide +kernel
theorem dX10_shownBy_5 : decode cX10_shownBy 5 = .ok (.invokevirtual 104, 3) := by decide +kernel
theorem dX10_shownBy_8 : decode cX10_shownBy 8 = .ok (.ifCond .eq 7, 3) := by decide +kernel
theorem dX10_shownBy_11 : decode cX10_shownBy 11 = .ok (.iconst 0, 1) := by decide +kernel
theorem dX10_shownBy_12 : decode cX10_shownBy 12 = .ok (.goto 4, 3) := by decide +kernel
theorem dX10_shownBy_15 : decode cX10_shownBy 15 = .ok (.iload_n 1, 1) := by decide +kernel
theorem dX10_shownBy_16 : decode cX10_shownBy 16 = .ok (.ireturn, 1) := by decide +kernel
theorem dX10_costOf_0 : decode cX10_costOf 0 = .ok (.aload_n 0, 1) := by decide +kernel
theorem dX10_costOf_1 : decode cX10_costOf 1 = .ok (.getfield 19, 3) := by decide +kernel
theorem dX10_costOf_4 : decode cX10_costOf 4 = .ok (.getfield 117, 3) := by decide +kernel
theorem dX10_costOf_7 : decode cX10_costOf 7 = .ok (.iconst 1, 1) := by decide +kernel
theorem dX10_costOf_8 : decode cX10_costOf 8 = .ok (.iload_n 1, 1) := by decide +kernel
theorem dX10_costOf_9 : decode cX10_costOf 9 = .ok (.ishl, 1) := by decide +kernel
theorem dX10_costOf_10 : decode cX10_costOf 10 = .ok (.iconst (-1), 1) := by decide +kernel
theorem dX10_costOf_11 : decode cX10_costOf 11 = .ok (.ixor, 1) := by decide +kernel
theorem dX10_costOf_12 : decode cX10_costOf 12 = .ok (.iand, 1) := by decide +kernel
theorem dX10_costOf_13 : decode cX10_costOf 13 = .ok (.istore_n 3, 1) := by decide +kernel
theorem dX10_costOf_14 : decode cX10_costOf 14 = .ok (.iload_n 3, 1) := by decide +kernel
theorem dX10_costOf_15 : decode cX10_costOf 15 = .ok (.iload_n 2, 1) := by decide +kernel
theorem dX10_costOf_16 : decode cX10_costOf 16 = .ok (.invokestatic 138, 3) := by decide +kernel
theorem dX10_costOf_19 : decode cX10_costOf 19 = .ok (.aload_n 0, 1) := by decide +kernel
theorem dX10_costOf_20 : decode cX10_costOf 20 = .ok (.getfield 19, 3) := by decide +kernel
theorem dX10_costOf_23 : decode cX10_costOf 23 = .ok (.getfield 117, 3) := by decide +kernel
theorem dX10_costOf_26 : decode cX10_costOf 26 = .ok (.iload_n 2, 1) := by decide +kernel
theorem dX10_costOf_27 : decode cX10_costOf 27 = .ok (.invokestatic 138, 3) := by decide +kernel
theorem dX10_costOf_30 : decode cX10_costOf 30 = .ok (.isub, 1) := by decide +kernel
theorem dX10_costOf_31 : decode cX10_costOf 31 = .ok (.ireturn, 1) := by decide +kernel
theorem dX10_drawnFigure_0 : decode cX10_drawnFigure 0 = .ok (.ldc2_w 234, 3) := by decide +kernel
theorem dX10_drawnFigure_3 : decode cX10_drawnFigure 3 = .ok (.iload_n 0, 1) := by decide +kernel
theorem dX10_drawnFigure_4 : decode cX10_drawnFigure 4 = .ok (.i2l, 1) := by decide +kernel
theorem dX10_drawnFigure_5 : decode cX10_drawnFigure 5 = .ok (.lmul, 1) := by decide +kernel
theorem dX10_drawnFigure_6 : decode cX10_drawnFigure 6 = .ok (.ldc2_w 236, 3) := by decide +kernel
theorem dX10_drawnFigure_9 : decode cX10_drawnFigure 9 = .ok (.iload_n 1, 1) := by decide +kernel
theorem dX10_drawnFigure_10 : decode cX10_drawnFigure 10 = .ok (.i2l, 1) := by decide +kernel
theorem dX10_drawnFigure_11 : decode cX10_drawnFigure 11 = .ok (.lmul, 1) := by decide +kernel
theorem dX10_drawnFigure_12 : decode cX10_drawnFigure 12 = .ok (.ladd, 1) := by decide +kernel
theorem dX10_drawnFigure_13 : decode cX10_drawnFigure 13 = .ok (.lconst 1, 1) := by decide +kernel
theorem dX10_drawnFigure_14 : decode cX10_drawnFigure 14 = .ok (.ladd, 1) := by decide +kernel
theorem dX10_drawnFigure_15 : decode cX10_drawnFigure 15 = .ok (.lstore_n 2, 1) := by decide +kernel
theorem dX10_drawnFigure_16 : decode cX10_drawnFigure 16 = .ok (.lload_n 2, 1) := by decide +kernel
theorem dX10_drawnFigure_17 : decode cX10_drawnFigure 17 = .ok (.lload_n 2, 1) := by decide +kernel
theorem dX10_drawnFigure_18 : decode cX10_drawnFigure 18 = .ok (.lmul, 1) := by decide +kernel
theorem dX10_drawnFigure_19 : decode cX10_drawnFigure 19 = .ok (.ldc2_w 238, 3) := by decide +kernel
theorem dX10_drawnFigure_22 : decode cX10_drawnFigure 22 = .ok (.lrem, 1) := by decide +kernel
theorem dX10_drawnFigure_23 : decode cX10_drawnFigure 23 = .ok (.ldc2_w 240, 3) := by decide +kernel
theorem dX10_drawnFigure_26 : decode cX10_drawnFigure 26 = .ok (.ldiv, 1) := by decide +kernel
theorem dX10_drawnFigure_27 : decode cX10_drawnFigure 27 = .ok (.ldc2_w 242, 3) := by decide +kernel
theorem dX10_drawnFigure_30 : decode cX10_drawnFigure 30 = .ok (.lrem, 1) := by decide +kernel
theorem dX10_drawnFigure_31 : decode cX10_drawnFigure 31 = .ok (.l2i, 1) := by decide +kernel
theorem dX10_drawnFigure_32 : decode cX10_drawnFigure 32 = .ok (.ireturn, 1) := by decide +kernel
