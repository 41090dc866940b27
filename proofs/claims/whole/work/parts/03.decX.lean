theorem dX0_init_0 : decode cX0_init 0 = .ok (.aload_n 0, 1) := by decide +kernel
theorem dX0_init_1 : decode cX0_init 1 = .ok (.invokespecial 3, 3) := by decide +kernel
theorem dX0_init_4 : decode cX0_init 4 = .ok (.aload_n 0, 1) := by decide +kernel
theorem dX0_init_5 : decode cX0_init 5 = .ok (.iconst 0, 1) := by decide +kernel
theorem dX0_init_6 : decode cX0_init 6 = .ok (.putfield 9, 3) := by decide +kernel
theorem dX0_init_9 : decode cX0_init 9 = .ok (.aload_n 0, 1) := by decide +kernel
theorem dX0_init_10 : decode cX0_init 10 = .ok (.bipush 10, 2) := by decide +kernel
theorem dX0_init_12 : decode cX0_init 12 = .ok (.newarray .int, 2) := by decide +kernel
theorem dX0_init_14 : decode cX0_init 14 = .ok (.putfield 15, 3) := by decide +kernel
theorem dX0_init_17 : decode cX0_init 17 = .ok (.return_, 1) := by decide +kernel
theorem dX0_isOnStrike_0 : decode cX0_isOnStrike 0 = .ok (.aload_n 0, 1) := by decide +kernel
theorem dX0_isOnStrike_1 : decode cX0_isOnStrike 1 = .ok (.getfield 9, 3) := by decide +kernel
theorem dX0_isOnStrike_4 : decode cX0_isOnStrike 4 = .ok (.iload_n 1, 1) := by decide +kernel
theorem dX0_isOnStrike_5 : decode cX0_isOnStrike 5 = .ok (.ishr, 1) := by decide +kernel
theorem dX0_isOnStrike_6 : decode cX0_isOnStrike 6 = .ok (.iconst 1, 1) := by decide +kernel
theorem dX0_isOnStrike_7 : decode cX0_isOnStrike 7 = .ok (.iand, 1) := by decide +kernel
theorem dX0_isOnStrike_8 : decode cX0_isOnStrike 8 = .ok (.iconst 1, 1) := by decide +kernel
theorem dX0_isOnStrike_9 : decode cX0_isOnStrike 9 = .ok (.if_icmp .ne 7, 3) := by decide +kernel
theorem dX0_isOnStrike_12 : decode cX0_isOnStrike 12 = .ok (.iconst 1, 1) := by decide +kernel
theorem dX0_isOnStrike_13 : decode cX0_isOnStrike 13 = .ok (.goto 4, 3) := by decide +kernel
theorem dX0_isOnStrike_16 : decode cX0_isOnStrike 16 = .ok (.iconst 0, 1) := by decide +kernel
theorem dX0_isOnStrike_17 : decode cX0_isOnStrike 17 = .ok (.ireturn, 1) := by decide +kernel
theorem dX0_strikers_0 : decode cX0_strikers 0 = .ok (.aload_n 0, 1) := by decide +kernel
theorem dX0_strikers_1 : decode cX0_strikers 1 = .ok (.getfield 9, 3) := by decide +kernel
theorem dX0_strikers_4 : decode cX0_strikers 4 = .ok (.invokestatic 19, 3) := by decide +kernel
theorem dX0_strikers_7 : decode cX0_strikers 7 = .ok (.ireturn, 1) := by decide +kernel
theorem dX0_copyFrom_0 : decode cX0_copyFrom 0 = .ok (.aload_n 0, 1) := by decide +kernel
theorem dX0_copyFrom_1 : decode cX0_copyFrom 1 = .ok (.aload_n 1, 1) := by decide +kernel
theorem dX0_copyFrom_2 : decode cX0_copyFrom 2 = .ok (.getfield 9, 3) := by decide +kernel
theorem dX0_copyFrom_5 : decode cX0_copyFrom 5 = .ok (.putfield 9, 3) := by decide +kernel
theorem dX0_copyFrom_8 : decode cX0_copyFrom 8 = .ok (.aload_n 1, 1) := by decide +kernel
theorem dX0_copyFrom_9 : decode cX0_copyFrom 9 = .ok (.getfield 15, 3) := by decide +kernel
theorem dX0_copyFrom_12 : decode cX0_copyFrom 12 = .ok (.iconst 0, 1) := by decide +kernel
theorem dX0_copyFrom_13 : decode cX0_copyFrom 13 = .ok (.aload_n 0, 1) := by decide +kernel
theorem dX0_copyFrom_14 : decode cX0_copyFrom 14 = .ok (.getfield 15, 3) := by decide +kernel
theorem dX0_copyFrom_17 : decode cX0_copyFrom 17 = .ok (.iconst 0, 1) := by decide +kernel
theorem dX0_copyFrom_18 : decode cX0_copyFrom 18 = .ok (.bipush 10, 2) := by decide +kernel
theorem dX0_copyFrom_20 : decode cX0_copyFrom 20 = .ok (.invokestatic 25, 3) := by decide +kernel
theorem dX0_copyFrom_23 : decode cX0_copyFrom 23 = .ok (.return_, 1) := by decide +kernel
theorem dX0_clear_0 : decode cX0_clear 0 = .ok (.aload_n 0, 1) := by decide +kernel
theorem dX0_clear_1 : decode cX0_clear 1 = .ok (.iconst 0, 1) := by decide +kernel
theorem dX0_clear_2 : decode cX0_clear 2 = .ok (.putfield 9, 3) := by decide +kernel
theorem dX0_clear_5 : decode cX0_clear 5 = .ok (.iconst 0, 1) := by decide +kernel
theorem dX0_clear_6 : decode cX0_clear 6 = .ok (.istore_n 1, 1) := by decide +kernel
theorem dX0_clear_7 : decode cX0_clear 7 = .ok (.iload_n 1, 1) := by decide +kernel
theorem dX0_clear_8 : decode cX0_clear 8 = .ok (.bipush 10, 2) := by decide +kernel
theorem dX0_clear_10 : decode cX0_clear 10 = .ok (.if_icmp .ge 16, 3) := by decide +kernel
theorem dX0_clear_13 : decode cX0_clear 13 = .ok (.aload_n 0, 1) := by decide +kernel
theorem dX0_clear_14 : decode cX0_clear 14 = .ok (.getfield 15, 3) := by decide +kernel
theorem dX0_clear_17 : decode cX0_clear 17 = .ok (.iload_n 1, 1) := by decide +kernel
theorem dX0_clear_18 : decode cX0_clear 18 = .ok (.iload_n 1, 1) := by decide +kernel
theorem dX0_clear_19 : decode cX0_clear 19 = .ok (.iastore, 1) := by decide +kernel
theorem dX0_clear_20 : decode cX0_clear 20 = .ok (.iinc 1 1, 3) := by decide +kernel
theorem dX0_clear_23 : decode cX0_clear 23 = .ok (.goto (-16), 3) := by decide +kernel
theorem dX0_clear_26 : decode cX0_clear 26 = .ok (.return_, 1) := by decide +kernel
theorem dX0_heardAs_0 : decode cX0_heardAs 0 = .ok (.iload_n 1, 1) := by decide +kernel
theorem dX0_heardAs_1 : decode cX0_heardAs 1 = .ok (.iload_n 0, 1) := by decide +kernel
theorem dX0_heardAs_2 : decode cX0_heardAs 2 = .ok (.ishr, 1) := by decide +kernel
theorem dX0_heardAs_3 : decode cX0_heardAs 3 = .ok (.iconst 1, 1) := by decide +kernel
theorem dX0_heardAs_4 : decode cX0_heardAs 4 = .ok (.iand, 1) := by decide +kernel
theorem dX0_heardAs_5 : decode cX0_heardAs 5 = .ok (.iconst 1, 1) := by decide +kernel
theorem dX0_heardAs_6 : decode cX0_heardAs 6 = .ok (.if_icmp .ne 9, 3) := by decide +kernel
theorem dX0_heardAs_9 : decode cX0_heardAs 9 = .ok (.aload_n 2, 1) := by decide +kernel
theorem dX0_heardAs_10 : decode cX0_heardAs 10 = .ok (.iload_n 0, 1) := by decide +kernel
theorem dX0_heardAs_11 : decode cX0_heardAs 11 = .ok (.iaload, 1) := by decide +kernel
theorem dX0_heardAs_12 : decode cX0_heardAs 12 = .ok (.goto 4, 3) := by decide +kernel
theorem dX0_heardAs_15 : decode cX0_heardAs 15 = .ok (.iload_n 0, 1) := by decide +kernel
theorem dX0_heardAs_16 : decode cX0_heardAs 16 = .ok (.ireturn, 1) := by decide +kernel
theorem dX1_init_0 : decode cX1_init 0 = .ok (.aload_n 0, 1) := by decide +kernel
theorem dX1_init_1 : decode cX1_init 1 = .ok (.invokespecial 1, 3) := by decide +kernel
theorem dX1_init_4 : decode cX1_init 4 = .ok (.aload_n 0, 1) := by decide +kernel
theorem dX1_init_5 : decode cX1_init 5 = .ok (.iconst 2, 1) := by decide +kernel
theorem dX1_init_6 : decode cX1_init 6 = .ok (.anewarray 7, 3) := by decide +kernel
theorem dX1_init_9 : decode cX1_init 9 = .ok (.dup, 1) := by decide +kernel
theorem dX1_init_10 : decode cX1_init 10 = .ok (.iconst 0, 1) := by decide +kernel
theorem dX1_init_11 : decode cX1_init 11 = .ok (.new 7, 3) := by decide +kernel
theorem dX1_init_14 : decode cX1_init 14 = .ok (.dup, 1) := by decide +kernel
theorem dX1_init_15 : decode cX1_init 15 = .ok (.invokespecial 9, 3) := by decide +kernel
theorem dX1_init_18 : decode cX1_init 18 = .ok (.aastore, 1) := by decide +kernel
theorem dX1_init_19 : decode cX1_init 19 = .ok (.dup, 1) := by decide +kernel
theorem dX1_init_20 : decode cX1_init 20 = .ok (.iconst 1, 1) := by decide +kernel
theorem dX1_init_21 : decode cX1_init 21 = .ok (.new 7, 3) := by decide +kernel
theorem dX1_init_24 : decode cX1_init 24 = .ok (.dup, 1) := by decide +kernel
theorem dX1_init_25 : decode cX1_init 25 = .ok (.invokespecial 9, 3) := by decide +kernel
theorem dX1_init_28 : decode cX1_init 28 = .ok (.aastore, 1) := by decide +kernel
theorem dX1_init_29 : decode cX1_init 29 = .ok (.putfield 10, 3) := by decide +kernel
theorem dX1_init_32 : decode cX1_init 32 = .ok (.aload_n 0, 1) := by decide +kernel
theorem dX1_init_33 : decode cX1_init 33 = .ok (.iconst 0, 1) := by decide +kernel
theorem dX1_init_34 : decode cX1_init 34 = .ok (.putfield 16, 3) := by decide +kernel
theorem dX1_init_37 : decode cX1_init 37 = .ok (.return_, 1) := by decide +kernel
theorem dX1_put_0 : decode cX1_put 0 = .ok (.aload_n 0, 1) := by decide +kernel
theorem dX1_put_1 : decode cX1_put 1 = .ok (.getfield 16, 3) := by decide +kernel
theorem dX1_put_4 : decode cX1_put 4 = .ok (.iconst 2, 1) := by decide +kernel
theorem dX1_put_5 : decode cX1_put 5 = .ok (.if_icmp .lt 5, 3) := by decide +kernel
theorem dX1_put_8 : decode cX1_put 8 = .ok (.iconst 0, 1) := by decide +kernel
theorem dX1_put_9 : decode cX1_put 9 = .ok (.ireturn, 1) := by decide +kernel
theorem dX1_put_10 : decode cX1_put 10 = .ok (.aload_n 0, 1) := by decide +kernel
theorem dX1_put_11 : decode cX1_put 11 = .ok (.getfield 10, 3) := by decide +kernel
theorem dX1_put_14 : decode cX1_put 14 = .ok (.aload_n 0, 1) := by decide +kernel
theorem dX1_put_15 : decode cX1_put 15 = .ok (.getfield 16, 3) := by decide +kernel
theorem dX1_put_18 : decode cX1_put 18 = .ok (.aaload, 1) := by decide +kernel
theorem dX1_put_19 : decode cX1_put 19 = .ok (.aload_n 1, 1) := by decide +kernel
theorem dX1_put_20 : decode cX1_put 20 = .ok (.invokevirtual 20, 3) := by decide +kernel
theorem dX1_put_23 : decode cX1_put 23 = .ok (.aload_n 0, 1) := by decide +kernel
theorem dX1_put_24 : decode cX1_put 24 = .ok (.dup, 1) := by decide +kernel
theorem dX1_put_25 : decode cX1_put 25 = .ok (.getfield 16, 3) := by decide +kernel
theorem dX1_put_28 : decode cX1_put 28 = .ok (.iconst 1, 1) := by decide +kernel
theorem dX1_put_29 : decode cX1_put 29 = .ok (.iadd, 1) := by decide +kernel
theorem dX1_put_30 : decode cX1_put 30 = .ok (.putfield 16, 3) := by decide +kernel
theorem dX1_put_33 : decode cX1_put 33 = .ok (.iconst 1, 1) := by decide +kernel
theorem dX1_put_34 : decode cX1_put 34 = .ok (.ireturn, 1) := by decide +kernel
theorem dX1_restore_0 : decode cX1_restore 0 = .ok (.aload_n 0, 1) := by decide +kernel
theorem dX1_restore_1 : decode cX1_restore 1 = .ok (.getfield 16, 3) := by decide +kernel
theorem dX1_restore_4 : decode cX1_restore 4 = .ok (.ifCond .gt 5, 3) := by decide +kernel
theorem dX1_restore_7 : decode cX1_restore 7 = .ok (.iconst 0, 1) := by decide +kernel
theorem dX1_restore_8 : decode cX1_restore 8 = .ok (.ireturn, 1) := by decide +kernel
theorem dX1_restore_9 : decode cX1_restore 9 = .ok (.aload_n 0, 1) := by decide +kernel
theorem dX1_restore_10 : decode cX1_restore 10 = .ok (.dup, 1) := by decide +kernel
theorem dX1_restore_11 : decode cX1_restore 11 = .ok (.getfield 16, 3) := by decide +kernel
theorem dX1_restore_14 : decode cX1_restore 14 = .ok (.iconst 1, 1) := by decide +kernel
theorem dX1_restore_15 : decode cX1_restore 15 = .ok (.isub, 1) := by decide +kernel
theorem dX1_restore_16 : decode cX1_restore 16 = .ok (.putfield 16, 3) := by decide +kernel
theorem dX1_restore_19 : decode cX1_restore 19 = .ok (.aload_n 1, 1) := by decide +kernel
theorem dX1_restore_20 : decode cX1_restore 20 = .ok (.aload_n 0, 1) := by decide +kernel
theorem dX1_restore_21 : decode cX1_restore 21 = .ok (.getfield 10, 3) := by decide +kernel
theorem dX1_restore_24 : decode cX1_restore 24 = .ok (.aload_n 0, 1) := by decide +kernel
theorem dX1_restore_25 : decode cX1_restore 25 = .ok (.getfield 16, 3) := by decide +kernel
theorem dX1_restore_28 : decode cX1_restore 28 = .ok (.aaload, 1) := by decide +kernel
theorem dX1_restore_29 : decode cX1_restore 29 = .ok (.invokevirtual 20, 3) := by decide +kernel
theorem dX1_restore_32 : decode cX1_restore 32 = .ok (.iconst 1, 1) := by decide +kernel
theorem dX1_restore_33 : decode cX1_restore 33 = .ok (.ireturn, 1) := by decide +kernel
theorem dX2_init_0 : decode cX2_init 0 = .ok (.aload_n 0, 1) := by decide +kernel
theorem dX2_init_1 : decode cX2_init 1 = .ok (.invokespecial 1, 3) := by decide +kernel
theorem dX2_init_4 : decode cX2_init 4 = .ok (.aload_n 0, 1) := by decide +kernel
theorem dX2_init_5 : decode cX2_init 5 = .ok (.bipush 8, 2) := by decide +kernel
theorem dX2_init_7 : decode cX2_init 7 = .ok (.newarray .int, 2) := by decide +kernel
theorem dX2_init_9 : decode cX2_init 9 = .ok (.putfield 9, 3) := by decide +kernel
theorem dX2_init_12 : decode cX2_init 12 = .ok (.aload_n 0, 1) := by decide +kernel
theorem dX2_init_13 : decode cX2_init 13 = .ok (.bipush 8, 2) := by decide +kernel
theorem dX2_init_15 : decode cX2_init 15 = .ok (.newarray .int, 2) := by decide +kernel
theorem dX2_init_17 : decode cX2_init 17 = .ok (.putfield 13, 3) := by decide +kernel
theorem dX2_init_20 : decode cX2_init 20 = .ok (.aload_n 0, 1) := by decide +kernel
theorem dX2_init_21 : decode cX2_init 21 = .ok (.iconst 0, 1) := by decide +kernel
theorem dX2_init_22 : decode cX2_init 22 = .ok (.putfield 16, 3) := by decide +kernel
theorem dX2_init_25 : decode cX2_init 25 = .ok (.return_, 1) := by decide +kernel
theorem dX2_tell_0 : decode cX2_tell 0 = .ok (.aload_n 0, 1) := by decide +kernel
theorem dX2_tell_1 : decode cX2_tell 1 = .ok (.getfield 16, 3) := by decide +kernel
theorem dX2_tell_4 : decode cX2_tell 4 = .ok (.bipush 8, 2) := by decide +kernel
theorem dX2_tell_6 : decode cX2_tell 6 = .ok (.if_icmp .lt 5, 3) := by decide +kernel
theorem dX2_tell_9 : decode cX2_tell 9 = .ok (.iconst 0, 1) := by decide +kernel
theorem dX2_tell_10 : decode cX2_tell 10 = .ok (.ireturn, 1) := by decide +kernel
theorem dX2_tell_11 : decode cX2_tell 11 = .ok (.aload_n 0, 1) := by decide +kernel
theorem dX2_tell_12 : decode cX2_tell 12 = .ok (.getfield 9, 3) := by decide +kernel
theorem dX2_tell_15 : decode cX2_tell 15 = .ok (.aload_n 0, 1) := by decide +kernel
theorem dX2_tell_16 : decode cX2_tell 16 = .ok (.getfield 16, 3) := by decide +kernel
theorem dX2_tell_19 : decode cX2_tell 19 = .ok (.iload_n 1, 1) := by decide +kernel
theorem dX2_tell_20 : decode cX2_tell 20 = .ok (.iastore, 1) := by decide +kernel
theorem dX2_tell_21 : decode cX2_tell 21 = .ok (.aload_n 0, 1) := by decide +kernel
theorem dX2_tell_22 : decode cX2_tell 22 = .ok (.getfield 13, 3) := by decide +kernel
theorem dX2_tell_25 : decode cX2_tell 25 = .ok (.aload_n 0, 1) := by decide +kernel
theorem dX2_tell_26 : decode cX2_tell 26 = .ok (.getfield 16, 3) := by decide +kernel
theorem dX2_tell_29 : decode cX2_tell 29 = .ok (.iload_n 2, 1) := by decide +kernel
theorem dX2_tell_30 : decode cX2_tell 30 = .ok (.iastore, 1) := by decide +kernel
theorem dX2_tell_31 : decode cX2_tell 31 = .ok (.aload_n 0, 1) := by decide +kernel
theorem dX2_tell_32 : decode cX2_tell 32 = .ok (.dup, 1) := by decide +kernel
theorem dX2_tell_33 : decode cX2_tell 33 = .ok (.getfield 16, 3) := by decide +kernel
theorem dX2_tell_36 : decode cX2_tell 36 = .ok (.iconst 1, 1) := by decide +kernel
theorem dX2_tell_37 : decode cX2_tell 37 = .ok (.iadd, 1) := by decide +kernel
theorem dX2_tell_38 : decode cX2_tell 38 = .ok (.putfield 16, 3) := by decide +kernel
theorem dX2_tell_41 : decode cX2_tell 41 = .ok (.iconst 1, 1) := by decide +kernel
theorem dX2_tell_42 : decode cX2_tell 42 = .ok (.ireturn, 1) := by decide +kernel
theorem dX2_isSo_0 : decode cX2_isSo 0 = .ok (.iconst 0, 1) := by decide +kernel
theorem dX2_isSo_1 : decode cX2_isSo 1 = .ok (.istore_n 3, 1) := by decide +kernel
theorem dX2_isSo_2 : decode cX2_isSo 2 = .ok (.iload_n 3, 1) := by decide +kernel
theorem dX2_isSo_3 : decode cX2_isSo 3 = .ok (.aload_n 0, 1) := by decide +kernel
theorem dX2_isSo_4 : decode cX2_isSo 4 = .ok (.getfield 16, 3) := by decide +kernel
theorem dX2_isSo_7 : decode cX2_isSo 7 = .ok (.if_icmp .ge 31, 3) := by decide +kernel
theorem dX2_isSo_10 : decode cX2_isSo 10 = .ok (.aload_n 0, 1) := by decide +kernel
theorem dX2_isSo_11 : decode cX2_isSo 11 = .ok (.getfield 9, 3) := by decide +kernel
theorem dX2_isSo_14 : decode cX2_isSo 14 = .ok (.iload_n 3, 1) := by decide +kernel
theorem dX2_isSo_15 : decode cX2_isSo 15 = .ok (.iaload, 1) := by decide +kernel
theorem dX2_isSo_16 : decode cX2_isSo 16 = .ok (.aload_n 0, 1) := by decide +kernel
theorem dX2_isSo_17 : decode cX2_isSo 17 = .ok (.getfield 13, 3) := by decide +kernel
theorem dX2_isSo_20 : decode cX2_isSo 20 = .ok (.iload_n 3, 1) := by decide +kernel
theorem dX2_isSo_21 : decode cX2_isSo 21 = .ok (.iaload, 1) := by decide +kernel
theorem dX2_isSo_22 : decode cX2_isSo 22 = .ok (.iload_n 1, 1) := by decide +kernel
theorem dX2_isSo_23 : decode cX2_isSo 23 = .ok (.aload_n 2, 1) := by decide +kernel
theorem dX2_isSo_24 : decode cX2_isSo 24 = .ok (.invokestatic 20, 3) := by decide +kernel
theorem dX2_isSo_27 : decode cX2_isSo 27 = .ok (.ifCond .ne 5, 3) := by decide +kernel
theorem dX2_isSo_30 : decode cX2_isSo 30 = .ok (.iconst 0, 1) := by decide +kernel
theorem dX2_isSo_31 : decode cX2_isSo 31 = .ok (.ireturn, 1) := by decide +kernel
theorem dX2_isSo_32 : decode cX2_isSo 32 = .ok (.iinc 3 1, 3) := by decide +kernel
theorem dX2_isSo_35 : decode cX2_isSo 35 = .ok (.goto (-33), 3) := by decide +kernel
theorem dX2_isSo_38 : decode cX2_isSo 38 = .ok (.iconst 1, 1) := by decide +kernel
theorem dX2_isSo_39 : decode cX2_isSo 39 = .ok (.ireturn, 1) := by decide +kernel
theorem dX2_isHeardAs_0 : decode cX2_isHeardAs 0 = .ok (.iload_n 0, 1) := by decide +kernel
theorem dX2_isHeardAs_1 : decode cX2_isHeardAs 1 = .ok (.invokestatic 24, 3) := by decide +kernel
theorem dX2_isHeardAs_4 : decode cX2_isHeardAs 4 = .ok (.istore 4, 2) := by decide +kernel
theorem dX2_isHeardAs_6 : decode cX2_isHeardAs 6 = .ok (.iload_n 0, 1) := by decide +kernel
theorem dX2_isHeardAs_7 : decode cX2_isHeardAs 7 = .ok (.istore 5, 2) := by decide +kernel
theorem dX2_isHeardAs_9 : decode cX2_isHeardAs 9 = .ok (.iload_n 1, 1) := by decide +kernel
theorem dX2_isHeardAs_10 : decode cX2_isHeardAs 10 = .ok (.istore 6, 2) := by decide +kernel
theorem dX2_isHeardAs_12 : decode cX2_isHeardAs 12 = .ok (.iconst 0, 1) := by decide +kernel
theorem dX2_isHeardAs_13 : decode cX2_isHeardAs 13 = .ok (.istore 7, 2) := by decide +kernel
theorem dX2_isHeardAs_15 : decode cX2_isHeardAs 15 = .ok (.iload 7, 2) := by decide +kernel
theorem dX2_isHeardAs_17 : decode cX2_isHeardAs 17 = .ok (.iload 4, 2) := by decide +kernel
theorem dX2_isHeardAs_19 : decode cX2_isHeardAs 19 = .ok (.if_icmp .ge 43, 3) := by decide +kernel
theorem dX2_isHeardAs_22 : decode cX2_isHeardAs 22 = .ok (.iload 5, 2) := by decide +kernel
theorem dX2_isHeardAs_24 : decode cX2_isHeardAs 24 = .ok (.bipush 10, 2) := by decide +kernel
theorem dX2_isHeardAs_26 : decode cX2_isHeardAs 26 = .ok (.irem, 1) := by decide +kernel
theorem dX2_isHeardAs_27 : decode cX2_isHeardAs 27 = .ok (.iload_n 2, 1) := by decide +kernel
theorem dX2_isHeardAs_28 : decode cX2_isHeardAs 28 = .ok (.aload_n 3, 1) := by decide +kernel
theorem dX2_isHeardAs_29 : decode cX2_isHeardAs 29 = .ok (.invokestatic 30, 3) := by decide +kernel
theorem dX2_isHeardAs_32 : decode cX2_isHeardAs 32 = .ok (.iload 6, 2) := by decide +kernel
theorem dX2_isHeardAs_34 : decode cX2_isHeardAs 34 = .ok (.bipush 10, 2) := by decide +kernel
theorem dX2_isHeardAs_36 : decode cX2_isHeardAs 36 = .ok (.irem, 1) := by decide +kernel
theorem dX2_isHeardAs_37 : decode cX2_isHeardAs 37 = .ok (.if_icmp .eq 5, 3) := by decide +kernel
theorem dX2_isHeardAs_40 : decode cX2_isHeardAs 40 = .ok (.iconst 0, 1) := by decide +kernel
theorem dX2_isHeardAs_41 : decode cX2_isHeardAs 41 = .ok (.ireturn, 1) := by decide +kernel
theorem dX2_isHeardAs_42 : decode cX2_isHeardAs 42 = .ok (.iload 5, 2) := by decide +kernel
theorem dX2_isHeardAs_44 : decode cX2_isHeardAs 44 = .ok (.bipush 10, 2) := by decide +kernel
theorem dX2_isHeardAs_46 : decode cX2_isHeardAs 46 = .ok (.idiv, 1) := by decide +kernel
theorem dX2_isHeardAs_47 : decode cX2_isHeardAs 47 = .ok (.istore 5, 2) := by decide +kernel
theorem dX2_isHeardAs_49 : decode cX2_isHeardAs 49 = .ok (.iload 6, 2) := by decide +kernel
theorem dX2_isHeardAs_51 : decode cX2_isHeardAs 51 = .ok (.bipush 10, 2) := by decide +kernel
theorem dX2_isHeardAs_53 : decode cX2_isHeardAs 53 = .ok (.idiv, 1) := by decide +kernel
theorem dX2_isHeardAs_54 : decode cX2_isHeardAs 54 = .ok (.istore 6, 2) := by decide +kernel
theorem dX2_isHeardAs_56 : decode cX2_isHeardAs 56 = .ok (.iinc 7 1, 3) := by decide +kernel
theorem dX2_isHeardAs_59 : decode cX2_isHeardAs 59 = .ok (.goto (-44), 3) := by decide +kernel
theorem dX2_isHeardAs_62 : decode cX2_isHeardAs 62 = .ok (.iconst 1, 1) := by decide +kernel
theorem dX2_isHeardAs_63 : decode cX2_isHeardAs 63 = .ok (.ireturn, 1) := by decide +kernel
theorem dX3_lengthOf_0 : decode cX3_lengthOf 0 = .ok (.iload_n 0, 1) := by decide +kernel
theorem dX3_lengthOf_1 : decode cX3_lengthOf 1 = .ok (.bipush 100, 2) := by decide +kernel
theorem dX3_lengthOf_3 : decode cX3_lengthOf 3 = .ok (.if_icmp .ge 15, 3) := by decide +kernel
theorem dX3_lengthOf_6 : decode cX3_lengthOf 6 = .ok (.iload_n 0, 1) := by decide +kernel
theorem dX3_lengthOf_7 : decode cX3_lengthOf 7 = .ok (.bipush 10, 2) := by decide +kernel
theorem dX3_lengthOf_9 : decode cX3_lengthOf 9 = .ok (.if_icmp .ge 7, 3) := by decide +kernel
theorem dX3_lengthOf_12 : decode cX3_lengthOf 12 = .ok (.iconst 1, 1) := by decide +kernel
theorem dX3_lengthOf_13 : decode cX3_lengthOf 13 = .ok (.goto 4, 3) := by decide +kernel
theorem dX3_lengthOf_16 : decode cX3_lengthOf 16 = .ok (.iconst 2, 1) := by decide +kernel
theorem dX3_lengthOf_17 : decode cX3_lengthOf 17 = .ok (.ireturn, 1) := by decide +kernel
theorem dX3_lengthOf_18 : decode cX3_lengthOf 18 = .ok (.iload_n 0, 1) := by decide +kernel
theorem dX3_lengthOf_19 : decode cX3_lengthOf 19 = .ok (.sipush 10000, 3) := by decide +kernel
theorem dX3_lengthOf_22 : decode cX3_lengthOf 22 = .ok (.if_icmp .ge 16, 3) := by decide +kernel
theorem dX3_lengthOf_25 : decode cX3_lengthOf 25 = .ok (.iload_n 0, 1) := by decide +kernel
theorem dX3_lengthOf_26 : decode cX3_lengthOf 26 = .ok (.sipush 1000, 3) := by decide +kernel
theorem dX3_lengthOf_29 : decode cX3_lengthOf 29 = .ok (.if_icmp .ge 7, 3) := by decide +kernel
theorem dX3_lengthOf_32 : decode cX3_lengthOf 32 = .ok (.iconst 3, 1) := by decide +kernel
theorem dX3_lengthOf_33 : decode cX3_lengthOf 33 = .ok (.goto 4, 3) := by decide +kernel
theorem dX3_lengthOf_36 : decode cX3_lengthOf 36 = .ok (.iconst 4, 1) := by decide +kernel
theorem dX3_lengthOf_37 : decode cX3_lengthOf 37 = .ok (.ireturn, 1) := by decide +kernel
theorem dX3_lengthOf_38 : decode cX3_lengthOf 38 = .ok (.iconst 5, 1) := by decide +kernel
theorem dX3_lengthOf_39 : decode cX3_lengthOf 39 = .ok (.ireturn, 1) := by decide +kernel
theorem dX3_canSay_0 : decode cX3_canSay 0 = .ok (.iload_n 1, 1) := by decide +kernel
theorem dX3_canSay_1 : decode cX3_canSay 1 = .ok (.istore_n 2, 1) := by decide +kernel
theorem dX3_canSay_2 : decode cX3_canSay 2 = .ok (.iconst 0, 1) := by decide +kernel
theorem dX3_canSay_3 : decode cX3_canSay 3 = .ok (.istore_n 3, 1) := by decide +kernel
theorem dX3_canSay_4 : decode cX3_canSay 4 = .ok (.iload_n 3, 1) := by decide +kernel
theorem dX3_canSay_5 : decode cX3_canSay 5 = .ok (.iconst 5, 1) := by decide +kernel
theorem dX3_canSay_6 : decode cX3_canSay 6 = .ok (.if_icmp .ge 34, 3) := by decide +kernel
theorem dX3_canSay_9 : decode cX3_canSay 9 = .ok (.iload_n 0, 1) := by decide +kernel
theorem dX3_canSay_10 : decode cX3_canSay 10 = .ok (.iload_n 2, 1) := by decide +kernel
theorem dX3_canSay_11 : decode cX3_canSay 11 = .ok (.bipush 10, 2) := by decide +kernel
theorem dX3_canSay_13 : decode cX3_canSay 13 = .ok (.irem, 1) := by decide +kernel
theorem dX3_canSay_14 : decode cX3_canSay 14 = .ok (.ishr, 1) := by decide +kernel
theorem dX3_canSay_15 : decode cX3_canSay 15 = .ok (.iconst 1, 1) := by decide +kernel
theorem dX3_canSay_16 : decode cX3_canSay 16 = .ok (.iand, 1) := by decide +kernel
theorem dX3_canSay_17 : decode cX3_canSay 17 = .ok (.iconst 1, 1) := by decide +kernel
theorem dX3_canSay_18 : decode cX3_canSay 18 = .ok (.if_icmp .ne 5, 3) := by decide +kernel
theorem dX3_canSay_21 : decode cX3_canSay 21 = .ok (.iconst 0, 1) := by decide +kernel
theorem dX3_canSay_22 : decode cX3_canSay 22 = .ok (.ireturn, 1) := by decide +kernel
theorem dX3_canSay_23 : decode cX3_canSay 23 = .ok (.iload_n 2, 1) := by decide +kernel
theorem dX3_canSay_24 : decode cX3_canSay 24 = .ok (.bipush 10, 2) := by decide +kernel
theorem dX3_canSay_26 : decode cX3_canSay 26 = .ok (.idiv, 1) := by decide +kernel
theorem dX3_canSay_27 : decode cX3_canSay 27 = .ok (.istore_n 2, 1) := by decide +kernel
theorem dX3_canSay_28 : decode cX3_canSay 28 = .ok (.iload_n 2, 1) := by decide +kernel
theorem dX3_canSay_29 : decode cX3_canSay 29 = .ok (.ifCond .ne 5, 3) := by decide +kernel
theorem dX3_canSay_32 : decode cX3_canSay 32 = .ok (.iconst 1, 1) := by decide +kernel
theorem dX3_canSay_33 : decode cX3_canSay 33 = .ok (.ireturn, 1) := by decide +kernel
theorem dX3_canSay_34 : decode cX3_canSay 34 = .ok (.iinc 3 1, 3) := by decide +kernel
theorem dX3_canSay_37 : decode cX3_canSay 37 = .ok (.goto (-33), 3) := by decide +kernel
theorem dX3_canSay_40 : decode cX3_canSay 40 = .ok (.iconst 1, 1) := by decide +kernel
theorem dX3_canSay_41 : decode cX3_canSay 41 = .ok (.ireturn, 1) := by decide +kernel
theorem dX3_sayable_0 : decode cX3_sayable 0 = .ok (.iload_n 0, 1) := by decide +kernel
theorem dX3_sayable_1 : decode cX3_sayable 1 = .ok (.bipush 9, 2) := by decide +kernel
theorem dX3_sayable_3 : decode cX3_sayable 3 = .ok (.invokestatic 11, 3) := by decide +kernel
theorem dX3_sayable_6 : decode cX3_sayable 6 = .ok (.istore_n 2, 1) := by decide +kernel
theorem dX3_sayable_7 : decode cX3_sayable 7 = .ok (.iload_n 0, 1) := by decide +kernel
theorem dX3_sayable_8 : decode cX3_sayable 8 = .ok (.iconst 0, 1) := by decide +kernel
theorem dX3_sayable_9 : decode cX3_sayable 9 = .ok (.invokestatic 11, 3) := by decide +kernel
theorem dX3_sayable_12 : decode cX3_sayable 12 = .ok (.istore_n 3, 1) := by decide +kernel
theorem dX3_sayable_13 : decode cX3_sayable 13 = .ok (.iconst 1, 1) := by decide +kernel
theorem dX3_sayable_14 : decode cX3_sayable 14 = .ok (.istore 4, 2) := by decide +kernel
theorem dX3_sayable_16 : decode cX3_sayable 16 = .ok (.iload_n 1, 1) := by decide +kernel
theorem dX3_sayable_17 : decode cX3_sayable 17 = .ok (.invokestatic 15, 3) := by decide +kernel
theorem dX3_sayable_20 : decode cX3_sayable 20 = .ok (.istore 5, 2) := by decide +kernel
theorem dX3_sayable_22 : decode cX3_sayable 22 = .ok (.iload 5, 2) := by decide +kernel
theorem dX3_sayable_24 : decode cX3_sayable 24 = .ok (.iconst 1, 1) := by decide +kernel
theorem dX3_sayable_25 : decode cX3_sayable 25 = .ok (.if_icmp .le 16, 3) := by decide +kernel
theorem dX3_sayable_28 : decode cX3_sayable 28 = .ok (.iload 4, 2) := by decide +kernel
theorem dX3_sayable_30 : decode cX3_sayable 30 = .ok (.bipush 10, 2) := by decide +kernel
theorem dX3_sayable_32 : decode cX3_sayable 32 = .ok (.imul, 1) := by decide +kernel
theorem dX3_sayable_33 : decode cX3_sayable 33 = .ok (.istore 4, 2) := by decide +kernel
theorem dX3_sayable_35 : decode cX3_sayable 35 = .ok (.iinc 5 (-1), 3) := by decide +kernel
theorem dX3_sayable_38 : decode cX3_sayable 38 = .ok (.goto (-16), 3) := by decide +kernel
theorem dX3_sayable_41 : decode cX3_sayable 41 = .ok (.iload_n 0, 1) := by decide +kernel
theorem dX3_sayable_42 : decode cX3_sayable 42 = .ok (.iload_n 1, 1) := by decide +kernel
theorem dX3_sayable_43 : decode cX3_sayable 43 = .ok (.iload 4, 2) := by decide +kernel
theorem dX3_sayable_45 : decode cX3_sayable 45 = .ok (.idiv, 1) := by decide +kernel
theorem dX3_sayable_46 : decode cX3_sayable 46 = .ok (.invokestatic 11, 3) := by decide +kernel
theorem dX3_sayable_49 : decode cX3_sayable 49 = .ok (.istore 5, 2) := by decide +kernel
theorem dX3_sayable_51 : decode cX3_sayable 51 = .ok (.iload 4, 2) := by decide +kernel
theorem dX3_sayable_53 : decode cX3_sayable 53 = .ok (.bipush 10, 2) := by decide +kernel
theorem dX3_sayable_55 : decode cX3_sayable 55 = .ok (.idiv, 1) := by decide +kernel
theorem dX3_sayable_56 : decode cX3_sayable 56 = .ok (.istore 4, 2) := by decide +kernel
theorem dX3_sayable_58 : decode cX3_sayable 58 = .ok (.iload 4, 2) := by decide +kernel
theorem dX3_sayable_60 : decode cX3_sayable 60 = .ok (.ifCond .le 70, 3) := by decide +kernel
theorem dX3_sayable_63 : decode cX3_sayable 63 = .ok (.iload_n 1, 1) := by decide +kernel
theorem dX3_sayable_64 : decode cX3_sayable 64 = .ok (.iload 4, 2) := by decide +kernel
theorem dX3_sayable_66 : decode cX3_sayable 66 = .ok (.idiv, 1) := by decide +kernel
theorem dX3_sayable_67 : decode cX3_sayable 67 = .ok (.bipush 10, 2) := by decide +kernel
theorem dX3_sayable_69 : decode cX3_sayable 69 = .ok (.idiv, 1) := by decide +kernel
theorem dX3_sayable_70 : decode cX3_sayable 70 = .ok (.istore 6, 2) := by decide +kernel
theorem dX3_sayable_72 : decode cX3_sayable 72 = .ok (.iload_n 0, 1) := by decide +kernel
theorem dX3_sayable_73 : decode cX3_sayable 73 = .ok (.iload 6, 2) := by decide +kernel
theorem dX3_sayable_75 : decode cX3_sayable 75 = .ok (.invokestatic 19, 3) := by decide +kernel
theorem dX3_sayable_78 : decode cX3_sayable 78 = .ok (.ifCond .eq 7, 3) := by decide +kernel
theorem dX3_sayable_81 : decode cX3_sayable 81 = .ok (.iconst 1, 1) := by decide +kernel
theorem dX3_sayable_82 : decode cX3_sayable 82 = .ok (.goto 4, 3) := by decide +kernel
theorem dX3_sayable_85 : decode cX3_sayable 85 = .ok (.iconst 0, 1) := by decide +kernel
theorem dX3_sayable_86 : decode cX3_sayable 86 = .ok (.istore 7, 2) := by decide +kernel
theorem dX3_sayable_88 : decode cX3_sayable 88 = .ok (.iload 5, 2) := by decide +kernel
theorem dX3_sayable_90 : decode cX3_sayable 90 = .ok (.iload 7, 2) := by decide +kernel
theorem dX3_sayable_92 : decode cX3_sayable 92 = .ok (.isub, 1) := by decide +kernel
theorem dX3_sayable_93 : decode cX3_sayable 93 = .ok (.iload_n 3, 1) := by decide +kernel
theorem dX3_sayable_94 : decode cX3_sayable 94 = .ok (.isub, 1) := by decide +kernel
theorem dX3_sayable_95 : decode cX3_sayable 95 = .ok (.istore 8, 2) := by decide +kernel
theorem dX3_sayable_97 : decode cX3_sayable 97 = .ok (.iload_n 2, 1) := by decide +kernel
theorem dX3_sayable_98 : decode cX3_sayable 98 = .ok (.iload 8, 2) := by decide +kernel
theorem dX3_sayable_100 : decode cX3_sayable 100 = .ok (.iload_n 2, 1) := by decide +kernel
theorem dX3_sayable_101 : decode cX3_sayable 101 = .ok (.imul, 1) := by decide +kernel
theorem dX3_sayable_102 : decode cX3_sayable 102 = .ok (.iadd, 1) := by decide +kernel
theorem dX3_sayable_103 : decode cX3_sayable 103 = .ok (.iload 7, 2) := by decide +kernel
theorem dX3_sayable_105 : decode cX3_sayable 105 = .ok (.iload_n 0, 1) := by decide +kernel
theorem dX3_sayable_106 : decode cX3_sayable 106 = .ok (.iload_n 1, 1) := by decide +kernel
theorem dX3_sayable_107 : decode cX3_sayable 107 = .ok (.iload 4, 2) := by decide +kernel
theorem dX3_sayable_109 : decode cX3_sayable 109 = .ok (.idiv, 1) := by decide +kernel
theorem dX3_sayable_110 : decode cX3_sayable 110 = .ok (.bipush 10, 2) := by decide +kernel
theorem dX3_sayable_112 : decode cX3_sayable 112 = .ok (.irem, 1) := by decide +kernel
theorem dX3_sayable_113 : decode cX3_sayable 113 = .ok (.invokestatic 11, 3) := by decide +kernel
theorem dX3_sayable_116 : decode cX3_sayable 116 = .ok (.imul, 1) := by decide +kernel
theorem dX3_sayable_117 : decode cX3_sayable 117 = .ok (.iadd, 1) := by decide +kernel
theorem dX3_sayable_118 : decode cX3_sayable 118 = .ok (.istore 5, 2) := by decide +kernel
theorem dX3_sayable_120 : decode cX3_sayable 120 = .ok (.iload 4, 2) := by decide +kernel
theorem dX3_sayable_122 : decode cX3_sayable 122 = .ok (.bipush 10, 2) := by decide +kernel
theorem dX3_sayable_124 : decode cX3_sayable 124 = .ok (.idiv, 1) := by decide +kernel
theorem dX3_sayable_125 : decode cX3_sayable 125 = .ok (.istore 4, 2) := by decide +kernel
theorem dX3_sayable_127 : decode cX3_sayable 127 = .ok (.goto (-69), 3) := by decide +kernel
theorem dX3_sayable_130 : decode cX3_sayable 130 = .ok (.iload 5, 2) := by decide +kernel
theorem dX3_sayable_132 : decode cX3_sayable 132 = .ok (.ireturn, 1) := by decide +kernel
theorem dX3_workingUpTo_0 : decode cX3_workingUpTo 0 = .ok (.iload_n 0, 1) := by decide +kernel
theorem dX3_workingUpTo_1 : decode cX3_workingUpTo 1 = .ok (.iconst (-1), 1) := by decide +kernel
theorem dX3_workingUpTo_2 : decode cX3_workingUpTo 2 = .ok (.ixor, 1) := by decide +kernel
theorem dX3_workingUpTo_3 : decode cX3_workingUpTo 3 = .ok (.iconst 2, 1) := by decide +kernel
theorem dX3_workingUpTo_4 : decode cX3_workingUpTo 4 = .ok (.iload_n 1, 1) := by decide +kernel
theorem dX3_workingUpTo_5 : decode cX3_workingUpTo 5 = .ok (.ishl, 1) := by decide +kernel
theorem dX3_workingUpTo_6 : decode cX3_workingUpTo 6 = .ok (.iconst 1, 1) := by decide +kernel
theorem dX3_workingUpTo_7 : decode cX3_workingUpTo 7 = .ok (.isub, 1) := by decide +kernel
theorem dX3_workingUpTo_8 : decode cX3_workingUpTo 8 = .ok (.iand, 1) := by decide +kernel
theorem dX3_workingUpTo_9 : decode cX3_workingUpTo 9 = .ok (.invokestatic 23, 3) := by decide +kernel
theorem dX3_workingUpTo_12 : decode cX3_workingUpTo 12 = .ok (.ireturn, 1) := by decide +kernel
theorem dX3_atRank_0 : decode cX3_atRank 0 = .ok (.iconst 0, 1) := by decide +kernel
theorem dX3_atRank_1 : decode cX3_atRank 1 = .ok (.istore_n 2, 1) := by decide +kernel
theorem dX3_atRank_2 : decode cX3_atRank 2 = .ok (.ldc 28, 2) := by decide +kernel
theorem dX3_atRank_4 : decode cX3_atRank 4 = .ok (.istore_n 3, 1) := by decide +kernel
theorem dX3_atRank_5 : decode cX3_atRank 5 = .ok (.iload_n 3, 1) := by decide +kernel
theorem dX3_atRank_6 : decode cX3_atRank 6 = .ok (.ifCond .le 38, 3) := by decide +kernel
theorem dX3_atRank_9 : decode cX3_atRank 9 = .ok (.iload_n 2, 1) := by decide +kernel
theorem dX3_atRank_10 : decode cX3_atRank 10 = .ok (.iload_n 3, 1) := by decide +kernel
theorem dX3_atRank_11 : decode cX3_atRank 11 = .ok (.iadd, 1) := by decide +kernel
theorem dX3_atRank_12 : decode cX3_atRank 12 = .ok (.iconst 1, 1) := by decide +kernel
theorem dX3_atRank_13 : decode cX3_atRank 13 = .ok (.isub, 1) := by decide +kernel
theorem dX3_atRank_14 : decode cX3_atRank 14 = .ok (.istore 4, 2) := by decide +kernel
theorem dX3_atRank_16 : decode cX3_atRank 16 = .ok (.iload 4, 2) := by decide +kernel
theorem dX3_atRank_18 : decode cX3_atRank 18 = .ok (.ldc 29, 2) := by decide +kernel
theorem dX3_atRank_20 : decode cX3_atRank 20 = .ok (.if_icmp .gt 17, 3) := by decide +kernel
theorem dX3_atRank_23 : decode cX3_atRank 23 = .ok (.iload_n 0, 1) := by decide +kernel
theorem dX3_atRank_24 : decode cX3_atRank 24 = .ok (.iload 4, 2) := by decide +kernel
theorem dX3_atRank_26 : decode cX3_atRank 26 = .ok (.invokestatic 30, 3) := by decide +kernel
theorem dX3_atRank_29 : decode cX3_atRank 29 = .ok (.iload_n 1, 1) := by decide +kernel
theorem dX3_atRank_30 : decode cX3_atRank 30 = .ok (.if_icmp .gt 7, 3) := by decide +kernel
theorem dX3_atRank_33 : decode cX3_atRank 33 = .ok (.iload_n 2, 1) := by decide +kernel
theorem dX3_atRank_34 : decode cX3_atRank 34 = .ok (.iload_n 3, 1) := by decide +kernel
theorem dX3_atRank_35 : decode cX3_atRank 35 = .ok (.iadd, 1) := by decide +kernel
theorem dX3_atRank_36 : decode cX3_atRank 36 = .ok (.istore_n 2, 1) := by decide +kernel
theorem dX3_atRank_37 : decode cX3_atRank 37 = .ok (.iload_n 3, 1) := by decide +kernel
theorem dX3_atRank_38 : decode cX3_atRank 38 = .ok (.iconst 2, 1) := by decide +kernel
theorem dX3_atRank_39 : decode cX3_atRank 39 = .ok (.idiv, 1) := by decide +kernel
theorem dX3_atRank_40 : decode cX3_atRank 40 = .ok (.istore_n 3, 1) := by decide +kernel
theorem dX3_atRank_41 : decode cX3_atRank 41 = .ok (.goto (-36), 3) := by decide +kernel
theorem dX3_atRank_44 : decode cX3_atRank 44 = .ok (.iload_n 2, 1) := by decide +kernel
theorem dX3_atRank_45 : decode cX3_atRank 45 = .ok (.ldc 29, 2) := by decide +kernel
theorem dX3_atRank_47 : decode cX3_atRank 47 = .ok (.if_icmp .gt 7, 3) := by decide +kernel
theorem dX3_atRank_50 : decode cX3_atRank 50 = .ok (.iload_n 2, 1) := by decide +kernel
theorem dX3_atRank_51 : decode cX3_atRank 51 = .ok (.goto 5, 3) := by decide +kernel
theorem dX3_atRank_54 : decode cX3_atRank 54 = .ok (.bipush (-4), 2) := by decide +kernel
theorem dX3_atRank_56 : decode cX3_atRank 56 = .ok (.ireturn, 1) := by decide +kernel
theorem dX3_lowestTerms_0 : decode cX3_lowestTerms 0 = .ok (.iload_n 2, 1) := by decide +kernel
theorem dX3_lowestTerms_1 : decode cX3_lowestTerms 1 = .ok (.ifCond .ne 7, 3) := by decide +kernel
theorem dX3_lowestTerms_4 : decode cX3_lowestTerms 4 = .ok (.iload_n 0, 1) := by decide +kernel
theorem dX3_lowestTerms_5 : decode cX3_lowestTerms 5 = .ok (.goto 4, 3) := by decide +kernel
theorem dX3_lowestTerms_8 : decode cX3_lowestTerms 8 = .ok (.iload_n 1, 1) := by decide +kernel
theorem dX3_lowestTerms_9 : decode cX3_lowestTerms 9 = .ok (.istore_n 3, 1) := by decide +kernel
theorem dX3_lowestTerms_10 : decode cX3_lowestTerms 10 = .ok (.iload_n 1, 1) := by decide +kernel
theorem dX3_lowestTerms_11 : decode cX3_lowestTerms 11 = .ok (.istore 4, 2) := by decide +kernel
theorem dX3_lowestTerms_13 : decode cX3_lowestTerms 13 = .ok (.iload 4, 2) := by decide +kernel
theorem dX3_lowestTerms_15 : decode cX3_lowestTerms 15 = .ok (.iconst 1, 1) := by decide +kernel
theorem dX3_lowestTerms_16 : decode cX3_lowestTerms 16 = .ok (.if_icmp .le 28, 3) := by decide +kernel
theorem dX3_lowestTerms_19 : decode cX3_lowestTerms 19 = .ok (.iload_n 0, 1) := by decide +kernel
theorem dX3_lowestTerms_20 : decode cX3_lowestTerms 20 = .ok (.iload 4, 2) := by decide +kernel
theorem dX3_lowestTerms_22 : decode cX3_lowestTerms 22 = .ok (.irem, 1) := by decide +kernel
theorem dX3_lowestTerms_23 : decode cX3_lowestTerms 23 = .ok (.ifCond .ne 15, 3) := by decide +kernel
theorem dX3_lowestTerms_26 : decode cX3_lowestTerms 26 = .ok (.iload_n 1, 1) := by decide +kernel
theorem dX3_lowestTerms_27 : decode cX3_lowestTerms 27 = .ok (.iload 4, 2) := by decide +kernel
theorem dX3_lowestTerms_29 : decode cX3_lowestTerms 29 = .ok (.irem, 1) := by decide +kernel
theorem dX3_lowestTerms_30 : decode cX3_lowestTerms 30 = .ok (.ifCond .ne 8, 3) := by decide +kernel
theorem dX3_lowestTerms_33 : decode cX3_lowestTerms 33 = .ok (.iload_n 3, 1) := by decide +kernel
theorem dX3_lowestTerms_34 : decode cX3_lowestTerms 34 = .ok (.iload 4, 2) := by decide +kernel
theorem dX3_lowestTerms_36 : decode cX3_lowestTerms 36 = .ok (.idiv, 1) := by decide +kernel
theorem dX3_lowestTerms_37 : decode cX3_lowestTerms 37 = .ok (.ireturn, 1) := by decide +kernel
theorem dX3_lowestTerms_38 : decode cX3_lowestTerms 38 = .ok (.iinc 4 (-1), 3) := by decide +kernel
theorem dX3_lowestTerms_41 : decode cX3_lowestTerms 41 = .ok (.goto (-28), 3) := by decide +kernel
theorem dX3_lowestTerms_44 : decode cX3_lowestTerms 44 = .ok (.iload_n 3, 1) := by decide +kernel
theorem dX3_lowestTerms_45 : decode cX3_lowestTerms 45 = .ok (.ireturn, 1) := by decide +kernel
theorem dX4_init_0 : decode cX4_init 0 = .ok (.aload_n 0, 1) := by decide +kernel
theorem dX4_init_1 : decode cX4_init 1 = .ok (.invokespecial 1, 3) := by decide +kernel
theorem dX4_init_4 : decode cX4_init 4 = .ok (.aload_n 0, 1) := by decide +kernel
theorem dX4_init_5 : decode cX4_init 5 = .ok (.bipush 8, 2) := by decide +kernel
theorem dX4_init_7 : decode cX4_init 7 = .ok (.newarray .int, 2) := by decide +kernel
theorem dX4_init_9 : decode cX4_init 9 = .ok (.putfield 9, 3) := by decide +kernel
theorem dX4_init_12 : decode cX4_init 12 = .ok (.aload_n 0, 1) := by decide +kernel
theorem dX4_init_13 : decode cX4_init 13 = .ok (.bipush 8, 2) := by decide +kernel
theorem dX4_init_15 : decode cX4_init 15 = .ok (.newarray .int, 2) := by decide +kernel
theorem dX4_init_17 : decode cX4_init 17 = .ok (.putfield 13, 3) := by decide +kernel
theorem dX4_init_20 : decode cX4_init 20 = .ok (.aload_n 0, 1) := by decide +kernel
theorem dX4_init_21 : decode cX4_init 21 = .ok (.iconst 0, 1) := by decide +kernel
theorem dX4_init_22 : decode cX4_init 22 = .ok (.putfield 16, 3) := by decide +kernel
theorem dX4_init_25 : decode cX4_init 25 = .ok (.return_, 1) := by decide +kernel
theorem dX4_remember_0 : decode cX4_remember 0 = .ok (.aload_n 0, 1) := by decide +kernel
theorem dX4_remember_1 : decode cX4_remember 1 = .ok (.getfield 16, 3) := by decide +kernel
theorem dX4_remember_4 : decode cX4_remember 4 = .ok (.bipush 8, 2) := by decide +kernel
theorem dX4_remember_6 : decode cX4_remember 6 = .ok (.if_icmp .lt 39, 3) := by decide +kernel
theorem dX4_remember_9 : decode cX4_remember 9 = .ok (.aload_n 0, 1) := by decide +kernel
theorem dX4_remember_10 : decode cX4_remember 10 = .ok (.getfield 9, 3) := by decide +kernel
theorem dX4_remember_13 : decode cX4_remember 13 = .ok (.iconst 1, 1) := by decide +kernel
theorem dX4_remember_14 : decode cX4_remember 14 = .ok (.aload_n 0, 1) := by decide +kernel
theorem dX4_remember_15 : decode cX4_remember 15 = .ok (.getfield 9, 3) := by decide +kernel
theorem dX4_remember_18 : decode cX4_remember 18 = .ok (.iconst 0, 1) := by decide +kernel
theorem dX4_remember_19 : decode cX4_remember 19 = .ok (.bipush 7, 2) := by decide +kernel
theorem dX4_remember_21 : decode cX4_remember 21 = .ok (.invokestatic 20, 3) := by decide +kernel
theorem dX4_remember_24 : decode cX4_remember 24 = .ok (.aload_n 0, 1) := by decide +kernel
theorem dX4_remember_25 : decode cX4_remember 25 = .ok (.getfield 13, 3) := by decide +kernel
theorem dX4_remember_28 : decode cX4_remember 28 = .ok (.iconst 1, 1) := by decide +kernel
theorem dX4_remember_29 : decode cX4_remember 29 = .ok (.aload_n 0, 1) := by decide +kernel
theorem dX4_remember_30 : decode cX4_remember 30 = .ok (.getfield 13, 3) := by decide +kernel
theorem dX4_remember_33 : decode cX4_remember 33 = .ok (.iconst 0, 1) := by decide +kernel
theorem dX4_remember_34 : decode cX4_remember 34 = .ok (.bipush 7, 2) := by decide +kernel
theorem dX4_remember_36 : decode cX4_remember 36 = .ok (.invokestatic 20, 3) := by decide +kernel
theorem dX4_remember_39 : decode cX4_remember 39 = .ok (.aload_n 0, 1) := by decide +kernel
theorem dX4_remember_40 : decode cX4_remember 40 = .ok (.bipush 7, 2) := by decide +kernel
theorem dX4_remember_42 : decode cX4_remember 42 = .ok (.putfield 16, 3) := by decide +kernel
theorem dX4_remember_45 : decode cX4_remember 45 = .ok (.aload_n 0, 1) := by decide +kernel
theorem dX4_remember_46 : decode cX4_remember 46 = .ok (.getfield 9, 3) := by decide +kernel
theorem dX4_remember_49 : decode cX4_remember 49 = .ok (.aload_n 0, 1) := by decide +kernel
theorem dX4_remember_50 : decode cX4_remember 50 = .ok (.getfield 16, 3) := by decide +kernel
theorem dX4_remember_53 : decode cX4_remember 53 = .ok (.iload_n 1, 1) := by decide +kernel
theorem dX4_remember_54 : decode cX4_remember 54 = .ok (.iastore, 1) := by decide +kernel
theorem dX4_remember_55 : decode cX4_remember 55 = .ok (.aload_n 0, 1) := by decide +kernel
theorem dX4_remember_56 : decode cX4_remember 56 = .ok (.getfield 13, 3) := by decide +kernel
theorem dX4_remember_59 : decode cX4_remember 59 = .ok (.aload_n 0, 1) := by decide +kernel
theorem dX4_remember_60 : decode cX4_remember 60 = .ok (.getfield 16, 3) := by decide +kernel
theorem dX4_remember_63 : decode cX4_remember 63 = .ok (.iload_n 2, 1) := by decide +kernel
theorem dX4_remember_64 : decode cX4_remember 64 = .ok (.iastore, 1) := by decide +kernel
theorem dX4_remember_65 : decode cX4_remember 65 = .ok (.aload_n 0, 1) := by decide +kernel
theorem dX4_remember_66 : decode cX4_remember 66 = .ok (.dup, 1) := by decide +kernel
theorem dX4_remember_67 : decode cX4_remember 67 = .ok (.getfield 16, 3) := by decide +kernel
theorem dX4_remember_70 : decode cX4_remember 70 = .ok (.iconst 1, 1) := by decide +kernel
theorem dX4_remember_71 : decode cX4_remember 71 = .ok (.iadd, 1) := by decide +kernel
theorem dX4_remember_72 : decode cX4_remember 72 = .ok (.putfield 16, 3) := by decide +kernel
theorem dX4_remember_75 : decode cX4_remember 75 = .ok (.return_, 1) := by decide +kernel
theorem dX4_takeBack_0 : decode cX4_takeBack 0 = .ok (.aload_n 0, 1) := by decide +kernel
theorem dX4_takeBack_1 : decode cX4_takeBack 1 = .ok (.getfield 16, 3) := by decide +kernel
theorem dX4_takeBack_4 : decode cX4_takeBack 4 = .ok (.ifCond .gt 5, 3) := by decide +kernel
theorem dX4_takeBack_7 : decode cX4_takeBack 7 = .ok (.iconst 0, 1) := by decide +kernel
theorem dX4_takeBack_8 : decode cX4_takeBack 8 = .ok (.ireturn, 1) := by decide +kernel
theorem dX4_takeBack_9 : decode cX4_takeBack 9 = .ok (.aload_n 0, 1) := by decide +kernel
theorem dX4_takeBack_10 : decode cX4_takeBack 10 = .ok (.dup, 1) := by decide +kernel
theorem dX4_takeBack_11 : decode cX4_takeBack 11 = .ok (.getfield 16, 3) := by decide +kernel
theorem dX4_takeBack_14 : decode cX4_takeBack 14 = .ok (.iconst 1, 1) := by decide +kernel
theorem dX4_takeBack_15 : decode cX4_takeBack 15 = .ok (.isub, 1) := by decide +kernel
theorem dX4_takeBack_16 : decode cX4_takeBack 16 = .ok (.putfield 16, 3) := by decide +kernel
theorem dX4_takeBack_19 : decode cX4_takeBack 19 = .ok (.aload_n 0, 1) := by decide +kernel
theorem dX4_takeBack_20 : decode cX4_takeBack 20 = .ok (.getfield 9, 3) := by decide +kernel
theorem dX4_takeBack_23 : decode cX4_takeBack 23 = .ok (.aload_n 0, 1) := by decide +kernel
theorem dX4_takeBack_24 : decode cX4_takeBack 24 = .ok (.getfield 16, 3) := by decide +kernel
theorem dX4_takeBack_27 : decode cX4_takeBack 27 = .ok (.iaload, 1) := by decide +kernel
theorem dX4_takeBack_28 : decode cX4_takeBack 28 = .ok (.istore_n 2, 1) := by decide +kernel
theorem dX4_takeBack_29 : decode cX4_takeBack 29 = .ok (.aload_n 0, 1) := by decide +kernel
theorem dX4_takeBack_30 : decode cX4_takeBack 30 = .ok (.getfield 13, 3) := by decide +kernel
theorem dX4_takeBack_33 : decode cX4_takeBack 33 = .ok (.aload_n 0, 1) := by decide +kernel
theorem dX4_takeBack_34 : decode cX4_takeBack 34 = .ok (.getfield 16, 3) := by decide +kernel
theorem dX4_takeBack_37 : decode cX4_takeBack 37 = .ok (.iaload, 1) := by decide +kernel
theorem dX4_takeBack_38 : decode cX4_takeBack 38 = .ok (.iconst (-1), 1) := by decide +kernel
theorem dX4_takeBack_39 : decode cX4_takeBack 39 = .ok (.if_icmp .ne 18, 3) := by decide +kernel
theorem dX4_takeBack_42 : decode cX4_takeBack 42 = .ok (.aload_n 1, 1) := by decide +kernel
theorem dX4_takeBack_43 : decode cX4_takeBack 43 = .ok (.dup, 1) := by decide +kernel
theorem dX4_takeBack_44 : decode cX4_takeBack 44 = .ok (.getfield 26, 3) := by decide +kernel
theorem dX4_takeBack_47 : decode cX4_takeBack 47 = .ok (.iconst 1, 1) := by decide +kernel
theorem dX4_takeBack_48 : decode cX4_takeBack 48 = .ok (.iload_n 2, 1) := by decide +kernel
theorem dX4_takeBack_49 : decode cX4_takeBack 49 = .ok (.ishl, 1) := by decide +kernel
theorem dX4_takeBack_50 : decode cX4_takeBack 50 = .ok (.ixor, 1) := by decide +kernel
theorem dX4_takeBack_51 : decode cX4_takeBack 51 = .ok (.putfield 26, 3) := by decide +kernel
theorem dX4_takeBack_54 : decode cX4_takeBack 54 = .ok (.goto 18, 3) := by decide +kernel
theorem dX4_takeBack_57 : decode cX4_takeBack 57 = .ok (.aload_n 1, 1) := by decide +kernel
theorem dX4_takeBack_58 : decode cX4_takeBack 58 = .ok (.getfield 31, 3) := by decide +kernel
theorem dX4_takeBack_61 : decode cX4_takeBack 61 = .ok (.iload_n 2, 1) := by decide +kernel
theorem dX4_takeBack_62 : decode cX4_takeBack 62 = .ok (.aload_n 0, 1) := by decide +kernel
theorem dX4_takeBack_63 : decode cX4_takeBack 63 = .ok (.getfield 13, 3) := by decide +kernel
theorem dX4_takeBack_66 : decode cX4_takeBack 66 = .ok (.aload_n 0, 1) := by decide +kernel
theorem dX4_takeBack_67 : decode cX4_takeBack 67 = .ok (.getfield 16, 3) := by decide +kernel
theorem dX4_takeBack_70 : decode cX4_takeBack 70 = .ok (.iaload, 1) := by decide +kernel
theorem dX4_takeBack_71 : decode cX4_takeBack 71 = .ok (.iastore, 1) := by decide +kernel
theorem dX4_takeBack_72 : decode cX4_takeBack 72 = .ok (.iconst 1, 1) := by decide +kernel
theorem dX4_takeBack_73 : decode cX4_takeBack 73 = .ok (.ireturn, 1) := by decide +kernel
theorem dX5_init_0 : decode cX5_init 0 = .ok (.aload_n 0, 1) := by decide +kernel
theorem dX5_init_1 : decode cX5_init 1 = .ok (.invokespecial 3, 3) := by decide +kernel
theorem dX5_init_4 : decode cX5_init 4 = .ok (.aload_n 0, 1) := by decide +kernel
theorem dX5_init_5 : decode cX5_init 5 = .ok (.sipush 1000, 3) := by decide +kernel
theorem dX5_init_8 : decode cX5_init 8 = .ok (.newarray .boolean, 2) := by decide +kernel
theorem dX5_init_10 : decode cX5_init 10 = .ok (.putfield 9, 3) := by decide +kernel
theorem dX5_init_13 : decode cX5_init 13 = .ok (.aload_n 0, 1) := by decide +kernel
theorem dX5_init_14 : decode cX5_init 14 = .ok (.iconst (-1), 1) := by decide +kernel
theorem dX5_init_15 : decode cX5_init 15 = .ok (.putfield 15, 3) := by decide +kernel
theorem dX5_init_18 : decode cX5_init 18 = .ok (.aload_n 0, 1) := by decide +kernel
theorem dX5_init_19 : decode cX5_init 19 = .ok (.iconst 0, 1) := by decide +kernel
theorem dX5_init_20 : decode cX5_init 20 = .ok (.putfield 19, 3) := by decide +kernel
theorem dX5_init_23 : decode cX5_init 23 = .ok (.aload_n 0, 1) := by decide +kernel
theorem dX5_init_24 : decode cX5_init 24 = .ok (.iconst 0, 1) := by decide +kernel
theorem dX5_init_25 : decode cX5_init 25 = .ok (.putfield 22, 3) := by decide +kernel
theorem dX5_init_28 : decode cX5_init 28 = .ok (.aload_n 0, 1) := by decide +kernel
theorem dX5_init_29 : decode cX5_init 29 = .ok (.iconst 0, 1) := by decide +kernel
theorem dX5_init_30 : decode cX5_init 30 = .ok (.putfield 25, 3) := by decide +kernel
theorem dX5_init_33 : decode cX5_init 33 = .ok (.aload_n 0, 1) := by decide +kernel
theorem dX5_init_34 : decode cX5_init 34 = .ok (.iconst 0, 1) := by decide +kernel
theorem dX5_init_35 : decode cX5_init 35 = .ok (.putfield 28, 3) := by decide +kernel
theorem dX5_init_38 : decode cX5_init 38 = .ok (.aload_n 0, 1) := by decide +kernel
theorem dX5_init_39 : decode cX5_init 39 = .ok (.iconst 0, 1) := by decide +kernel
theorem dX5_init_40 : decode cX5_init 40 = .ok (.putfield 31, 3) := by decide +kernel
theorem dX5_init_43 : decode cX5_init 43 = .ok (.return_, 1) := by decide +kernel
theorem dX5_find_0 : decode cX5_find 0 = .ok (.aload_n 0, 1) := by decide +kernel
theorem dX5_find_1 : decode cX5_find 1 = .ok (.iload_n 2, 1) := by decide +kernel
theorem dX5_find_2 : decode cX5_find 2 = .ok (.invokevirtual 34, 3) := by decide +kernel
theorem dX5_find_5 : decode cX5_find 5 = .ok (.aload_n 0, 1) := by decide +kernel
theorem dX5_find_6 : decode cX5_find 6 = .ok (.iconst 0, 1) := by decide +kernel
theorem dX5_find_7 : decode cX5_find 7 = .ok (.putfield 19, 3) := by decide +kernel
theorem dX5_find_10 : decode cX5_find 10 = .ok (.aload_n 0, 1) := by decide +kernel
theorem dX5_find_11 : decode cX5_find 11 = .ok (.getfield 9, 3) := by decide +kernel
theorem dX5_find_14 : decode cX5_find 14 = .ok (.iload_n 1, 1) := by decide +kernel
theorem dX5_find_15 : decode cX5_find 15 = .ok (.baload, 1) := by decide +kernel
theorem dX5_find_16 : decode cX5_find 16 = .ok (.ifCond .eq 10, 3) := by decide +kernel
theorem dX5_find_19 : decode cX5_find 19 = .ok (.aload_n 0, 1) := by decide +kernel
theorem dX5_find_20 : decode cX5_find 20 = .ok (.iconst 0, 1) := by decide +kernel
theorem dX5_find_21 : decode cX5_find 21 = .ok (.iload_n 1, 1) := by decide +kernel
theorem dX5_find_22 : decode cX5_find 22 = .ok (.iconst 0, 1) := by decide +kernel
theorem dX5_find_23 : decode cX5_find 23 = .ok (.invokevirtual 38, 3) := by decide +kernel
theorem dX5_find_26 : decode cX5_find 26 = .ok (.iconst 0, 1) := by decide +kernel
theorem dX5_find_27 : decode cX5_find 27 = .ok (.istore_n 3, 1) := by decide +kernel
theorem dX5_find_28 : decode cX5_find 28 = .ok (.iload_n 3, 1) := by decide +kernel
theorem dX5_find_29 : decode cX5_find 29 = .ok (.iload_n 1, 1) := by decide +kernel
theorem dX5_find_30 : decode cX5_find 30 = .ok (.iload_n 3, 1) := by decide +kernel
theorem dX5_find_31 : decode cX5_find 31 = .ok (.isub, 1) := by decide +kernel
theorem dX5_find_32 : decode cX5_find 32 = .ok (.if_icmp .gt 18, 3) := by decide +kernel
theorem dX5_find_35 : decode cX5_find 35 = .ok (.aload_n 0, 1) := by decide +kernel
theorem dX5_find_36 : decode cX5_find 36 = .ok (.iconst 1, 1) := by decide +kernel
theorem dX5_find_37 : decode cX5_find 37 = .ok (.iload_n 3, 1) := by decide +kernel
theorem dX5_find_38 : decode cX5_find 38 = .ok (.iload_n 1, 1) := by decide +kernel
theorem dX5_find_39 : decode cX5_find 39 = .ok (.iload_n 3, 1) := by decide +kernel
theorem dX5_find_40 : decode cX5_find 40 = .ok (.isub, 1) := by decide +kernel
theorem dX5_find_41 : decode cX5_find 41 = .ok (.invokevirtual 42, 3) := by decide +kernel
theorem dX5_find_44 : decode cX5_find 44 = .ok (.iinc 3 1, 3) := by decide +kernel
theorem dX5_find_47 : decode cX5_find 47 = .ok (.goto (-19), 3) := by decide +kernel
theorem dX5_find_50 : decode cX5_find 50 = .ok (.iconst 1, 1) := by decide +kernel
theorem dX5_find_51 : decode cX5_find 51 = .ok (.istore_n 3, 1) := by decide +kernel
theorem dX5_find_52 : decode cX5_find 52 = .ok (.iload_n 1, 1) := by decide +kernel
theorem dX5_find_53 : decode cX5_find 53 = .ok (.iload_n 3, 1) := by decide +kernel
theorem dX5_find_54 : decode cX5_find 54 = .ok (.iadd, 1) := by decide +kernel
theorem dX5_find_55 : decode cX5_find 55 = .ok (.sipush 999, 3) := by decide +kernel
theorem dX5_find_58 : decode cX5_find 58 = .ok (.if_icmp .gt 18, 3) := by decide +kernel
theorem dX5_find_61 : decode cX5_find 61 = .ok (.aload_n 0, 1) := by decide +kernel
theorem dX5_find_62 : decode cX5_find 62 = .ok (.iconst 2, 1) := by decide +kernel
theorem dX5_find_63 : decode cX5_find 63 = .ok (.iload_n 1, 1) := by decide +kernel
theorem dX5_find_64 : decode cX5_find 64 = .ok (.iload_n 3, 1) := by decide +kernel
theorem dX5_find_65 : decode cX5_find 65 = .ok (.iadd, 1) := by decide +kernel
theorem dX5_find_66 : decode cX5_find 66 = .ok (.iload_n 3, 1) := by decide +kernel
theorem dX5_find_67 : decode cX5_find 67 = .ok (.invokevirtual 42, 3) := by decide +kernel
theorem dX5_find_70 : decode cX5_find 70 = .ok (.iinc 3 1, 3) := by decide +kernel
theorem dX5_find_73 : decode cX5_find 73 = .ok (.goto (-21), 3) := by decide +kernel
theorem dX5_find_76 : decode cX5_find 76 = .ok (.iload_n 1, 1) := by decide +kernel
theorem dX5_find_77 : decode cX5_find 77 = .ok (.ifCond .ne 25, 3) := by decide +kernel
theorem dX5_find_80 : decode cX5_find 80 = .ok (.iconst 0, 1) := by decide +kernel
theorem dX5_find_81 : decode cX5_find 81 = .ok (.istore_n 3, 1) := by decide +kernel
theorem dX5_find_82 : decode cX5_find 82 = .ok (.iload_n 3, 1) := by decide +kernel
theorem dX5_find_83 : decode cX5_find 83 = .ok (.sipush 999, 3) := by decide +kernel
theorem dX5_find_86 : decode cX5_find 86 = .ok (.if_icmp .gt 16, 3) := by decide +kernel
theorem dX5_find_89 : decode cX5_find 89 = .ok (.aload_n 0, 1) := by decide +kernel
theorem dX5_find_90 : decode cX5_find 90 = .ok (.iconst 3, 1) := by decide +kernel
theorem dX5_find_91 : decode cX5_find 91 = .ok (.iconst 0, 1) := by decide +kernel
theorem dX5_find_92 : decode cX5_find 92 = .ok (.iload_n 3, 1) := by decide +kernel
theorem dX5_find_93 : decode cX5_find 93 = .ok (.invokevirtual 42, 3) := by decide +kernel
theorem dX5_find_96 : decode cX5_find 96 = .ok (.iinc 3 1, 3) := by decide +kernel
theorem dX5_find_99 : decode cX5_find 99 = .ok (.goto (-17), 3) := by decide +kernel
theorem dX5_find_102 : decode cX5_find 102 = .ok (.iconst 1, 1) := by decide +kernel
theorem dX5_find_103 : decode cX5_find 103 = .ok (.istore_n 3, 1) := by decide +kernel
theorem dX5_find_104 : decode cX5_find 104 = .ok (.iload_n 3, 1) := by decide +kernel
theorem dX5_find_105 : decode cX5_find 105 = .ok (.iload_n 3, 1) := by decide +kernel
theorem dX5_find_106 : decode cX5_find 106 = .ok (.imul, 1) := by decide +kernel
theorem dX5_find_107 : decode cX5_find 107 = .ok (.iload_n 1, 1) := by decide +kernel
theorem dX5_find_108 : decode cX5_find 108 = .ok (.if_icmp .gt 24, 3) := by decide +kernel
theorem dX5_find_111 : decode cX5_find 111 = .ok (.iload_n 1, 1) := by decide +kernel
theorem dX5_find_112 : decode cX5_find 112 = .ok (.iload_n 3, 1) := by decide +kernel
theorem dX5_find_113 : decode cX5_find 113 = .ok (.irem, 1) := by decide +kernel
theorem dX5_find_114 : decode cX5_find 114 = .ok (.ifCond .ne 12, 3) := by decide +kernel
theorem dX5_find_117 : decode cX5_find 117 = .ok (.aload_n 0, 1) := by decide +kernel
theorem dX5_find_118 : decode cX5_find 118 = .ok (.iconst 3, 1) := by decide +kernel
theorem dX5_find_119 : decode cX5_find 119 = .ok (.iload_n 3, 1) := by decide +kernel
theorem dX5_find_120 : decode cX5_find 120 = .ok (.iload_n 1, 1) := by decide +kernel
theorem dX5_find_121 : decode cX5_find 121 = .ok (.iload_n 3, 1) := by decide +kernel
theorem dX5_find_122 : decode cX5_find 122 = .ok (.idiv, 1) := by decide +kernel
theorem dX5_find_123 : decode cX5_find 123 = .ok (.invokevirtual 42, 3) := by decide +kernel
theorem dX5_find_126 : decode cX5_find 126 = .ok (.iinc 3 1, 3) := by decide +kernel
theorem dX5_find_129 : decode cX5_find 129 = .ok (.goto (-25), 3) := by decide +kernel
theorem dX5_find_132 : decode cX5_find 132 = .ok (.return_, 1) := by decide +kernel
theorem dX5_fillRow_0 : decode cX5_fillRow 0 = .ok (.aload_n 0, 1) := by decide +kernel
theorem dX5_fillRow_1 : decode cX5_fillRow 1 = .ok (.getfield 15, 3) := by decide +kernel
theorem dX5_fillRow_4 : decode cX5_fillRow 4 = .ok (.iload_n 1, 1) := by decide +kernel
theorem dX5_fillRow_5 : decode cX5_fillRow 5 = .ok (.if_icmp .ne 4, 3) := by decide +kernel
theorem dX5_fillRow_8 : decode cX5_fillRow 8 = .ok (.return_, 1) := by decide +kernel
theorem dX5_fillRow_9 : decode cX5_fillRow 9 = .ok (.aload_n 0, 1) := by decide +kernel
theorem dX5_fillRow_10 : decode cX5_fillRow 10 = .ok (.iload_n 1, 1) := by decide +kernel
theorem dX5_fillRow_11 : decode cX5_fillRow 11 = .ok (.putfield 15, 3) := by decide +kernel
theorem dX5_fillRow_14 : decode cX5_fillRow 14 = .ok (.iconst 0, 1) := by decide +kernel
theorem dX5_fillRow_15 : decode cX5_fillRow 15 = .ok (.istore_n 2, 1) := by decide +kernel
theorem dX5_fillRow_16 : decode cX5_fillRow 16 = .ok (.iload_n 2, 1) := by decide +kernel
theorem dX5_fillRow_17 : decode cX5_fillRow 17 = .ok (.sipush 999, 3) := by decide +kernel
theorem dX5_fillRow_20 : decode cX5_fillRow 20 = .ok (.if_icmp .gt 20, 3) := by decide +kernel
theorem dX5_fillRow_23 : decode cX5_fillRow 23 = .ok (.aload_n 0, 1) := by decide +kernel
theorem dX5_fillRow_24 : decode cX5_fillRow 24 = .ok (.getfield 9, 3) := by decide +kernel
theorem dX5_fillRow_27 : decode cX5_fillRow 27 = .ok (.iload_n 2, 1) := by decide +kernel
theorem dX5_fillRow_28 : decode cX5_fillRow 28 = .ok (.iload_n 1, 1) := by decide +kernel
theorem dX5_fillRow_29 : decode cX5_fillRow 29 = .ok (.iload_n 2, 1) := by decide +kernel
theorem dX5_fillRow_30 : decode cX5_fillRow 30 = .ok (.invokestatic 45, 3) := by decide +kernel
theorem dX5_fillRow_33 : decode cX5_fillRow 33 = .ok (.bastore, 1) := by decide +kernel
theorem dX5_fillRow_34 : decode cX5_fillRow 34 = .ok (.iinc 2 1, 3) := by decide +kernel
theorem dX5_fillRow_37 : decode cX5_fillRow 37 = .ok (.goto (-21), 3) := by decide +kernel
theorem dX5_fillRow_40 : decode cX5_fillRow 40 = .ok (.return_, 1) := by decide +kernel
theorem dX5_takeIfSaid_0 : decode cX5_takeIfSaid 0 = .ok (.aload_n 0, 1) := by decide +kernel
theorem dX5_takeIfSaid_1 : decode cX5_takeIfSaid 1 = .ok (.getfield 9, 3) := by decide +kernel
theorem dX5_takeIfSaid_4 : decode cX5_takeIfSaid 4 = .ok (.iload_n 2, 1) := by decide +kernel
theorem dX5_takeIfSaid_5 : decode cX5_takeIfSaid 5 = .ok (.baload, 1) := by decide +kernel
theorem dX5_takeIfSaid_6 : decode cX5_takeIfSaid 6 = .ok (.ifCond .eq 19, 3) := by decide +kernel
theorem dX5_takeIfSaid_9 : decode cX5_takeIfSaid 9 = .ok (.aload_n 0, 1) := by decide +kernel
theorem dX5_takeIfSaid_10 : decode cX5_takeIfSaid 10 = .ok (.getfield 9, 3) := by decide +kernel
theorem dX5_takeIfSaid_13 : decode cX5_takeIfSaid 13 = .ok (.iload_n 3, 1) := by decide +kernel
theorem dX5_takeIfSaid_14 : decode cX5_takeIfSaid 14 = .ok (.baload, 1) := by decide +kernel
theorem dX5_takeIfSaid_15 : decode cX5_takeIfSaid 15 = .ok (.ifCond .eq 10, 3) := by decide +kernel
theorem dX5_takeIfSaid_18 : decode cX5_takeIfSaid 18 = .ok (.aload_n 0, 1) := by decide +kernel
theorem dX5_takeIfSaid_19 : decode cX5_takeIfSaid 19 = .ok (.iload_n 1, 1) := by decide +kernel
theorem dX5_takeIfSaid_20 : decode cX5_takeIfSaid 20 = .ok (.iload_n 2, 1) := by decide +kernel
theorem dX5_takeIfSaid_21 : decode cX5_takeIfSaid 21 = .ok (.iload_n 3, 1) := by decide +kernel
theorem dX5_takeIfSaid_22 : decode cX5_takeIfSaid 22 = .ok (.invokevirtual 38, 3) := by decide +kernel
theorem dX5_takeIfSaid_25 : decode cX5_takeIfSaid 25 = .ok (.return_, 1) := by decide +kernel
theorem dX5_take_0 : decode cX5_take 0 = .ok (.iload_n 2, 1) := by decide +kernel
theorem dX5_take_1 : decode cX5_take 1 = .ok (.invokestatic 50, 3) := by decide +kernel
theorem dX5_take_4 : decode cX5_take 4 = .ok (.istore 4, 2) := by decide +kernel
theorem dX5_take_6 : decode cX5_take 6 = .ok (.iload_n 1, 1) := by decide +kernel
theorem dX5_take_7 : decode cX5_take 7 = .ok (.ifCond .eq 14, 3) := by decide +kernel
theorem dX5_take_10 : decode cX5_take 10 = .ok (.iload 4, 2) := by decide +kernel
theorem dX5_take_12 : decode cX5_take 12 = .ok (.iconst 1, 1) := by decide +kernel
theorem dX5_take_13 : decode cX5_take 13 = .ok (.iload_n 3, 1) := by decide +kernel
theorem dX5_take_14 : decode cX5_take 14 = .ok (.invokestatic 50, 3) := by decide +kernel
theorem dX5_take_17 : decode cX5_take 17 = .ok (.iadd, 1) := by decide +kernel
theorem dX5_take_18 : decode cX5_take 18 = .ok (.iadd, 1) := by decide +kernel
theorem dX5_take_19 : decode cX5_take 19 = .ok (.istore 4, 2) := by decide +kernel
theorem dX5_take_21 : decode cX5_take 21 = .ok (.aload_n 0, 1) := by decide +kernel
theorem dX5_take_22 : decode cX5_take 22 = .ok (.getfield 19, 3) := by decide +kernel
theorem dX5_take_25 : decode cX5_take 25 = .ok (.ifCond .eq 12, 3) := by decide +kernel
theorem dX5_take_28 : decode cX5_take 28 = .ok (.iload 4, 2) := by decide +kernel
theorem dX5_take_30 : decode cX5_take 30 = .ok (.aload_n 0, 1) := by decide +kernel
theorem dX5_take_31 : decode cX5_take 31 = .ok (.getfield 22, 3) := by decide +kernel
theorem dX5_take_34 : decode cX5_take 34 = .ok (.if_icmp .ge 24, 3) := by decide +kernel
theorem dX5_take_37 : decode cX5_take 37 = .ok (.aload_n 0, 1) := by decide +kernel
theorem dX5_take_38 : decode cX5_take 38 = .ok (.iload 4, 2) := by decide +kernel
theorem dX5_take_40 : decode cX5_take 40 = .ok (.putfield 22, 3) := by decide +kernel
theorem dX5_take_43 : decode cX5_take 43 = .ok (.aload_n 0, 1) := by decide +kernel
theorem dX5_take_44 : decode cX5_take 44 = .ok (.iload_n 1, 1) := by decide +kernel
theorem dX5_take_45 : decode cX5_take 45 = .ok (.putfield 25, 3) := by decide +kernel
theorem dX5_take_48 : decode cX5_take 48 = .ok (.aload_n 0, 1) := by decide +kernel
theorem dX5_take_49 : decode cX5_take 49 = .ok (.iload_n 2, 1) := by decide +kernel
theorem dX5_take_50 : decode cX5_take 50 = .ok (.putfield 28, 3) := by decide +kernel
theorem dX5_take_53 : decode cX5_take 53 = .ok (.aload_n 0, 1) := by decide +kernel
theorem dX5_take_54 : decode cX5_take 54 = .ok (.iload_n 3, 1) := by decide +kernel
theorem dX5_take_55 : decode cX5_take 55 = .ok (.putfield 31, 3) := by decide +kernel
theorem dX5_take_58 : decode cX5_take 58 = .ok (.aload_n 0, 1) := by decide +kernel
theorem dX5_take_59 : decode cX5_take 59 = .ok (.dup, 1) := by decide +kernel
theorem dX5_take_60 : decode cX5_take 60 = .ok (.getfield 19, 3) := by decide +kernel
theorem dX5_take_63 : decode cX5_take 63 = .ok (.iconst 1, 1) := by decide +kernel
theorem dX5_take_64 : decode cX5_take 64 = .ok (.iadd, 1) := by decide +kernel
theorem dX5_take_65 : decode cX5_take 65 = .ok (.putfield 19, 3) := by decide +kernel
theorem dX5_take_68 : decode cX5_take 68 = .ok (.return_, 1) := by decide +kernel
theorem dX6_init_0 : decode cX6_init 0 = .ok (.aload_n 0, 1) := by decide +kernel
theorem dX6_init_1 : decode cX6_init 1 = .ok (.invokespecial 1, 3) := by decide +kernel
theorem dX6_init_4 : decode cX6_init 4 = .ok (.aload_n 0, 1) := by decide +kernel
theorem dX6_init_5 : decode cX6_init 5 = .ok (.bipush 20, 2) := by decide +kernel
theorem dX6_init_7 : decode cX6_init 7 = .ok (.newarray .byte, 2) := by decide +kernel
theorem dX6_init_9 : decode cX6_init 9 = .ok (.putfield 9, 3) := by decide +kernel
theorem dX6_init_12 : decode cX6_init 12 = .ok (.aload_n 0, 1) := by decide +kernel
theorem dX6_init_13 : decode cX6_init 13 = .ok (.iconst 0, 1) := by decide +kernel
theorem dX6_init_14 : decode cX6_init 14 = .ok (.putfield 13, 3) := by decide +kernel
theorem dX6_init_17 : decode cX6_init 17 = .ok (.return_, 1) := by decide +kernel
theorem dX6_append_0 : decode cX6_append 0 = .ok (.aload_n 0, 1) := by decide +kernel
theorem dX6_append_1 : decode cX6_append 1 = .ok (.getfield 13, 3) := by decide +kernel
theorem dX6_append_4 : decode cX6_append 4 = .ok (.bipush 20, 2) := by decide +kernel
theorem dX6_append_6 : decode cX6_append 6 = .ok (.if_icmp .ge 24, 3) := by decide +kernel
theorem dX6_append_9 : decode cX6_append 9 = .ok (.aload_n 0, 1) := by decide +kernel
theorem dX6_append_10 : decode cX6_append 10 = .ok (.getfield 9, 3) := by decide +kernel
theorem dX6_append_13 : decode cX6_append 13 = .ok (.aload_n 0, 1) := by decide +kernel
theorem dX6_append_14 : decode cX6_append 14 = .ok (.getfield 13, 3) := by decide +kernel
theorem dX6_append_17 : decode cX6_append 17 = .ok (.iload_n 1, 1) := by decide +kernel
theorem dX6_append_18 : decode cX6_append 18 = .ok (.i2b, 1) := by decide +kernel
theorem dX6_append_19 : decode cX6_append 19 = .ok (.bastore, 1) := by decide +kernel
theorem dX6_append_20 : decode cX6_append 20 = .ok (.aload_n 0, 1) := by decide +kernel
theorem dX6_append_21 : decode cX6_append 21 = .ok (.dup, 1) := by decide +kernel
theorem dX6_append_22 : decode cX6_append 22 = .ok (.getfield 13, 3) := by decide +kernel
theorem dX6_append_25 : decode cX6_append 25 = .ok (.iconst 1, 1) := by decide +kernel
theorem dX6_append_26 : decode cX6_append 26 = .ok (.iadd, 1) := by decide +kernel
theorem dX6_append_27 : decode cX6_append 27 = .ok (.putfield 13, 3) := by decide +kernel
theorem dX6_append_30 : decode cX6_append 30 = .ok (.return_, 1) := by decide +kernel
theorem dX6_isSign_0 : decode cX6_isSign 0 = .ok (.iload_n 0, 1) := by decide +kernel
theorem dX6_isSign_1 : decode cX6_isSign 1 = .ok (.bipush 43, 2) := by decide +kernel
theorem dX6_isSign_3 : decode cX6_isSign 3 = .ok (.if_icmp .eq 15, 3) := by decide +kernel
theorem dX6_isSign_6 : decode cX6_isSign 6 = .ok (.iload_n 0, 1) := by decide +kernel
theorem dX6_isSign_7 : decode cX6_isSign 7 = .ok (.bipush 45, 2) := by decide +kernel
theorem dX6_isSign_9 : decode cX6_isSign 9 = .ok (.if_icmp .eq 9, 3) := by decide +kernel
theorem dX6_isSign_12 : decode cX6_isSign 12 = .ok (.iload_n 0, 1) := by decide +kernel
theorem dX6_isSign_13 : decode cX6_isSign 13 = .ok (.bipush 42, 2) := by decide +kernel
theorem dX6_isSign_15 : decode cX6_isSign 15 = .ok (.if_icmp .ne 7, 3) := by decide +kernel
theorem dX6_isSign_18 : decode cX6_isSign 18 = .ok (.iconst 1, 1) := by decide +kernel
theorem dX6_isSign_19 : decode cX6_isSign 19 = .ok (.goto 4, 3) := by decide +kernel
theorem dX6_isSign_22 : decode cX6_isSign 22 = .ok (.iconst 0, 1) := by decide +kernel
theorem dX6_isSign_23 : decode cX6_isSign 23 = .ok (.ireturn, 1) := by decide +kernel
theorem dX6_numbers_0 : decode cX6_numbers 0 = .ok (.aload_n 0, 1) := by decide +kernel
theorem dX6_numbers_1 : decode cX6_numbers 1 = .ok (.getfield 13, 3) := by decide +kernel
theorem dX6_numbers_4 : decode cX6_numbers 4 = .ok (.ifCond .le 7, 3) := by decide +kernel
theorem dX6_numbers_7 : decode cX6_numbers 7 = .ok (.iconst 1, 1) := by decide +kernel
theorem dX6_numbers_8 : decode cX6_numbers 8 = .ok (.goto 4, 3) := by decide +kernel
theorem dX6_numbers_11 : decode cX6_numbers 11 = .ok (.iconst 0, 1) := by decide +kernel
theorem dX6_numbers_12 : decode cX6_numbers 12 = .ok (.istore_n 1, 1) := by decide +kernel
theorem dX6_numbers_13 : decode cX6_numbers 13 = .ok (.iconst 0, 1) := by decide +kernel
theorem dX6_numbers_14 : decode cX6_numbers 14 = .ok (.istore_n 2, 1) := by decide +kernel
theorem dX6_numbers_15 : decode cX6_numbers 15 = .ok (.iload_n 2, 1) := by decide +kernel
theorem dX6_numbers_16 : decode cX6_numbers 16 = .ok (.aload_n 0, 1) := by decide +kernel
theorem dX6_numbers_17 : decode cX6_numbers 17 = .ok (.getfield 13, 3) := by decide +kernel
theorem dX6_numbers_20 : decode cX6_numbers 20 = .ok (.if_icmp .ge 24, 3) := by decide +kernel
theorem dX6_numbers_23 : decode cX6_numbers 23 = .ok (.aload_n 0, 1) := by decide +kernel
theorem dX6_numbers_24 : decode cX6_numbers 24 = .ok (.getfield 9, 3) := by decide +kernel
theorem dX6_numbers_27 : decode cX6_numbers 27 = .ok (.iload_n 2, 1) := by decide +kernel
theorem dX6_numbers_28 : decode cX6_numbers 28 = .ok (.baload, 1) := by decide +kernel
theorem dX6_numbers_29 : decode cX6_numbers 29 = .ok (.invokestatic 17, 3) := by decide +kernel
theorem dX6_numbers_32 : decode cX6_numbers 32 = .ok (.ifCond .eq 6, 3) := by decide +kernel
theorem dX6_numbers_35 : decode cX6_numbers 35 = .ok (.iinc 1 1, 3) := by decide +kernel
theorem dX6_numbers_38 : decode cX6_numbers 38 = .ok (.iinc 2 1, 3) := by decide +kernel
theorem dX6_numbers_41 : decode cX6_numbers 41 = .ok (.goto (-26), 3) := by decide +kernel
theorem dX6_numbers_44 : decode cX6_numbers 44 = .ok (.iload_n 1, 1) := by decide +kernel
theorem dX6_numbers_45 : decode cX6_numbers 45 = .ok (.ireturn, 1) := by decide +kernel
theorem dX6_comesTo_0 : decode cX6_comesTo 0 = .ok (.lconst 0, 1) := by decide +kernel
theorem dX6_comesTo_1 : decode cX6_comesTo 1 = .ok (.lstore_n 3, 1) := by decide +kernel
theorem dX6_comesTo_2 : decode cX6_comesTo 2 = .ok (.lconst 0, 1) := by decide +kernel
theorem dX6_comesTo_3 : decode cX6_comesTo 3 = .ok (.lstore 5, 2) := by decide +kernel
theorem dX6_comesTo_5 : decode cX6_comesTo 5 = .ok (.lconst 0, 1) := by decide +kernel
theorem dX6_comesTo_6 : decode cX6_comesTo 6 = .ok (.lstore 7, 2) := by decide +kernel
theorem dX6_comesTo_8 : decode cX6_comesTo 8 = .ok (.iconst 0, 1) := by decide +kernel
theorem dX6_comesTo_9 : decode cX6_comesTo 9 = .ok (.istore 9, 2) := by decide +kernel
theorem dX6_comesTo_11 : decode cX6_comesTo 11 = .ok (.iconst 0, 1) := by decide +kernel
theorem dX6_comesTo_12 : decode cX6_comesTo 12 = .ok (.istore 10, 2) := by decide +kernel
theorem dX6_comesTo_14 : decode cX6_comesTo 14 = .ok (.iconst 0, 1) := by decide +kernel
theorem dX6_comesTo_15 : decode cX6_comesTo 15 = .ok (.istore 11, 2) := by decide +kernel
theorem dX6_comesTo_17 : decode cX6_comesTo 17 = .ok (.iload 11, 2) := by decide +kernel
theorem dX6_comesTo_19 : decode cX6_comesTo 19 = .ok (.aload_n 0, 1) := by decide +kernel
theorem dX6_comesTo_20 : decode cX6_comesTo 20 = .ok (.getfield 13, 3) := by decide +kernel
theorem dX6_comesTo_23 : decode cX6_comesTo 23 = .ok (.if_icmp .gt 139, 3) := by decide +kernel
theorem dX6_comesTo_26 : decode cX6_comesTo 26 = .ok (.iload 11, 2) := by decide +kernel
theorem dX6_comesTo_28 : decode cX6_comesTo 28 = .ok (.aload_n 0, 1) := by decide +kernel
theorem dX6_comesTo_29 : decode cX6_comesTo 29 = .ok (.getfield 13, 3) := by decide +kernel
theorem dX6_comesTo_32 : decode cX6_comesTo 32 = .ok (.if_icmp .ge 13, 3) := by decide +kernel
theorem dX6_comesTo_35 : decode cX6_comesTo 35 = .ok (.aload_n 0, 1) := by decide +kernel
theorem dX6_comesTo_36 : decode cX6_comesTo 36 = .ok (.getfield 9, 3) := by decide +kernel
theorem dX6_comesTo_39 : decode cX6_comesTo 39 = .ok (.iload 11, 2) := by decide +kernel
theorem dX6_comesTo_41 : decode cX6_comesTo 41 = .ok (.baload, 1) := by decide +kernel
theorem dX6_comesTo_42 : decode cX6_comesTo 42 = .ok (.goto 5, 3) := by decide +kernel
theorem dX6_comesTo_45 : decode cX6_comesTo 45 = .ok (.bipush 43, 2) := by decide +kernel
theorem dX6_comesTo_47 : decode cX6_comesTo 47 = .ok (.istore 12, 2) := by decide +kernel
theorem dX6_comesTo_49 : decode cX6_comesTo 49 = .ok (.iload 12, 2) := by decide +kernel
theorem dX6_comesTo_51 : decode cX6_comesTo 51 = .ok (.invokestatic 17, 3) := by decide +kernel
theorem dX6_comesTo_54 : decode cX6_comesTo 54 = .ok (.ifCond .ne 26, 3) := by decide +kernel
theorem dX6_comesTo_57 : decode cX6_comesTo 57 = .ok (.lload 7, 2) := by decide +kernel
theorem dX6_comesTo_59 : decode cX6_comesTo 59 = .ok (.ldc2_w 21, 3) := by decide +kernel
theorem dX6_comesTo_62 : decode cX6_comesTo 62 = .ok (.lmul, 1) := by decide +kernel
theorem dX6_comesTo_63 : decode cX6_comesTo 63 = .ok (.iload 12, 2) := by decide +kernel
theorem dX6_comesTo_65 : decode cX6_comesTo 65 = .ok (.bipush 48, 2) := by decide +kernel
theorem dX6_comesTo_67 : decode cX6_comesTo 67 = .ok (.isub, 1) := by decide +kernel
theorem dX6_comesTo_68 : decode cX6_comesTo 68 = .ok (.iload_n 1, 1) := by decide +kernel
theorem dX6_comesTo_69 : decode cX6_comesTo 69 = .ok (.aload_n 2, 1) := by decide +kernel
theorem dX6_comesTo_70 : decode cX6_comesTo 70 = .ok (.invokestatic 23, 3) := by decide +kernel
theorem dX6_comesTo_73 : decode cX6_comesTo 73 = .ok (.i2l, 1) := by decide +kernel
theorem dX6_comesTo_74 : decode cX6_comesTo 74 = .ok (.ladd, 1) := by decide +kernel
theorem dX6_comesTo_75 : decode cX6_comesTo 75 = .ok (.lstore 7, 2) := by decide +kernel
theorem dX6_comesTo_77 : decode cX6_comesTo 77 = .ok (.goto 79, 3) := by decide +kernel
theorem dX6_comesTo_80 : decode cX6_comesTo 80 = .ok (.iload 9, 2) := by decide +kernel
theorem dX6_comesTo_82 : decode cX6_comesTo 82 = .ok (.ifCond .eq 14, 3) := by decide +kernel
theorem dX6_comesTo_85 : decode cX6_comesTo 85 = .ok (.lload 5, 2) := by decide +kernel
theorem dX6_comesTo_87 : decode cX6_comesTo 87 = .ok (.lload 7, 2) := by decide +kernel
theorem dX6_comesTo_89 : decode cX6_comesTo 89 = .ok (.lmul, 1) := by decide +kernel
theorem dX6_comesTo_90 : decode cX6_comesTo 90 = .ok (.invokestatic 29, 3) := by decide +kernel
theorem dX6_comesTo_93 : decode cX6_comesTo 93 = .ok (.goto 5, 3) := by decide +kernel
theorem dX6_comesTo_96 : decode cX6_comesTo 96 = .ok (.lload 7, 2) := by decide +kernel
theorem dX6_comesTo_98 : decode cX6_comesTo 98 = .ok (.lstore 5, 2) := by decide +kernel
theorem dX6_comesTo_100 : decode cX6_comesTo 100 = .ok (.lconst 0, 1) := by decide +kernel
theorem dX6_comesTo_101 : decode cX6_comesTo 101 = .ok (.lstore 7, 2) := by decide +kernel
theorem dX6_comesTo_103 : decode cX6_comesTo 103 = .ok (.iload 12, 2) := by decide +kernel
theorem dX6_comesTo_105 : decode cX6_comesTo 105 = .ok (.bipush 42, 2) := by decide +kernel
theorem dX6_comesTo_107 : decode cX6_comesTo 107 = .ok (.if_icmp .ne 7, 3) := by decide +kernel
theorem dX6_comesTo_110 : decode cX6_comesTo 110 = .ok (.iconst 1, 1) := by decide +kernel
theorem dX6_comesTo_111 : decode cX6_comesTo 111 = .ok (.goto 4, 3) := by decide +kernel
theorem dX6_comesTo_114 : decode cX6_comesTo 114 = .ok (.iconst 0, 1) := by decide +kernel
theorem dX6_comesTo_115 : decode cX6_comesTo 115 = .ok (.istore 9, 2) := by decide +kernel
theorem dX6_comesTo_117 : decode cX6_comesTo 117 = .ok (.iload 9, 2) := by decide +kernel
theorem dX6_comesTo_119 : decode cX6_comesTo 119 = .ok (.ifCond .ne 37, 3) := by decide +kernel
theorem dX6_comesTo_122 : decode cX6_comesTo 122 = .ok (.iload 10, 2) := by decide +kernel
theorem dX6_comesTo_124 : decode cX6_comesTo 124 = .ok (.ifCond .eq 10, 3) := by decide +kernel
theorem dX6_comesTo_127 : decode cX6_comesTo 127 = .ok (.lload_n 3, 1) := by decide +kernel
theorem dX6_comesTo_128 : decode cX6_comesTo 128 = .ok (.lload 5, 2) := by decide +kernel
theorem dX6_comesTo_130 : decode cX6_comesTo 130 = .ok (.lsub, 1) := by decide +kernel
theorem dX6_comesTo_131 : decode cX6_comesTo 131 = .ok (.goto 7, 3) := by decide +kernel
theorem dX6_comesTo_134 : decode cX6_comesTo 134 = .ok (.lload_n 3, 1) := by decide +kernel
theorem dX6_comesTo_135 : decode cX6_comesTo 135 = .ok (.lload 5, 2) := by decide +kernel
theorem dX6_comesTo_137 : decode cX6_comesTo 137 = .ok (.ladd, 1) := by decide +kernel
theorem dX6_comesTo_138 : decode cX6_comesTo 138 = .ok (.invokestatic 29, 3) := by decide +kernel
theorem dX6_comesTo_141 : decode cX6_comesTo 141 = .ok (.lstore_n 3, 1) := by decide +kernel
theorem dX6_comesTo_142 : decode cX6_comesTo 142 = .ok (.iload 12, 2) := by decide +kernel
theorem dX6_comesTo_144 : decode cX6_comesTo 144 = .ok (.bipush 45, 2) := by decide +kernel
theorem dX6_comesTo_146 : decode cX6_comesTo 146 = .ok (.if_icmp .ne 7, 3) := by decide +kernel
theorem dX6_comesTo_149 : decode cX6_comesTo 149 = .ok (.iconst 1, 1) := by decide +kernel
theorem dX6_comesTo_150 : decode cX6_comesTo 150 = .ok (.goto 4, 3) := by decide +kernel
theorem dX6_comesTo_153 : decode cX6_comesTo 153 = .ok (.iconst 0, 1) := by decide +kernel
theorem dX6_comesTo_154 : decode cX6_comesTo 154 = .ok (.istore 10, 2) := by decide +kernel
theorem dX6_comesTo_156 : decode cX6_comesTo 156 = .ok (.iinc 11 1, 3) := by decide +kernel
theorem dX6_comesTo_159 : decode cX6_comesTo 159 = .ok (.goto (-142), 3) := by decide +kernel
theorem dX6_comesTo_162 : decode cX6_comesTo 162 = .ok (.lload_n 3, 1) := by decide +kernel
theorem dX6_comesTo_163 : decode cX6_comesTo 163 = .ok (.l2i, 1) := by decide +kernel
theorem dX6_comesTo_164 : decode cX6_comesTo 164 = .ok (.ireturn, 1) := by decide +kernel
theorem dX6_keptWithin_0 : decode cX6_keptWithin 0 = .ok (.ldc2_w 33, 3) := by decide +kernel
theorem dX6_keptWithin_3 : decode cX6_keptWithin 3 = .ok (.ldc2_w 35, 3) := by decide +kernel
theorem dX6_keptWithin_6 : decode cX6_keptWithin 6 = .ok (.lload_n 0, 1) := by decide +kernel
theorem dX6_keptWithin_7 : decode cX6_keptWithin 7 = .ok (.invokestatic 37, 3) := by decide +kernel
theorem dX6_keptWithin_10 : decode cX6_keptWithin 10 = .ok (.invokestatic 43, 3) := by decide +kernel
theorem dX6_keptWithin_13 : decode cX6_keptWithin 13 = .ok (.lreturn, 1) := by decide +kernel
theorem dX7_init_0 : decode cX7_init 0 = .ok (.aload_n 0, 1) := by decide +kernel
theorem dX7_init_1 : decode cX7_init 1 = .ok (.invokespecial 1, 3) := by decide +kernel
theorem dX7_init_4 : decode cX7_init 4 = .ok (.aload_n 0, 1) := by decide +kernel
theorem dX7_init_5 : decode cX7_init 5 = .ok (.sipush 200, 3) := by decide +kernel
theorem dX7_init_8 : decode cX7_init 8 = .ok (.newarray .byte, 2) := by decide +kernel
theorem dX7_init_10 : decode cX7_init 10 = .ok (.putfield 9, 3) := by decide +kernel
theorem dX7_init_13 : decode cX7_init 13 = .ok (.aload_n 0, 1) := by decide +kernel
theorem dX7_init_14 : decode cX7_init 14 = .ok (.iconst 0, 1) := by decide +kernel
theorem dX7_init_15 : decode cX7_init 15 = .ok (.putfield 13, 3) := by decide +kernel
theorem dX7_init_18 : decode cX7_init 18 = .ok (.return_, 1) := by decide +kernel
theorem dX7_append_0 : decode cX7_append 0 = .ok (.aload_n 0, 1) := by decide +kernel
theorem dX7_append_1 : decode cX7_append 1 = .ok (.getfield 13, 3) := by decide +kernel
theorem dX7_append_4 : decode cX7_append 4 = .ok (.sipush 200, 3) := by decide +kernel
theorem dX7_append_7 : decode cX7_append 7 = .ok (.if_icmp .lt 5, 3) := by decide +kernel
theorem dX7_append_10 : decode cX7_append 10 = .ok (.iconst 0, 1) := by decide +kernel
theorem dX7_append_11 : decode cX7_append 11 = .ok (.ireturn, 1) := by decide +kernel
theorem dX7_append_12 : decode cX7_append 12 = .ok (.aload_n 0, 1) := by decide +kernel
theorem dX7_append_13 : decode cX7_append 13 = .ok (.getfield 9, 3) := by decide +kernel
theorem dX7_append_16 : decode cX7_append 16 = .ok (.aload_n 0, 1) := by decide +kernel
theorem dX7_append_17 : decode cX7_append 17 = .ok (.getfield 13, 3) := by decide +kernel
theorem dX7_append_20 : decode cX7_append 20 = .ok (.iload_n 1, 1) := by decide +kernel
theorem dX7_append_21 : decode cX7_append 21 = .ok (.i2b, 1) := by decide +kernel
theorem dX7_append_22 : decode cX7_append 22 = .ok (.bastore, 1) := by decide +kernel
theorem dX7_append_23 : decode cX7_append 23 = .ok (.aload_n 0, 1) := by decide +kernel
theorem dX7_append_24 : decode cX7_append 24 = .ok (.dup, 1) := by decide +kernel
theorem dX7_append_25 : decode cX7_append 25 = .ok (.getfield 13, 3) := by decide +kernel
theorem dX7_append_28 : decode cX7_append 28 = .ok (.iconst 1, 1) := by decide +kernel
theorem dX7_append_29 : decode cX7_append 29 = .ok (.iadd, 1) := by decide +kernel
theorem dX7_append_30 : decode cX7_append 30 = .ok (.putfield 13, 3) := by decide +kernel
theorem dX7_append_33 : decode cX7_append 33 = .ok (.iconst 1, 1) := by decide +kernel
theorem dX7_append_34 : decode cX7_append 34 = .ok (.ireturn, 1) := by decide +kernel
theorem dX7_copyFrom_0 : decode cX7_copyFrom 0 = .ok (.aload_n 0, 1) := by decide +kernel
theorem dX7_copyFrom_1 : decode cX7_copyFrom 1 = .ok (.invokevirtual 17, 3) := by decide +kernel
theorem dX7_copyFrom_4 : decode cX7_copyFrom 4 = .ok (.iconst 0, 1) := by decide +kernel
theorem dX7_copyFrom_5 : decode cX7_copyFrom 5 = .ok (.istore_n 2, 1) := by decide +kernel
theorem dX7_copyFrom_6 : decode cX7_copyFrom 6 = .ok (.iload_n 2, 1) := by decide +kernel
theorem dX7_copyFrom_7 : decode cX7_copyFrom 7 = .ok (.aload_n 1, 1) := by decide +kernel
theorem dX7_copyFrom_8 : decode cX7_copyFrom 8 = .ok (.invokevirtual 20, 3) := by decide +kernel
theorem dX7_copyFrom_11 : decode cX7_copyFrom 11 = .ok (.if_icmp .ge 19, 3) := by decide +kernel
theorem dX7_copyFrom_14 : decode cX7_copyFrom 14 = .ok (.aload_n 0, 1) := by decide +kernel
theorem dX7_copyFrom_15 : decode cX7_copyFrom 15 = .ok (.aload_n 1, 1) := by decide +kernel
theorem dX7_copyFrom_16 : decode cX7_copyFrom 16 = .ok (.iload_n 2, 1) := by decide +kernel
theorem dX7_copyFrom_17 : decode cX7_copyFrom 17 = .ok (.invokevirtual 25, 3) := by decide +kernel
theorem dX7_copyFrom_20 : decode cX7_copyFrom 20 = .ok (.invokevirtual 29, 3) := by decide +kernel
theorem dX7_copyFrom_23 : decode cX7_copyFrom 23 = .ok (.pop, 1) := by decide +kernel
theorem dX7_copyFrom_24 : decode cX7_copyFrom 24 = .ok (.iinc 2 1, 3) := by decide +kernel
theorem dX7_copyFrom_27 : decode cX7_copyFrom 27 = .ok (.goto (-21), 3) := by decide +kernel
theorem dX7_copyFrom_30 : decode cX7_copyFrom 30 = .ok (.return_, 1) := by decide +kernel
theorem dX7_clear_0 : decode cX7_clear 0 = .ok (.aload_n 0, 1) := by decide +kernel
theorem dX7_clear_1 : decode cX7_clear 1 = .ok (.iconst 0, 1) := by decide +kernel
theorem dX7_clear_2 : decode cX7_clear 2 = .ok (.putfield 13, 3) := by decide +kernel
theorem dX7_clear_5 : decode cX7_clear 5 = .ok (.return_, 1) := by decide +kernel
theorem dX7_letterAt_0 : decode cX7_letterAt 0 = .ok (.iload_n 1, 1) := by decide +kernel
theorem dX7_letterAt_1 : decode cX7_letterAt 1 = .ok (.ifCond .lt 20, 3) := by decide +kernel
theorem dX7_letterAt_4 : decode cX7_letterAt 4 = .ok (.iload_n 1, 1) := by decide +kernel
theorem dX7_letterAt_5 : decode cX7_letterAt 5 = .ok (.aload_n 0, 1) := by decide +kernel
theorem dX7_letterAt_6 : decode cX7_letterAt 6 = .ok (.getfield 13, 3) := by decide +kernel
theorem dX7_letterAt_9 : decode cX7_letterAt 9 = .ok (.if_icmp .ge 12, 3) := by decide +kernel
theorem dX7_letterAt_12 : decode cX7_letterAt 12 = .ok (.aload_n 0, 1) := by decide +kernel
theorem dX7_letterAt_13 : decode cX7_letterAt 13 = .ok (.getfield 9, 3) := by decide +kernel
theorem dX7_letterAt_16 : decode cX7_letterAt 16 = .ok (.iload_n 1, 1) := by decide +kernel
theorem dX7_letterAt_17 : decode cX7_letterAt 17 = .ok (.baload, 1) := by decide +kernel
theorem dX7_letterAt_18 : decode cX7_letterAt 18 = .ok (.goto 4, 3) := by decide +kernel
theorem dX7_letterAt_21 : decode cX7_letterAt 21 = .ok (.iconst 0, 1) := by decide +kernel
theorem dX7_letterAt_22 : decode cX7_letterAt 22 = .ok (.ireturn, 1) := by decide +kernel
theorem dX8_init_0 : decode cX8_init 0 = .ok (.aload_n 0, 1) := by decide +kernel
theorem dX8_init_1 : decode cX8_init 1 = .ok (.invokespecial 3, 3) := by decide +kernel
theorem dX8_init_4 : decode cX8_init 4 = .ok (.aload_n 0, 1) := by decide +kernel
theorem dX8_init_5 : decode cX8_init 5 = .ok (.sipush 201, 3) := by decide +kernel
theorem dX8_init_8 : decode cX8_init 8 = .ok (.newarray .int, 2) := by decide +kernel
theorem dX8_init_10 : decode cX8_init 10 = .ok (.putfield 9, 3) := by decide +kernel
theorem dX8_init_13 : decode cX8_init 13 = .ok (.return_, 1) := by decide +kernel
theorem dX8_countFewest_0 : decode cX8_countFewest 0 = .ok (.aload_n 0, 1) := by decide +kernel
theorem dX8_countFewest_1 : decode cX8_countFewest 1 = .ok (.iconst 0, 1) := by decide +kernel
theorem dX8_countFewest_2 : decode cX8_countFewest 2 = .ok (.sipush 201, 3) := by decide +kernel
theorem dX8_countFewest_5 : decode cX8_countFewest 5 = .ok (.invokevirtual 15, 3) := by decide +kernel
theorem dX8_countFewest_8 : decode cX8_countFewest 8 = .ok (.iconst 0, 1) := by decide +kernel
theorem dX8_countFewest_9 : decode cX8_countFewest 9 = .ok (.istore_n 3, 1) := by decide +kernel
theorem dX8_countFewest_10 : decode cX8_countFewest 10 = .ok (.iload_n 3, 1) := by decide +kernel
theorem dX8_countFewest_11 : decode cX8_countFewest 11 = .ok (.aload_n 1, 1) := by decide +kernel
theorem dX8_countFewest_12 : decode cX8_countFewest 12 = .ok (.getfield 19, 3) := by decide +kernel
theorem dX8_countFewest_15 : decode cX8_countFewest 15 = .ok (.if_icmp .ge 73, 3) := by decide +kernel
theorem dX8_countFewest_18 : decode cX8_countFewest 18 = .ok (.aload_n 1, 1) := by decide +kernel
theorem dX8_countFewest_19 : decode cX8_countFewest 19 = .ok (.getfield 25, 3) := by decide +kernel
theorem dX8_countFewest_22 : decode cX8_countFewest 22 = .ok (.iload_n 3, 1) := by decide +kernel
theorem dX8_countFewest_23 : decode cX8_countFewest 23 = .ok (.iaload, 1) := by decide +kernel
theorem dX8_countFewest_24 : decode cX8_countFewest 24 = .ok (.istore 4, 2) := by decide +kernel
theorem dX8_countFewest_26 : decode cX8_countFewest 26 = .ok (.iload_n 2, 1) := by decide +kernel
theorem dX8_countFewest_27 : decode cX8_countFewest 27 = .ok (.iload 4, 2) := by decide +kernel
theorem dX8_countFewest_29 : decode cX8_countFewest 29 = .ok (.invokestatic 28, 3) := by decide +kernel
theorem dX8_countFewest_32 : decode cX8_countFewest 32 = .ok (.ifCond .eq 50, 3) := by decide +kernel
theorem dX8_countFewest_35 : decode cX8_countFewest 35 = .ok (.iload 4, 2) := by decide +kernel
theorem dX8_countFewest_37 : decode cX8_countFewest 37 = .ok (.istore 5, 2) := by decide +kernel
theorem dX8_countFewest_39 : decode cX8_countFewest 39 = .ok (.iload 5, 2) := by decide +kernel
theorem dX8_countFewest_41 : decode cX8_countFewest 41 = .ok (.sipush 200, 3) := by decide +kernel
theorem dX8_countFewest_44 : decode cX8_countFewest 44 = .ok (.if_icmp .gt 38, 3) := by decide +kernel
theorem dX8_countFewest_47 : decode cX8_countFewest 47 = .ok (.aload_n 0, 1) := by decide +kernel
theorem dX8_countFewest_48 : decode cX8_countFewest 48 = .ok (.getfield 9, 3) := by decide +kernel
theorem dX8_countFewest_51 : decode cX8_countFewest 51 = .ok (.iload 5, 2) := by decide +kernel
theorem dX8_countFewest_53 : decode cX8_countFewest 53 = .ok (.aload_n 0, 1) := by decide +kernel
theorem dX8_countFewest_54 : decode cX8_countFewest 54 = .ok (.getfield 9, 3) := by decide +kernel
theorem dX8_countFewest_57 : decode cX8_countFewest 57 = .ok (.iload 5, 2) := by decide +kernel
theorem dX8_countFewest_59 : decode cX8_countFewest 59 = .ok (.iaload, 1) := by decide +kernel
theorem dX8_countFewest_60 : decode cX8_countFewest 60 = .ok (.aload_n 0, 1) := by decide +kernel
theorem dX8_countFewest_61 : decode cX8_countFewest 61 = .ok (.getfield 9, 3) := by decide +kernel
theorem dX8_countFewest_64 : decode cX8_countFewest 64 = .ok (.iload 5, 2) := by decide +kernel
theorem dX8_countFewest_66 : decode cX8_countFewest 66 = .ok (.iload 4, 2) := by decide +kernel
theorem dX8_countFewest_68 : decode cX8_countFewest 68 = .ok (.isub, 1) := by decide +kernel
theorem dX8_countFewest_69 : decode cX8_countFewest 69 = .ok (.iaload, 1) := by decide +kernel
theorem dX8_countFewest_70 : decode cX8_countFewest 70 = .ok (.iconst 1, 1) := by decide +kernel
theorem dX8_countFewest_71 : decode cX8_countFewest 71 = .ok (.iadd, 1) := by decide +kernel
theorem dX8_countFewest_72 : decode cX8_countFewest 72 = .ok (.invokestatic 34, 3) := by decide +kernel
theorem dX8_countFewest_75 : decode cX8_countFewest 75 = .ok (.iastore, 1) := by decide +kernel
theorem dX8_countFewest_76 : decode cX8_countFewest 76 = .ok (.iinc 5 1, 3) := by decide +kernel
theorem dX8_countFewest_79 : decode cX8_countFewest 79 = .ok (.goto (-40), 3) := by decide +kernel
theorem dX8_countFewest_82 : decode cX8_countFewest 82 = .ok (.iinc 3 1, 3) := by decide +kernel
theorem dX8_countFewest_85 : decode cX8_countFewest 85 = .ok (.goto (-75), 3) := by decide +kernel
theorem dX8_countFewest_88 : decode cX8_countFewest 88 = .ok (.return_, 1) := by decide +kernel
theorem dX8_isMade_0 : decode cX8_isMade 0 = .ok (.aload_n 0, 1) := by decide +kernel
theorem dX8_isMade_1 : decode cX8_isMade 1 = .ok (.getfield 9, 3) := by decide +kernel
theorem dX8_isMade_4 : decode cX8_isMade 4 = .ok (.iload_n 1, 1) := by decide +kernel
theorem dX8_isMade_5 : decode cX8_isMade 5 = .ok (.iaload, 1) := by decide +kernel
theorem dX8_isMade_6 : decode cX8_isMade 6 = .ok (.sipush 201, 3) := by decide +kernel
theorem dX8_isMade_9 : decode cX8_isMade 9 = .ok (.if_icmp .ge 7, 3) := by decide +kernel
theorem dX8_isMade_12 : decode cX8_isMade 12 = .ok (.iconst 1, 1) := by decide +kernel
theorem dX8_isMade_13 : decode cX8_isMade 13 = .ok (.goto 4, 3) := by decide +kernel
theorem dX8_isMade_16 : decode cX8_isMade 16 = .ok (.iconst 0, 1) := by decide +kernel
theorem dX8_isMade_17 : decode cX8_isMade 17 = .ok (.ireturn, 1) := by decide +kernel
theorem dX8_countWays_0 : decode cX8_countWays 0 = .ok (.aload_n 0, 1) := by decide +kernel
theorem dX8_countWays_1 : decode cX8_countWays 1 = .ok (.iconst 1, 1) := by decide +kernel
theorem dX8_countWays_2 : decode cX8_countWays 2 = .ok (.iconst 0, 1) := by decide +kernel
theorem dX8_countWays_3 : decode cX8_countWays 3 = .ok (.invokevirtual 15, 3) := by decide +kernel
theorem dX8_countWays_6 : decode cX8_countWays 6 = .ok (.iconst 0, 1) := by decide +kernel
theorem dX8_countWays_7 : decode cX8_countWays 7 = .ok (.istore_n 3, 1) := by decide +kernel
theorem dX8_countWays_8 : decode cX8_countWays 8 = .ok (.iload_n 3, 1) := by decide +kernel
theorem dX8_countWays_9 : decode cX8_countWays 9 = .ok (.aload_n 1, 1) := by decide +kernel
theorem dX8_countWays_10 : decode cX8_countWays 10 = .ok (.getfield 19, 3) := by decide +kernel
theorem dX8_countWays_13 : decode cX8_countWays 13 = .ok (.if_icmp .ge 64, 3) := by decide +kernel
theorem dX8_countWays_16 : decode cX8_countWays 16 = .ok (.aload_n 1, 1) := by decide +kernel
theorem dX8_countWays_17 : decode cX8_countWays 17 = .ok (.getfield 25, 3) := by decide +kernel
theorem dX8_countWays_20 : decode cX8_countWays 20 = .ok (.iload_n 3, 1) := by decide +kernel
theorem dX8_countWays_21 : decode cX8_countWays 21 = .ok (.iaload, 1) := by decide +kernel
theorem dX8_countWays_22 : decode cX8_countWays 22 = .ok (.istore 4, 2) := by decide +kernel
theorem dX8_countWays_24 : decode cX8_countWays 24 = .ok (.iload_n 2, 1) := by decide +kernel
theorem dX8_countWays_25 : decode cX8_countWays 25 = .ok (.iload 4, 2) := by decide +kernel
theorem dX8_countWays_27 : decode cX8_countWays 27 = .ok (.invokestatic 28, 3) := by decide +kernel
theorem dX8_countWays_30 : decode cX8_countWays 30 = .ok (.ifCond .eq 41, 3) := by decide +kernel
theorem dX8_countWays_33 : decode cX8_countWays 33 = .ok (.iload 4, 2) := by decide +kernel
theorem dX8_countWays_35 : decode cX8_countWays 35 = .ok (.istore 5, 2) := by decide +kernel
theorem dX8_countWays_37 : decode cX8_countWays 37 = .ok (.iload 5, 2) := by decide +kernel
theorem dX8_countWays_39 : decode cX8_countWays 39 = .ok (.sipush 200, 3) := by decide +kernel
theorem dX8_countWays_42 : decode cX8_countWays 42 = .ok (.if_icmp .gt 29, 3) := by decide +kernel
theorem dX8_countWays_45 : decode cX8_countWays 45 = .ok (.aload_n 0, 1) := by decide +kernel
theorem dX8_countWays_46 : decode cX8_countWays 46 = .ok (.getfield 9, 3) := by decide +kernel
theorem dX8_countWays_49 : decode cX8_countWays 49 = .ok (.iload 5, 2) := by decide +kernel
theorem dX8_countWays_51 : decode cX8_countWays 51 = .ok (.dup2, 1) := by decide +kernel
theorem dX8_countWays_52 : decode cX8_countWays 52 = .ok (.iaload, 1) := by decide +kernel
theorem dX8_countWays_53 : decode cX8_countWays 53 = .ok (.aload_n 0, 1) := by decide +kernel
theorem dX8_countWays_54 : decode cX8_countWays 54 = .ok (.getfield 9, 3) := by decide +kernel
theorem dX8_countWays_57 : decode cX8_countWays 57 = .ok (.iload 5, 2) := by decide +kernel
theorem dX8_countWays_59 : decode cX8_countWays 59 = .ok (.iload 4, 2) := by decide +kernel
theorem dX8_countWays_61 : decode cX8_countWays 61 = .ok (.isub, 1) := by decide +kernel
theorem dX8_countWays_62 : decode cX8_countWays 62 = .ok (.iaload, 1) := by decide +kernel
theorem dX8_countWays_63 : decode cX8_countWays 63 = .ok (.iadd, 1) := by decide +kernel
theorem dX8_countWays_64 : decode cX8_countWays 64 = .ok (.iastore, 1) := by decide +kernel
theorem dX8_countWays_65 : decode cX8_countWays 65 = .ok (.iinc 5 1, 3) := by decide +kernel
theorem dX8_countWays_68 : decode cX8_countWays 68 = .ok (.goto (-31), 3) := by decide +kernel
theorem dX8_countWays_71 : decode cX8_countWays 71 = .ok (.iinc 3 1, 3) := by decide +kernel
theorem dX8_countWays_74 : decode cX8_countWays 74 = .ok (.goto (-66), 3) := by decide +kernel
theorem dX8_countWays_77 : decode cX8_countWays 77 = .ok (.return_, 1) := by decide +kernel
theorem dX8_startWith_0 : decode cX8_startWith 0 = .ok (.aload_n 0, 1) := by decide +kernel
theorem dX8_startWith_1 : decode cX8_startWith 1 = .ok (.getfield 9, 3) := by decide +kernel
theorem dX8_startWith_4 : decode cX8_startWith 4 = .ok (.iconst 0, 1) := by decide +kernel
theorem dX8_startWith_5 : decode cX8_startWith 5 = .ok (.iload_n 1, 1) := by decide +kernel
theorem dX8_startWith_6 : decode cX8_startWith 6 = .ok (.iastore, 1) := by decide +kernel
theorem dX8_startWith_7 : decode cX8_startWith 7 = .ok (.iconst 1, 1) := by decide +kernel
theorem dX8_startWith_8 : decode cX8_startWith 8 = .ok (.istore_n 3, 1) := by decide +kernel
theorem dX8_startWith_9 : decode cX8_startWith 9 = .ok (.iload_n 3, 1) := by decide +kernel
theorem dX8_startWith_10 : decode cX8_startWith 10 = .ok (.sipush 200, 3) := by decide +kernel
theorem dX8_startWith_13 : decode cX8_startWith 13 = .ok (.if_icmp .gt 16, 3) := by decide +kernel
theorem dX8_startWith_16 : decode cX8_startWith 16 = .ok (.aload_n 0, 1) := by decide +kernel
theorem dX8_startWith_17 : decode cX8_startWith 17 = .ok (.getfield 9, 3) := by decide +kernel
theorem dX8_startWith_20 : decode cX8_startWith 20 = .ok (.iload_n 3, 1) := by decide +kernel
theorem dX8_startWith_21 : decode cX8_startWith 21 = .ok (.iload_n 2, 1) := by decide +kernel
theorem dX8_startWith_22 : decode cX8_startWith 22 = .ok (.iastore, 1) := by decide +kernel
theorem dX8_startWith_23 : decode cX8_startWith 23 = .ok (.iinc 3 1, 3) := by decide +kernel
theorem dX8_startWith_26 : decode cX8_startWith 26 = .ok (.goto (-17), 3) := by decide +kernel
theorem dX8_startWith_29 : decode cX8_startWith 29 = .ok (.return_, 1) := by decide +kernel
theorem dX9_init_0 : decode cX9_init 0 = .ok (.aload_n 0, 1) := by decide +kernel
theorem dX9_init_1 : decode cX9_init 1 = .ok (.invokespecial 3, 3) := by decide +kernel
theorem dX9_init_4 : decode cX9_init 4 = .ok (.aload_n 0, 1) := by decide +kernel
theorem dX9_init_5 : decode cX9_init 5 = .ok (.new 9, 3) := by decide +kernel
theorem dX9_init_8 : decode cX9_init 8 = .ok (.dup, 1) := by decide +kernel
theorem dX9_init_9 : decode cX9_init 9 = .ok (.invokespecial 11, 3) := by decide +kernel
theorem dX9_init_12 : decode cX9_init 12 = .ok (.putfield 12, 3) := by decide +kernel
theorem dX9_init_15 : decode cX9_init 15 = .ok (.aload_n 0, 1) := by decide +kernel
theorem dX9_init_16 : decode cX9_init 16 = .ok (.bipush 6, 2) := by decide +kernel
theorem dX9_init_18 : decode cX9_init 18 = .ok (.newarray .int, 2) := by decide +kernel
theorem dX9_init_20 : decode cX9_init 20 = .ok (.putfield 18, 3) := by decide +kernel
theorem dX9_init_23 : decode cX9_init 23 = .ok (.aload_n 0, 1) := by decide +kernel
theorem dX9_init_24 : decode cX9_init 24 = .ok (.iconst 0, 1) := by decide +kernel
theorem dX9_init_25 : decode cX9_init 25 = .ok (.putfield 22, 3) := by decide +kernel
theorem dX9_init_28 : decode cX9_init 28 = .ok (.aload_n 0, 1) := by decide +kernel
theorem dX9_init_29 : decode cX9_init 29 = .ok (.bipush 6, 2) := by decide +kernel
theorem dX9_init_31 : decode cX9_init 31 = .ok (.putfield 26, 3) := by decide +kernel
theorem dX9_init_34 : decode cX9_init 34 = .ok (.aload_n 0, 1) := by decide +kernel
theorem dX9_init_35 : decode cX9_init 35 = .ok (.bipush 7, 2) := by decide +kernel
theorem dX9_init_37 : decode cX9_init 37 = .ok (.putfield 29, 3) := by decide +kernel
theorem dX9_init_40 : decode cX9_init 40 = .ok (.aload_n 0, 1) := by decide +kernel
theorem dX9_init_41 : decode cX9_init 41 = .ok (.new 32, 3) := by decide +kernel
theorem dX9_init_44 : decode cX9_init 44 = .ok (.dup, 1) := by decide +kernel
theorem dX9_init_45 : decode cX9_init 45 = .ok (.invokespecial 34, 3) := by decide +kernel
theorem dX9_init_48 : decode cX9_init 48 = .ok (.putfield 35, 3) := by decide +kernel
theorem dX9_init_51 : decode cX9_init 51 = .ok (.aload_n 0, 1) := by decide +kernel
theorem dX9_init_52 : decode cX9_init 52 = .ok (.iconst 0, 1) := by decide +kernel
theorem dX9_init_53 : decode cX9_init 53 = .ok (.putfield 39, 3) := by decide +kernel
theorem dX9_init_56 : decode cX9_init 56 = .ok (.return_, 1) := by decide +kernel
theorem dX9_readFrom_0 : decode cX9_readFrom 0 = .ok (.aload_n 0, 1) := by decide +kernel
theorem dX9_readFrom_1 : decode cX9_readFrom 1 = .ok (.getfield 12, 3) := by decide +kernel
theorem dX9_readFrom_4 : decode cX9_readFrom 4 = .ok (.invokevirtual 42, 3) := by decide +kernel
theorem dX9_readFrom_7 : decode cX9_readFrom 7 = .ok (.aload_n 0, 1) := by decide +kernel
theorem dX9_readFrom_8 : decode cX9_readFrom 8 = .ok (.iconst 0, 1) := by decide +kernel
theorem dX9_readFrom_9 : decode cX9_readFrom 9 = .ok (.putfield 22, 3) := by decide +kernel
theorem dX9_readFrom_12 : decode cX9_readFrom 12 = .ok (.aload_n 0, 1) := by decide +kernel
theorem dX9_readFrom_13 : decode cX9_readFrom 13 = .ok (.bipush 6, 2) := by decide +kernel
theorem dX9_readFrom_15 : decode cX9_readFrom 15 = .ok (.putfield 26, 3) := by decide +kernel
theorem dX9_readFrom_18 : decode cX9_readFrom 18 = .ok (.aload_n 0, 1) := by decide +kernel
theorem dX9_readFrom_19 : decode cX9_readFrom 19 = .ok (.bipush 7, 2) := by decide +kernel
theorem dX9_readFrom_21 : decode cX9_readFrom 21 = .ok (.putfield 29, 3) := by decide +kernel
theorem dX9_readFrom_24 : decode cX9_readFrom 24 = .ok (.aload_n 0, 1) := by decide +kernel
theorem dX9_readFrom_25 : decode cX9_readFrom 25 = .ok (.getfield 35, 3) := by decide +kernel
theorem dX9_readFrom_28 : decode cX9_readFrom 28 = .ok (.iconst 0, 1) := by decide +kernel
theorem dX9_readFrom_29 : decode cX9_readFrom 29 = .ok (.putfield 45, 3) := by decide +kernel
theorem dX9_readFrom_32 : decode cX9_readFrom 32 = .ok (.aload_n 0, 1) := by decide +kernel
theorem dX9_readFrom_33 : decode cX9_readFrom 33 = .ok (.iconst 0, 1) := by decide +kernel
theorem dX9_readFrom_34 : decode cX9_readFrom 34 = .ok (.putfield 39, 3) := by decide +kernel
theorem dX9_readFrom_37 : decode cX9_readFrom 37 = .ok (.iconst 0, 1) := by decide +kernel
theorem dX9_readFrom_38 : decode cX9_readFrom 38 = .ok (.istore_n 2, 1) := by decide +kernel
theorem dX9_readFrom_39 : decode cX9_readFrom 39 = .ok (.iload_n 2, 1) := by decide +kernel
theorem dX9_readFrom_40 : decode cX9_readFrom 40 = .ok (.sipush 200, 3) := by decide +kernel
theorem dX9_readFrom_43 : decode cX9_readFrom 43 = .ok (.if_icmp .ge 58, 3) := by decide +kernel
theorem dX9_readFrom_46 : decode cX9_readFrom 46 = .ok (.aload_n 0, 1) := by decide +kernel
theorem dX9_readFrom_47 : decode cX9_readFrom 47 = .ok (.getfield 39, 3) := by decide +kernel
theorem dX9_readFrom_50 : decode cX9_readFrom 50 = .ok (.aload_n 1, 1) := by decide +kernel
theorem dX9_readFrom_51 : decode cX9_readFrom 51 = .ok (.getfield 50, 3) := by decide +kernel
theorem dX9_readFrom_54 : decode cX9_readFrom 54 = .ok (.if_icmp .ge 47, 3) := by decide +kernel
theorem dX9_readFrom_57 : decode cX9_readFrom 57 = .ok (.aload_n 0, 1) := by decide +kernel
theorem dX9_readFrom_58 : decode cX9_readFrom 58 = .ok (.getfield 39, 3) := by decide +kernel
theorem dX9_readFrom_61 : decode cX9_readFrom 61 = .ok (.istore_n 3, 1) := by decide +kernel
theorem dX9_readFrom_62 : decode cX9_readFrom 62 = .ok (.aload_n 0, 1) := by decide +kernel
theorem dX9_readFrom_63 : decode cX9_readFrom 63 = .ok (.aload_n 1, 1) := by decide +kernel
theorem dX9_readFrom_64 : decode cX9_readFrom 64 = .ok (.invokevirtual 51, 3) := by decide +kernel
theorem dX9_readFrom_67 : decode cX9_readFrom 67 = .ok (.ifCond .eq 16, 3) := by decide +kernel
theorem dX9_readFrom_70 : decode cX9_readFrom 70 = .ok (.aload_n 1, 1) := by decide +kernel
theorem dX9_readFrom_71 : decode cX9_readFrom 71 = .ok (.aload_n 0, 1) := by decide +kernel
theorem dX9_readFrom_72 : decode cX9_readFrom 72 = .ok (.getfield 39, 3) := by decide +kernel
theorem dX9_readFrom_75 : decode cX9_readFrom 75 = .ok (.invokevirtual 55, 3) := by decide +kernel
theorem dX9_readFrom_78 : decode cX9_readFrom 78 = .ok (.bipush 59, 2) := by decide +kernel
theorem dX9_readFrom_80 : decode cX9_readFrom 80 = .ok (.if_icmp .eq 5, 3) := by decide +kernel
theorem dX9_readFrom_83 : decode cX9_readFrom 83 = .ok (.iload_n 3, 1) := by decide +kernel
theorem dX9_readFrom_84 : decode cX9_readFrom 84 = .ok (.ireturn, 1) := by decide +kernel
theorem dX9_readFrom_85 : decode cX9_readFrom 85 = .ok (.aload_n 0, 1) := by decide +kernel
theorem dX9_readFrom_86 : decode cX9_readFrom 86 = .ok (.dup, 1) := by decide +kernel
theorem dX9_readFrom_87 : decode cX9_readFrom 87 = .ok (.getfield 39, 3) := by decide +kernel
theorem dX9_readFrom_90 : decode cX9_readFrom 90 = .ok (.iconst 1, 1) := by decide +kernel
theorem dX9_readFrom_91 : decode cX9_readFrom 91 = .ok (.iadd, 1) := by decide +kernel
theorem dX9_readFrom_92 : decode cX9_readFrom 92 = .ok (.putfield 39, 3) := by decide +kernel
theorem dX9_readFrom_95 : decode cX9_readFrom 95 = .ok (.iinc 2 1, 3) := by decide +kernel
theorem dX9_readFrom_98 : decode cX9_readFrom 98 = .ok (.goto (-59), 3) := by decide +kernel
theorem dX9_readFrom_101 : decode cX9_readFrom 101 = .ok (.bipush (-4), 2) := by decide +kernel
theorem dX9_readFrom_103 : decode cX9_readFrom 103 = .ok (.ireturn, 1) := by decide +kernel
theorem dX9_readItem_0 : decode cX9_readItem 0 = .ok (.aload_n 1, 1) := by decide +kernel
theorem dX9_readItem_1 : decode cX9_readItem 1 = .ok (.aload_n 0, 1) := by decide +kernel
theorem dX9_readItem_2 : decode cX9_readItem 2 = .ok (.getfield 39, 3) := by decide +kernel
theorem dX9_readItem_5 : decode cX9_readItem 5 = .ok (.invokevirtual 55, 3) := by decide +kernel
theorem dX9_readItem_8 : decode cX9_readItem 8 = .ok (.istore_n 2, 1) := by decide +kernel
theorem dX9_readItem_9 : decode cX9_readItem 9 = .ok (.aload_n 0, 1) := by decide +kernel
theorem dX9_readItem_10 : decode cX9_readItem 10 = .ok (.dup, 1) := by decide +kernel
theorem dX9_readItem_11 : decode cX9_readItem 11 = .ok (.getfield 39, 3) := by decide +kernel
theorem dX9_readItem_14 : decode cX9_readItem 14 = .ok (.iconst 1, 1) := by decide +kernel
theorem dX9_readItem_15 : decode cX9_readItem 15 = .ok (.iadd, 1) := by decide +kernel
theorem dX9_readItem_16 : decode cX9_readItem 16 = .ok (.putfield 39, 3) := by decide +kernel
theorem dX9_readItem_19 : decode cX9_readItem 19 = .ok (.iload_n 2, 1) := by decide +kernel
theorem dX9_readItem_20 : decode cX9_readItem 20 = .ok (.lookupswitch 96 #[(99, 72), (100, 78), (101, 90), (102, 66), (119, 84), (120, 60)], 60) := by decide +kernel
theorem dX9_readItem_80 : decode cX9_readItem 80 = .ok (.aload_n 0, 1) := by decide +kernel
theorem dX9_readItem_81 : decode cX9_readItem 81 = .ok (.aload_n 1, 1) := by decide +kernel
theorem dX9_readItem_82 : decode cX9_readItem 82 = .ok (.invokevirtual 59, 3) := by decide +kernel
theorem dX9_readItem_85 : decode cX9_readItem 85 = .ok (.ireturn, 1) := by decide +kernel
theorem dX9_readItem_86 : decode cX9_readItem 86 = .ok (.aload_n 0, 1) := by decide +kernel
theorem dX9_readItem_87 : decode cX9_readItem 87 = .ok (.aload_n 1, 1) := by decide +kernel
theorem dX9_readItem_88 : decode cX9_readItem 88 = .ok (.invokevirtual 62, 3) := by decide +kernel
theorem dX9_readItem_91 : decode cX9_readItem 91 = .ok (.ireturn, 1) := by decide +kernel
theorem dX9_readItem_92 : decode cX9_readItem 92 = .ok (.aload_n 0, 1) := by decide +kernel
theorem dX9_readItem_93 : decode cX9_readItem 93 = .ok (.aload_n 1, 1) := by decide +kernel
theorem dX9_readItem_94 : decode cX9_readItem 94 = .ok (.invokevirtual 65, 3) := by decide +kernel
theorem dX9_readItem_97 : decode cX9_readItem 97 = .ok (.ireturn, 1) := by decide +kernel
theorem dX9_readItem_98 : decode cX9_readItem 98 = .ok (.aload_n 0, 1) := by decide +kernel
theorem dX9_readItem_99 : decode cX9_readItem 99 = .ok (.aload_n 1, 1) := by decide +kernel
theorem dX9_readItem_100 : decode cX9_readItem 100 = .ok (.invokevirtual 68, 3) := by decide +kernel
theorem dX9_readItem_103 : decode cX9_readItem 103 = .ok (.ireturn, 1) := by decide +kernel
theorem dX9_readItem_104 : decode cX9_readItem 104 = .ok (.aload_n 0, 1) := by decide +kernel
theorem dX9_readItem_105 : decode cX9_readItem 105 = .ok (.aload_n 1, 1) := by decide +kernel
theorem dX9_readItem_106 : decode cX9_readItem 106 = .ok (.invokevirtual 71, 3) := by decide +kernel
theorem dX9_readItem_109 : decode cX9_readItem 109 = .ok (.ireturn, 1) := by decide +kernel
theorem dX9_readItem_110 : decode cX9_readItem 110 = .ok (.aload_n 0, 1) := by decide +kernel
theorem dX9_readItem_111 : decode cX9_readItem 111 = .ok (.aload_n 1, 1) := by decide +kernel
theorem dX9_readItem_112 : decode cX9_readItem 112 = .ok (.invokevirtual 74, 3) := by decide +kernel
theorem dX9_readItem_115 : decode cX9_readItem 115 = .ok (.ireturn, 1) := by decide +kernel
theorem dX9_readItem_116 : decode cX9_readItem 116 = .ok (.iconst 0, 1) := by decide +kernel
theorem dX9_readItem_117 : decode cX9_readItem 117 = .ok (.ireturn, 1) := by decide +kernel
theorem dX9_readStrike_0 : decode cX9_readStrike 0 = .ok (.aload_n 0, 1) := by decide +kernel
theorem dX9_readStrike_1 : decode cX9_readStrike 1 = .ok (.aload_n 1, 1) := by decide +kernel
theorem dX9_readStrike_2 : decode cX9_readStrike 2 = .ok (.invokevirtual 77, 3) := by decide +kernel
theorem dX9_readStrike_5 : decode cX9_readStrike 5 = .ok (.istore_n 2, 1) := by decide +kernel
theorem dX9_readStrike_6 : decode cX9_readStrike 6 = .ok (.iload_n 2, 1) := by decide +kernel
theorem dX9_readStrike_7 : decode cX9_readStrike 7 = .ok (.invokestatic 81, 3) := by decide +kernel
theorem dX9_readStrike_10 : decode cX9_readStrike 10 = .ok (.ifCond .ne 5, 3) := by decide +kernel
theorem dX9_readStrike_13 : decode cX9_readStrike 13 = .ok (.iconst 0, 1) := by decide +kernel
theorem dX9_readStrike_14 : decode cX9_readStrike 14 = .ok (.ireturn, 1) := by decide +kernel
theorem dX9_readStrike_15 : decode cX9_readStrike 15 = .ok (.aload_n 0, 1) := by decide +kernel
theorem dX9_readStrike_16 : decode cX9_readStrike 16 = .ok (.getfield 12, 3) := by decide +kernel
theorem dX9_readStrike_19 : decode cX9_readStrike 19 = .ok (.dup, 1) := by decide +kernel
theorem dX9_readStrike_20 : decode cX9_readStrike 20 = .ok (.getfield 85, 3) := by decide +kernel
theorem dX9_readStrike_23 : decode cX9_readStrike 23 = .ok (.iconst 1, 1) := by decide +kernel
theorem dX9_readStrike_24 : decode cX9_readStrike 24 = .ok (.iload_n 2, 1) := by decide +kernel
theorem dX9_readStrike_25 : decode cX9_readStrike 25 = .ok (.ishl, 1) := by decide +kernel
theorem dX9_readStrike_26 : decode cX9_readStrike 26 = .ok (.ior, 1) := by decide +kernel
theorem dX9_readStrike_27 : decode cX9_readStrike 27 = .ok (.putfield 85, 3) := by decide +kernel
theorem dX9_readStrike_30 : decode cX9_readStrike 30 = .ok (.iconst 1, 1) := by decide +kernel
theorem dX9_readStrike_31 : decode cX9_readStrike 31 = .ok (.ireturn, 1) := by decide +kernel
theorem dX9_readStandIn_0 : decode cX9_readStandIn 0 = .ok (.aload_n 0, 1) := by decide +kernel
theorem dX9_readStandIn_1 : decode cX9_readStandIn 1 = .ok (.aload_n 1, 1) := by decide +kernel
theorem dX9_readStandIn_2 : decode cX9_readStandIn 2 = .ok (.invokevirtual 77, 3) := by decide +kernel
theorem dX9_readStandIn_5 : decode cX9_readStandIn 5 = .ok (.istore_n 2, 1) := by decide +kernel
theorem dX9_readStandIn_6 : decode cX9_readStandIn 6 = .ok (.iload_n 2, 1) := by decide +kernel
theorem dX9_readStandIn_7 : decode cX9_readStandIn 7 = .ok (.invokestatic 81, 3) := by decide +kernel
theorem dX9_readStandIn_10 : decode cX9_readStandIn 10 = .ok (.ifCond .eq 16, 3) := by decide +kernel
theorem dX9_readStandIn_13 : decode cX9_readStandIn 13 = .ok (.aload_n 1, 1) := by decide +kernel
theorem dX9_readStandIn_14 : decode cX9_readStandIn 14 = .ok (.aload_n 0, 1) := by decide +kernel
theorem dX9_readStandIn_15 : decode cX9_readStandIn 15 = .ok (.getfield 39, 3) := by decide +kernel
theorem dX9_readStandIn_18 : decode cX9_readStandIn 18 = .ok (.invokevirtual 55, 3) := by decide +kernel
theorem dX9_readStandIn_21 : decode cX9_readStandIn 21 = .ok (.bipush 44, 2) := by decide +kernel
theorem dX9_readStandIn_23 : decode cX9_readStandIn 23 = .ok (.if_icmp .eq 5, 3) := by decide +kernel
theorem dX9_readStandIn_26 : decode cX9_readStandIn 26 = .ok (.iconst 0, 1) := by decide +kernel
theorem dX9_readStandIn_27 : decode cX9_readStandIn 27 = .ok (.ireturn, 1) := by decide +kernel
theorem dX9_readStandIn_28 : decode cX9_readStandIn 28 = .ok (.aload_n 0, 1) := by decide +kernel
theorem dX9_readStandIn_29 : decode cX9_readStandIn 29 = .ok (.dup, 1) := by decide +kernel
theorem dX9_readStandIn_30 : decode cX9_readStandIn 30 = .ok (.getfield 39, 3) := by decide +kernel
theorem dX9_readStandIn_33 : decode cX9_readStandIn 33 = .ok (.iconst 1, 1) := by decide +kernel
theorem dX9_readStandIn_34 : decode cX9_readStandIn 34 = .ok (.iadd, 1) := by decide +kernel
theorem dX9_readStandIn_35 : decode cX9_readStandIn 35 = .ok (.putfield 39, 3) := by decide +kernel
theorem dX9_readStandIn_38 : decode cX9_readStandIn 38 = .ok (.aload_n 0, 1) := by decide +kernel
theorem dX9_readStandIn_39 : decode cX9_readStandIn 39 = .ok (.aload_n 1, 1) := by decide +kernel
theorem dX9_readStandIn_40 : decode cX9_readStandIn 40 = .ok (.invokevirtual 77, 3) := by decide +kernel
theorem dX9_readStandIn_43 : decode cX9_readStandIn 43 = .ok (.istore_n 3, 1) := by decide +kernel
theorem dX9_readStandIn_44 : decode cX9_readStandIn 44 = .ok (.iload_n 3, 1) := by decide +kernel
theorem dX9_readStandIn_45 : decode cX9_readStandIn 45 = .ok (.invokestatic 81, 3) := by decide +kernel
theorem dX9_readStandIn_48 : decode cX9_readStandIn 48 = .ok (.ifCond .ne 5, 3) := by decide +kernel
theorem dX9_readStandIn_51 : decode cX9_readStandIn 51 = .ok (.iconst 0, 1) := by decide +kernel
theorem dX9_readStandIn_52 : decode cX9_readStandIn 52 = .ok (.ireturn, 1) := by decide +kernel
theorem dX9_readStandIn_53 : decode cX9_readStandIn 53 = .ok (.aload_n 0, 1) := by decide +kernel
theorem dX9_readStandIn_54 : decode cX9_readStandIn 54 = .ok (.getfield 12, 3) := by decide +kernel
theorem dX9_readStandIn_57 : decode cX9_readStandIn 57 = .ok (.getfield 88, 3) := by decide +kernel
theorem dX9_readStandIn_60 : decode cX9_readStandIn 60 = .ok (.iload_n 2, 1) := by decide +kernel
theorem dX9_readStandIn_61 : decode cX9_readStandIn 61 = .ok (.iload_n 3, 1) := by decide +kernel
theorem dX9_readStandIn_62 : decode cX9_readStandIn 62 = .ok (.iastore, 1) := by decide +kernel
theorem dX9_readStandIn_63 : decode cX9_readStandIn 63 = .ok (.iconst 1, 1) := by decide +kernel
theorem dX9_readStandIn_64 : decode cX9_readStandIn 64 = .ok (.ireturn, 1) := by decide +kernel
theorem dX9_readCoin_0 : decode cX9_readCoin 0 = .ok (.aload_n 0, 1) := by decide +kernel
theorem dX9_readCoin_1 : decode cX9_readCoin 1 = .ok (.aload_n 1, 1) := by decide +kernel
theorem dX9_readCoin_2 : decode cX9_readCoin 2 = .ok (.invokevirtual 77, 3) := by decide +kernel
theorem dX9_readCoin_5 : decode cX9_readCoin 5 = .ok (.istore_n 2, 1) := by decide +kernel
theorem dX9_readCoin_6 : decode cX9_readCoin 6 = .ok (.iload_n 2, 1) := by decide +kernel
theorem dX9_readCoin_7 : decode cX9_readCoin 7 = .ok (.iconst 1, 1) := by decide +kernel
theorem dX9_readCoin_8 : decode cX9_readCoin 8 = .ok (.if_icmp .lt 20, 3) := by decide +kernel
theorem dX9_readCoin_11 : decode cX9_readCoin 11 = .ok (.aload_n 0, 1) := by decide +kernel
theorem dX9_readCoin_12 : decode cX9_readCoin 12 = .ok (.getfield 22, 3) := by decide +kernel
theorem dX9_readCoin_15 : decode cX9_readCoin 15 = .ok (.bipush 6, 2) := by decide +kernel
theorem dX9_readCoin_17 : decode cX9_readCoin 17 = .ok (.if_icmp .ge 11, 3) := by decide +kernel
theorem dX9_readCoin_20 : decode cX9_readCoin 20 = .ok (.aload_n 0, 1) := by decide +kernel
theorem dX9_readCoin_21 : decode cX9_readCoin 21 = .ok (.iload_n 2, 1) := by decide +kernel
theorem dX9_readCoin_22 : decode cX9_readCoin 22 = .ok (.invokevirtual 91, 3) := by decide +kernel
theorem dX9_readCoin_25 : decode cX9_readCoin 25 = .ok (.ifCond .eq 5, 3) := by decide +kernel
theorem dX9_readCoin_28 : decode cX9_readCoin 28 = .ok (.iconst 0, 1) := by decide +kernel
theorem dX9_readCoin_29 : decode cX9_readCoin 29 = .ok (.ireturn, 1) := by decide +kernel
theorem dX9_readCoin_30 : decode cX9_readCoin 30 = .ok (.aload_n 0, 1) := by decide +kernel
theorem dX9_readCoin_31 : decode cX9_readCoin 31 = .ok (.getfield 18, 3) := by decide +kernel
theorem dX9_readCoin_34 : decode cX9_readCoin 34 = .ok (.aload_n 0, 1) := by decide +kernel
theorem dX9_readCoin_35 : decode cX9_readCoin 35 = .ok (.getfield 22, 3) := by decide +kernel
theorem dX9_readCoin_38 : decode cX9_readCoin 38 = .ok (.iload_n 2, 1) := by decide +kernel
theorem dX9_readCoin_39 : decode cX9_readCoin 39 = .ok (.iastore, 1) := by decide +kernel
theorem dX9_readCoin_40 : decode cX9_readCoin 40 = .ok (.aload_n 0, 1) := by decide +kernel
theorem dX9_readCoin_41 : decode cX9_readCoin 41 = .ok (.dup, 1) := by decide +kernel
theorem dX9_readCoin_42 : decode cX9_readCoin 42 = .ok (.getfield 22, 3) := by decide +kernel
theorem dX9_readCoin_45 : decode cX9_readCoin 45 = .ok (.iconst 1, 1) := by decide +kernel
theorem dX9_readCoin_46 : decode cX9_readCoin 46 = .ok (.iadd, 1) := by decide +kernel
theorem dX9_readCoin_47 : decode cX9_readCoin 47 = .ok (.putfield 22, 3) := by decide +kernel
theorem dX9_readCoin_50 : decode cX9_readCoin 50 = .ok (.iconst 1, 1) := by decide +kernel
theorem dX9_readCoin_51 : decode cX9_readCoin 51 = .ok (.ireturn, 1) := by decide +kernel
theorem dX9_hasCoin_0 : decode cX9_hasCoin 0 = .ok (.iconst 0, 1) := by decide +kernel
theorem dX9_hasCoin_1 : decode cX9_hasCoin 1 = .ok (.istore_n 2, 1) := by decide +kernel
theorem dX9_hasCoin_2 : decode cX9_hasCoin 2 = .ok (.iload_n 2, 1) := by decide +kernel
theorem dX9_hasCoin_3 : decode cX9_hasCoin 3 = .ok (.aload_n 0, 1) := by decide +kernel
theorem dX9_hasCoin_4 : decode cX9_hasCoin 4 = .ok (.getfield 22, 3) := by decide +kernel
theorem dX9_hasCoin_7 : decode cX9_hasCoin 7 = .ok (.if_icmp .ge 21, 3) := by decide +kernel
theorem dX9_hasCoin_10 : decode cX9_hasCoin 10 = .ok (.aload_n 0, 1) := by decide +kernel
theorem dX9_hasCoin_11 : decode cX9_hasCoin 11 = .ok (.getfield 18, 3) := by decide +kernel
theorem dX9_hasCoin_14 : decode cX9_hasCoin 14 = .ok (.iload_n 2, 1) := by decide +kernel
theorem dX9_hasCoin_15 : decode cX9_hasCoin 15 = .ok (.iaload, 1) := by decide +kernel
theorem dX9_hasCoin_16 : decode cX9_hasCoin 16 = .ok (.iload_n 1, 1) := by decide +kernel
theorem dX9_hasCoin_17 : decode cX9_hasCoin 17 = .ok (.if_icmp .ne 5, 3) := by decide +kernel
theorem dX9_hasCoin_20 : decode cX9_hasCoin 20 = .ok (.iconst 1, 1) := by decide +kernel
theorem dX9_hasCoin_21 : decode cX9_hasCoin 21 = .ok (.ireturn, 1) := by decide +kernel
theorem dX9_hasCoin_22 : decode cX9_hasCoin 22 = .ok (.iinc 2 1, 3) := by decide +kernel
theorem dX9_hasCoin_25 : decode cX9_hasCoin 25 = .ok (.goto (-23), 3) := by decide +kernel
theorem dX9_hasCoin_28 : decode cX9_hasCoin 28 = .ok (.iconst 0, 1) := by decide +kernel
theorem dX9_hasCoin_29 : decode cX9_hasCoin 29 = .ok (.ireturn, 1) := by decide +kernel
theorem dX9_readSides_0 : decode cX9_readSides 0 = .ok (.aload_n 0, 1) := by decide +kernel
theorem dX9_readSides_1 : decode cX9_readSides 1 = .ok (.aload_n 0, 1) := by decide +kernel
theorem dX9_readSides_2 : decode cX9_readSides 2 = .ok (.aload_n 1, 1) := by decide +kernel
theorem dX9_readSides_3 : decode cX9_readSides 3 = .ok (.invokevirtual 77, 3) := by decide +kernel
theorem dX9_readSides_6 : decode cX9_readSides 6 = .ok (.putfield 26, 3) := by decide +kernel
theorem dX9_readSides_9 : decode cX9_readSides 9 = .ok (.aload_n 0, 1) := by decide +kernel
theorem dX9_readSides_10 : decode cX9_readSides 10 = .ok (.getfield 26, 3) := by decide +kernel
theorem dX9_readSides_13 : decode cX9_readSides 13 = .ok (.iconst 2, 1) := by decide +kernel
theorem dX9_readSides_14 : decode cX9_readSides 14 = .ok (.bipush 9, 2) := by decide +kernel
theorem dX9_readSides_16 : decode cX9_readSides 16 = .ok (.invokestatic 94, 3) := by decide +kernel
theorem dX9_readSides_19 : decode cX9_readSides 19 = .ok (.ireturn, 1) := by decide +kernel
theorem dX9_readWeek_0 : decode cX9_readWeek 0 = .ok (.aload_n 0, 1) := by decide +kernel
theorem dX9_readWeek_1 : decode cX9_readWeek 1 = .ok (.aload_n 0, 1) := by decide +kernel
theorem dX9_readWeek_2 : decode cX9_readWeek 2 = .ok (.aload_n 1, 1) := by decide +kernel
theorem dX9_readWeek_3 : decode cX9_readWeek 3 = .ok (.invokevirtual 77, 3) := by decide +kernel
theorem dX9_readWeek_6 : decode cX9_readWeek 6 = .ok (.putfield 29, 3) := by decide +kernel
theorem dX9_readWeek_9 : decode cX9_readWeek 9 = .ok (.aload_n 0, 1) := by decide +kernel
theorem dX9_readWeek_10 : decode cX9_readWeek 10 = .ok (.getfield 29, 3) := by decide +kernel
theorem dX9_readWeek_13 : decode cX9_readWeek 13 = .ok (.iconst 1, 1) := by decide +kernel
theorem dX9_readWeek_14 : decode cX9_readWeek 14 = .ok (.bipush 9, 2) := by decide +kernel
theorem dX9_readWeek_16 : decode cX9_readWeek 16 = .ok (.invokestatic 94, 3) := by decide +kernel
theorem dX9_readWeek_19 : decode cX9_readWeek 19 = .ok (.ireturn, 1) := by decide +kernel
theorem dX9_readSum_0 : decode cX9_readSum 0 = .ok (.iconst 0, 1) := by decide +kernel
theorem dX9_readSum_1 : decode cX9_readSum 1 = .ok (.istore_n 2, 1) := by decide +kernel
theorem dX9_readSum_2 : decode cX9_readSum 2 = .ok (.aload_n 0, 1) := by decide +kernel
theorem dX9_readSum_3 : decode cX9_readSum 3 = .ok (.getfield 35, 3) := by decide +kernel
theorem dX9_readSum_6 : decode cX9_readSum 6 = .ok (.iconst 0, 1) := by decide +kernel
theorem dX9_readSum_7 : decode cX9_readSum 7 = .ok (.putfield 45, 3) := by decide +kernel
theorem dX9_readSum_10 : decode cX9_readSum 10 = .ok (.iconst 0, 1) := by decide +kernel
theorem dX9_readSum_11 : decode cX9_readSum 11 = .ok (.istore_n 3, 1) := by decide +kernel
theorem dX9_readSum_12 : decode cX9_readSum 12 = .ok (.iload_n 3, 1) := by decide +kernel
theorem dX9_readSum_13 : decode cX9_readSum 13 = .ok (.bipush 20, 2) := by decide +kernel
theorem dX9_readSum_15 : decode cX9_readSum 15 = .ok (.if_icmp .ge 70, 3) := by decide +kernel
theorem dX9_readSum_18 : decode cX9_readSum 18 = .ok (.aload_n 1, 1) := by decide +kernel
theorem dX9_readSum_19 : decode cX9_readSum 19 = .ok (.aload_n 0, 1) := by decide +kernel
theorem dX9_readSum_20 : decode cX9_readSum 20 = .ok (.getfield 39, 3) := by decide +kernel
theorem dX9_readSum_23 : decode cX9_readSum 23 = .ok (.invokevirtual 55, 3) := by decide +kernel
theorem dX9_readSum_26 : decode cX9_readSum 26 = .ok (.istore 4, 2) := by decide +kernel
theorem dX9_readSum_28 : decode cX9_readSum 28 = .ok (.iload 4, 2) := by decide +kernel
theorem dX9_readSum_30 : decode cX9_readSum 30 = .ok (.invokestatic 98, 3) := by decide +kernel
theorem dX9_readSum_33 : decode cX9_readSum 33 = .ok (.ifCond .eq 13, 3) := by decide +kernel
theorem dX9_readSum_36 : decode cX9_readSum 36 = .ok (.iinc 2 1, 3) := by decide +kernel
theorem dX9_readSum_39 : decode cX9_readSum 39 = .ok (.iload_n 2, 1) := by decide +kernel
theorem dX9_readSum_40 : decode cX9_readSum 40 = .ok (.iconst 4, 1) := by decide +kernel
theorem dX9_readSum_41 : decode cX9_readSum 41 = .ok (.if_icmp .le 19, 3) := by decide +kernel
theorem dX9_readSum_44 : decode cX9_readSum 44 = .ok (.iconst 0, 1) := by decide +kernel
theorem dX9_readSum_45 : decode cX9_readSum 45 = .ok (.ireturn, 1) := by decide +kernel
theorem dX9_readSum_46 : decode cX9_readSum 46 = .ok (.iload 4, 2) := by decide +kernel
theorem dX9_readSum_48 : decode cX9_readSum 48 = .ok (.invokestatic 101, 3) := by decide +kernel
theorem dX9_readSum_51 : decode cX9_readSum 51 = .ok (.ifCond .eq 34, 3) := by decide +kernel
theorem dX9_readSum_54 : decode cX9_readSum 54 = .ok (.iload_n 2, 1) := by decide +kernel
theorem dX9_readSum_55 : decode cX9_readSum 55 = .ok (.ifCond .le 30, 3) := by decide +kernel
theorem dX9_readSum_58 : decode cX9_readSum 58 = .ok (.iconst 0, 1) := by decide +kernel
theorem dX9_readSum_59 : decode cX9_readSum 59 = .ok (.istore_n 2, 1) := by decide +kernel
theorem dX9_readSum_60 : decode cX9_readSum 60 = .ok (.aload_n 0, 1) := by decide +kernel
theorem dX9_readSum_61 : decode cX9_readSum 61 = .ok (.getfield 35, 3) := by decide +kernel
theorem dX9_readSum_64 : decode cX9_readSum 64 = .ok (.iload 4, 2) := by decide +kernel
theorem dX9_readSum_66 : decode cX9_readSum 66 = .ok (.invokevirtual 104, 3) := by decide +kernel
theorem dX9_readSum_69 : decode cX9_readSum 69 = .ok (.aload_n 0, 1) := by decide +kernel
theorem dX9_readSum_70 : decode cX9_readSum 70 = .ok (.dup, 1) := by decide +kernel
theorem dX9_readSum_71 : decode cX9_readSum 71 = .ok (.getfield 39, 3) := by decide +kernel
theorem dX9_readSum_74 : decode cX9_readSum 74 = .ok (.iconst 1, 1) := by decide +kernel
theorem dX9_readSum_75 : decode cX9_readSum 75 = .ok (.iadd, 1) := by decide +kernel
theorem dX9_readSum_76 : decode cX9_readSum 76 = .ok (.putfield 39, 3) := by decide +kernel
theorem dX9_readSum_79 : decode cX9_readSum 79 = .ok (.iinc 3 1, 3) := by decide +kernel
theorem dX9_readSum_82 : decode cX9_readSum 82 = .ok (.goto (-70), 3) := by decide +kernel
theorem dX9_readSum_85 : decode cX9_readSum 85 = .ok (.iload_n 2, 1) := by decide +kernel
theorem dX9_readSum_86 : decode cX9_readSum 86 = .ok (.ifCond .le 7, 3) := by decide +kernel
theorem dX9_readSum_89 : decode cX9_readSum 89 = .ok (.iconst 1, 1) := by decide +kernel
theorem dX9_readSum_90 : decode cX9_readSum 90 = .ok (.goto 4, 3) := by decide +kernel
theorem dX9_readSum_93 : decode cX9_readSum 93 = .ok (.iconst 0, 1) := by decide +kernel
theorem dX9_readSum_94 : decode cX9_readSum 94 = .ok (.ireturn, 1) := by decide +kernel
theorem dX9_readNumber_0 : decode cX9_readNumber 0 = .ok (.iconst (-1), 1) := by decide +kernel
theorem dX9_readNumber_1 : decode cX9_readNumber 1 = .ok (.istore_n 2, 1) := by decide +kernel
theorem dX9_readNumber_2 : decode cX9_readNumber 2 = .ok (.iconst 0, 1) := by decide +kernel
theorem dX9_readNumber_3 : decode cX9_readNumber 3 = .ok (.istore_n 3, 1) := by decide +kernel
theorem dX9_readNumber_4 : decode cX9_readNumber 4 = .ok (.iload_n 3, 1) := by decide +kernel
theorem dX9_readNumber_5 : decode cX9_readNumber 5 = .ok (.iconst 2, 1) := by decide +kernel
theorem dX9_readNumber_6 : decode cX9_readNumber 6 = .ok (.if_icmp .ge 54, 3) := by decide +kernel
theorem dX9_readNumber_9 : decode cX9_readNumber 9 = .ok (.aload_n 1, 1) := by decide +kernel
theorem dX9_readNumber_10 : decode cX9_readNumber 10 = .ok (.aload_n 0, 1) := by decide +kernel
theorem dX9_readNumber_11 : decode cX9_readNumber 11 = .ok (.getfield 39, 3) := by decide +kernel
theorem dX9_readNumber_14 : decode cX9_readNumber 14 = .ok (.invokevirtual 55, 3) := by decide +kernel
theorem dX9_readNumber_17 : decode cX9_readNumber 17 = .ok (.invokestatic 98, 3) := by decide +kernel
theorem dX9_readNumber_20 : decode cX9_readNumber 20 = .ok (.ifCond .eq 40, 3) := by decide +kernel
theorem dX9_readNumber_23 : decode cX9_readNumber 23 = .ok (.iload_n 2, 1) := by decide +kernel
theorem dX9_readNumber_24 : decode cX9_readNumber 24 = .ok (.iconst 0, 1) := by decide +kernel
theorem dX9_readNumber_25 : decode cX9_readNumber 25 = .ok (.invokestatic 108, 3) := by decide +kernel
theorem dX9_readNumber_28 : decode cX9_readNumber 28 = .ok (.bipush 10, 2) := by decide +kernel
theorem dX9_readNumber_30 : decode cX9_readNumber 30 = .ok (.imul, 1) := by decide +kernel
theorem dX9_readNumber_31 : decode cX9_readNumber 31 = .ok (.aload_n 1, 1) := by decide +kernel
theorem dX9_readNumber_32 : decode cX9_readNumber 32 = .ok (.aload_n 0, 1) := by decide +kernel
theorem dX9_readNumber_33 : decode cX9_readNumber 33 = .ok (.getfield 39, 3) := by decide +kernel
theorem dX9_readNumber_36 : decode cX9_readNumber 36 = .ok (.invokevirtual 55, 3) := by decide +kernel
theorem dX9_readNumber_39 : decode cX9_readNumber 39 = .ok (.iadd, 1) := by decide +kernel
theorem dX9_readNumber_40 : decode cX9_readNumber 40 = .ok (.bipush 48, 2) := by decide +kernel
theorem dX9_readNumber_42 : decode cX9_readNumber 42 = .ok (.isub, 1) := by decide +kernel
theorem dX9_readNumber_43 : decode cX9_readNumber 43 = .ok (.istore_n 2, 1) := by decide +kernel
theorem dX9_readNumber_44 : decode cX9_readNumber 44 = .ok (.aload_n 0, 1) := by decide +kernel
theorem dX9_readNumber_45 : decode cX9_readNumber 45 = .ok (.dup, 1) := by decide +kernel
theorem dX9_readNumber_46 : decode cX9_readNumber 46 = .ok (.getfield 39, 3) := by decide +kernel
theorem dX9_readNumber_49 : decode cX9_readNumber 49 = .ok (.iconst 1, 1) := by decide +kernel
theorem dX9_readNumber_50 : decode cX9_readNumber 50 = .ok (.iadd, 1) := by decide +kernel
theorem dX9_readNumber_51 : decode cX9_readNumber 51 = .ok (.putfield 39, 3) := by decide +kernel
theorem dX9_readNumber_54 : decode cX9_readNumber 54 = .ok (.iinc 3 1, 3) := by decide +kernel
theorem dX9_readNumber_57 : decode cX9_readNumber 57 = .ok (.goto (-53), 3) := by decide +kernel
theorem dX9_readNumber_60 : decode cX9_readNumber 60 = .ok (.iload_n 2, 1) := by decide +kernel
theorem dX9_readNumber_61 : decode cX9_readNumber 61 = .ok (.ireturn, 1) := by decide +kernel
theorem dX9_isDigit_0 : decode cX9_isDigit 0 = .ok (.iload_n 0, 1) := by decide +kernel
theorem dX9_isDigit_1 : decode cX9_isDigit 1 = .ok (.bipush 48, 2) := by decide +kernel
theorem dX9_isDigit_3 : decode cX9_isDigit 3 = .ok (.if_icmp .lt 13, 3) := by decide +kernel
theorem dX9_isDigit_6 : decode cX9_isDigit 6 = .ok (.iload_n 0, 1) := by decide +kernel
theorem dX9_isDigit_7 : decode cX9_isDigit 7 = .ok (.bipush 57, 2) := by decide +kernel
theorem dX9_isDigit_9 : decode cX9_isDigit 9 = .ok (.if_icmp .gt 7, 3) := by decide +kernel
theorem dX9_isDigit_12 : decode cX9_isDigit 12 = .ok (.iconst 1, 1) := by decide +kernel
theorem dX9_isDigit_13 : decode cX9_isDigit 13 = .ok (.goto 4, 3) := by decide +kernel
theorem dX9_isDigit_16 : decode cX9_isDigit 16 = .ok (.iconst 0, 1) := by decide +kernel
theorem dX9_isDigit_17 : decode cX9_isDigit 17 = .ok (.ireturn, 1) := by decide +kernel
theorem dJ6_bitCount_0f7a4_0 : decode cJ6_bitCount_0f7a4 0 = .ok (.iload_n 0, 1) := by decide +kernel
theorem dJ6_bitCount_0f7a4_1 : decode cJ6_bitCount_0f7a4 1 = .ok (.iload_n 0, 1) := by decide +kernel
theorem dJ6_bitCount_0f7a4_2 : decode cJ6_bitCount_0f7a4 2 = .ok (.iconst 1, 1) := by decide +kernel
theorem dJ6_bitCount_0f7a4_3 : decode cJ6_bitCount_0f7a4 3 = .ok (.iushr, 1) := by decide +kernel
theorem dJ6_bitCount_0f7a4_4 : decode cJ6_bitCount_0f7a4 4 = .ok (.ldc_w 265, 3) := by decide +kernel
theorem dJ6_bitCount_0f7a4_7 : decode cJ6_bitCount_0f7a4 7 = .ok (.iand, 1) := by decide +kernel
theorem dJ6_bitCount_0f7a4_8 : decode cJ6_bitCount_0f7a4 8 = .ok (.isub, 1) := by decide +kernel
theorem dJ6_bitCount_0f7a4_9 : decode cJ6_bitCount_0f7a4 9 = .ok (.istore_n 0, 1) := by decide +kernel
theorem dJ6_bitCount_0f7a4_10 : decode cJ6_bitCount_0f7a4 10 = .ok (.iload_n 0, 1) := by decide +kernel
theorem dJ6_bitCount_0f7a4_11 : decode cJ6_bitCount_0f7a4 11 = .ok (.ldc_w 266, 3) := by decide +kernel
theorem dJ6_bitCount_0f7a4_14 : decode cJ6_bitCount_0f7a4 14 = .ok (.iand, 1) := by decide +kernel
theorem dJ6_bitCount_0f7a4_15 : decode cJ6_bitCount_0f7a4 15 = .ok (.iload_n 0, 1) := by decide +kernel
theorem dJ6_bitCount_0f7a4_16 : decode cJ6_bitCount_0f7a4 16 = .ok (.iconst 2, 1) := by decide +kernel
theorem dJ6_bitCount_0f7a4_17 : decode cJ6_bitCount_0f7a4 17 = .ok (.iushr, 1) := by decide +kernel
theorem dJ6_bitCount_0f7a4_18 : decode cJ6_bitCount_0f7a4 18 = .ok (.ldc_w 266, 3) := by decide +kernel
theorem dJ6_bitCount_0f7a4_21 : decode cJ6_bitCount_0f7a4 21 = .ok (.iand, 1) := by decide +kernel
theorem dJ6_bitCount_0f7a4_22 : decode cJ6_bitCount_0f7a4 22 = .ok (.iadd, 1) := by decide +kernel
theorem dJ6_bitCount_0f7a4_23 : decode cJ6_bitCount_0f7a4 23 = .ok (.istore_n 0, 1) := by decide +kernel
theorem dJ6_bitCount_0f7a4_24 : decode cJ6_bitCount_0f7a4 24 = .ok (.iload_n 0, 1) := by decide +kernel
theorem dJ6_bitCount_0f7a4_25 : decode cJ6_bitCount_0f7a4 25 = .ok (.iload_n 0, 1) := by decide +kernel
theorem dJ6_bitCount_0f7a4_26 : decode cJ6_bitCount_0f7a4 26 = .ok (.iconst 4, 1) := by decide +kernel
theorem dJ6_bitCount_0f7a4_27 : decode cJ6_bitCount_0f7a4 27 = .ok (.iushr, 1) := by decide +kernel
theorem dJ6_bitCount_0f7a4_28 : decode cJ6_bitCount_0f7a4 28 = .ok (.iadd, 1) := by decide +kernel
theorem dJ6_bitCount_0f7a4_29 : decode cJ6_bitCount_0f7a4 29 = .ok (.ldc_w 267, 3) := by decide +kernel
theorem dJ6_bitCount_0f7a4_32 : decode cJ6_bitCount_0f7a4 32 = .ok (.iand, 1) := by decide +kernel
theorem dJ6_bitCount_0f7a4_33 : decode cJ6_bitCount_0f7a4 33 = .ok (.istore_n 0, 1) := by decide +kernel
theorem dJ6_bitCount_0f7a4_34 : decode cJ6_bitCount_0f7a4 34 = .ok (.iload_n 0, 1) := by decide +kernel
theorem dJ6_bitCount_0f7a4_35 : decode cJ6_bitCount_0f7a4 35 = .ok (.iload_n 0, 1) := by decide +kernel
theorem dJ6_bitCount_0f7a4_36 : decode cJ6_bitCount_0f7a4 36 = .ok (.bipush 8, 2) := by decide +kernel
theorem dJ6_bitCount_0f7a4_38 : decode cJ6_bitCount_0f7a4 38 = .ok (.iushr, 1) := by decide +kernel
theorem dJ6_bitCount_0f7a4_39 : decode cJ6_bitCount_0f7a4 39 = .ok (.iadd, 1) := by decide +kernel
theorem dJ6_bitCount_0f7a4_40 : decode cJ6_bitCount_0f7a4 40 = .ok (.istore_n 0, 1) := by decide +kernel
theorem dJ6_bitCount_0f7a4_41 : decode cJ6_bitCount_0f7a4 41 = .ok (.iload_n 0, 1) := by decide +kernel
theorem dJ6_bitCount_0f7a4_42 : decode cJ6_bitCount_0f7a4 42 = .ok (.iload_n 0, 1) := by decide +kernel
theorem dJ6_bitCount_0f7a4_43 : decode cJ6_bitCount_0f7a4 43 = .ok (.bipush 16, 2) := by decide +kernel
theorem dJ6_bitCount_0f7a4_45 : decode cJ6_bitCount_0f7a4 45 = .ok (.iushr, 1) := by decide +kernel
theorem dJ6_bitCount_0f7a4_46 : decode cJ6_bitCount_0f7a4 46 = .ok (.iadd, 1) := by decide +kernel
theorem dJ6_bitCount_0f7a4_47 : decode cJ6_bitCount_0f7a4 47 = .ok (.istore_n 0, 1) := by decide +kernel
theorem dJ6_bitCount_0f7a4_48 : decode cJ6_bitCount_0f7a4 48 = .ok (.iload_n 0, 1) := by decide +kernel
theorem dJ6_bitCount_0f7a4_49 : decode cJ6_bitCount_0f7a4 49 = .ok (.bipush 63, 2) := by decide +kernel
theorem dJ6_bitCount_0f7a4_51 : decode cJ6_bitCount_0f7a4 51 = .ok (.iand, 1) := by decide +kernel
theorem dJ6_bitCount_0f7a4_52 : decode cJ6_bitCount_0f7a4 52 = .ok (.ireturn, 1) := by decide +kernel
theorem dJ9_max_7cf53_0 : decode cJ9_max_7cf53 0 = .ok (.iload_n 0, 1) := by decide +kernel
theorem dJ9_max_7cf53_1 : decode cJ9_max_7cf53 1 = .ok (.iload_n 1, 1) := by decide +kernel
theorem dJ9_max_7cf53_2 : decode cJ9_max_7cf53 2 = .ok (.if_icmp .lt 7, 3) := by decide +kernel
theorem dJ9_max_7cf53_5 : decode cJ9_max_7cf53 5 = .ok (.iload_n 0, 1) := by decide +kernel
theorem dJ9_max_7cf53_6 : decode cJ9_max_7cf53 6 = .ok (.goto 4, 3) := by decide +kernel
theorem dJ9_max_7cf53_9 : decode cJ9_max_7cf53 9 = .ok (.iload_n 1, 1) := by decide +kernel
theorem dJ9_max_7cf53_10 : decode cJ9_max_7cf53 10 = .ok (.ireturn, 1) := by decide +kernel
theorem dJ9_max_f86c9_0 : decode cJ9_max_f86c9 0 = .ok (.lload_n 0, 1) := by decide +kernel
theorem dJ9_max_f86c9_1 : decode cJ9_max_f86c9 1 = .ok (.lload_n 2, 1) := by decide +kernel
theorem dJ9_max_f86c9_2 : decode cJ9_max_f86c9 2 = .ok (.lcmp, 1) := by decide +kernel
theorem dJ9_max_f86c9_3 : decode cJ9_max_f86c9 3 = .ok (.ifCond .lt 7, 3) := by decide +kernel
theorem dJ9_max_f86c9_6 : decode cJ9_max_f86c9 6 = .ok (.lload_n 0, 1) := by decide +kernel
theorem dJ9_max_f86c9_7 : decode cJ9_max_f86c9 7 = .ok (.goto 4, 3) := by decide +kernel
theorem dJ9_max_f86c9_10 : decode cJ9_max_f86c9 10 = .ok (.lload_n 2, 1) := by decide +kernel
theorem dJ9_max_f86c9_11 : decode cJ9_max_f86c9 11 = .ok (.lreturn, 1) := by decide +kernel
theorem dJ9_min_7cf53_0 : decode cJ9_min_7cf53 0 = .ok (.iload_n 0, 1) := by decide +kernel
theorem dJ9_min_7cf53_1 : decode cJ9_min_7cf53 1 = .ok (.iload_n 1, 1) := by decide +kernel
theorem dJ9_min_7cf53_2 : decode cJ9_min_7cf53 2 = .ok (.if_icmp .gt 7, 3) := by decide +kernel
theorem dJ9_min_7cf53_5 : decode cJ9_min_7cf53 5 = .ok (.iload_n 0, 1) := by decide +kernel
theorem dJ9_min_7cf53_6 : decode cJ9_min_7cf53 6 = .ok (.goto 4, 3) := by decide +kernel
theorem dJ9_min_7cf53_9 : decode cJ9_min_7cf53 9 = .ok (.iload_n 1, 1) := by decide +kernel
theorem dJ9_min_7cf53_10 : decode cJ9_min_7cf53 10 = .ok (.ireturn, 1) := by decide +kernel
theorem dJ9_min_f86c9_0 : decode cJ9_min_f86c9 0 = .ok (.lload_n 0, 1) := by decide +kernel
theorem dJ9_min_f86c9_1 : decode cJ9_min_f86c9 1 = .ok (.lload_n 2, 1) := by decide +kernel
theorem dJ9_min_f86c9_2 : decode cJ9_min_f86c9 2 = .ok (.lcmp, 1) := by decide +kernel
theorem dJ9_min_f86c9_3 : decode cJ9_min_f86c9 3 = .ok (.ifCond .gt 7, 3) := by decide +kernel
theorem dJ9_min_f86c9_6 : decode cJ9_min_f86c9 6 = .ok (.lload_n 0, 1) := by decide +kernel
theorem dJ9_min_f86c9_7 : decode cJ9_min_f86c9 7 = .ok (.goto 4, 3) := by decide +kernel
theorem dJ9_min_f86c9_10 : decode cJ9_min_f86c9 10 = .ok (.lload_n 2, 1) := by decide +kernel
theorem dJ9_min_f86c9_11 : decode cJ9_min_f86c9 11 = .ok (.lreturn, 1) := by decide +kernel
theorem dJ0_length_8abf5_0 : decode cJ0_length_8abf5 0 = .ok (.aload_n 0, 1) := by decide +kernel
theorem dJ0_length_8abf5_1 : decode cJ0_length_8abf5 1 = .ok (.getfield 9, 3) := by decide +kernel
theorem dJ0_length_8abf5_4 : decode cJ0_length_8abf5 4 = .ok (.arraylength, 1) := by decide +kernel
theorem dJ0_length_8abf5_5 : decode cJ0_length_8abf5 5 = .ok (.aload_n 0, 1) := by decide +kernel
theorem dJ0_length_8abf5_6 : decode cJ0_length_8abf5 6 = .ok (.invokevirtual 335, 3) := by decide +kernel
theorem dJ0_length_8abf5_9 : decode cJ0_length_8abf5 9 = .ok (.ishr, 1) := by decide +kernel
theorem dJ0_length_8abf5_10 : decode cJ0_length_8abf5 10 = .ok (.ireturn, 1) := by decide +kernel
theorem dJ0_charAt_5068e_0 : decode cJ0_charAt_5068e 0 = .ok (.aload_n 0, 1) := by decide +kernel
theorem dJ0_charAt_5068e_1 : decode cJ0_charAt_5068e 1 = .ok (.invokevirtual 492, 3) := by decide +kernel
theorem dJ0_charAt_5068e_4 : decode cJ0_charAt_5068e 4 = .ok (.ifCond .eq 12, 3) := by decide +kernel
theorem dJ0_charAt_5068e_7 : decode cJ0_charAt_5068e 7 = .ok (.aload_n 0, 1) := by decide +kernel
theorem dJ0_charAt_5068e_8 : decode cJ0_charAt_5068e 8 = .ok (.getfield 9, 3) := by decide +kernel
theorem dJ0_charAt_5068e_11 : decode cJ0_charAt_5068e 11 = .ok (.iload_n 1, 1) := by decide +kernel
theorem dJ0_charAt_5068e_12 : decode cJ0_charAt_5068e 12 = .ok (.invokestatic 495, 3) := by decide +kernel
theorem dJ0_charAt_5068e_15 : decode cJ0_charAt_5068e 15 = .ok (.ireturn, 1) := by decide +kernel
theorem dJ0_charAt_5068e_16 : decode cJ0_charAt_5068e 16 = .ok (.aload_n 0, 1) := by decide +kernel
theorem dJ0_charAt_5068e_17 : decode cJ0_charAt_5068e 17 = .ok (.getfield 9, 3) := by decide +kernel
theorem dJ0_charAt_5068e_20 : decode cJ0_charAt_5068e 20 = .ok (.iload_n 1, 1) := by decide +kernel
theorem dJ0_charAt_5068e_21 : decode cJ0_charAt_5068e 21 = .ok (.invokestatic 498, 3) := by decide +kernel
theorem dJ0_charAt_5068e_24 : decode cJ0_charAt_5068e 24 = .ok (.ireturn, 1) := by decide +kernel
theorem dJ0_coder_7d493_0 : decode cJ0_coder_7d493 0 = .ok (.getstatic 38, 3) := by decide +kernel
theorem dJ0_coder_7d493_3 : decode cJ0_coder_7d493 3 = .ok (.ifCond .eq 10, 3) := by decide +kernel
theorem dJ0_coder_7d493_6 : decode cJ0_coder_7d493 6 = .ok (.aload_n 0, 1) := by decide +kernel
theorem dJ0_coder_7d493_7 : decode cJ0_coder_7d493 7 = .ok (.getfield 15, 3) := by decide +kernel
theorem dJ0_coder_7d493_10 : decode cJ0_coder_7d493 10 = .ok (.goto 4, 3) := by decide +kernel
theorem dJ0_coder_7d493_13 : decode cJ0_coder_7d493 13 = .ok (.iconst 1, 1) := by decide +kernel
theorem dJ0_coder_7d493_14 : decode cJ0_coder_7d493 14 = .ok (.ireturn, 1) := by decide +kernel
theorem dJ0_isLatin1_aae02_0 : decode cJ0_isLatin1_aae02 0 = .ok (.getstatic 38, 3) := by decide +kernel
theorem dJ0_isLatin1_aae02_3 : decode cJ0_isLatin1_aae02 3 = .ok (.ifCond .eq 14, 3) := by decide +kernel
theorem dJ0_isLatin1_aae02_6 : decode cJ0_isLatin1_aae02 6 = .ok (.aload_n 0, 1) := by decide +kernel
theorem dJ0_isLatin1_aae02_7 : decode cJ0_isLatin1_aae02 7 = .ok (.getfield 15, 3) := by decide +kernel
theorem dJ0_isLatin1_aae02_10 : decode cJ0_isLatin1_aae02 10 = .ok (.ifCond .ne 7, 3) := by decide +kernel
theorem dJ0_isLatin1_aae02_13 : decode cJ0_isLatin1_aae02 13 = .ok (.iconst 1, 1) := by decide +kernel
theorem dJ0_isLatin1_aae02_14 : decode cJ0_isLatin1_aae02 14 = .ok (.goto 4, 3) := by decide +kernel
theorem dJ0_isLatin1_aae02_17 : decode cJ0_isLatin1_aae02 17 = .ok (.iconst 0, 1) := by decide +kernel
theorem dJ0_isLatin1_aae02_18 : decode cJ0_isLatin1_aae02 18 = .ok (.ireturn, 1) := by decide +kernel
theorem dJ0_checkIndex_df160_0 : decode cJ0_checkIndex_df160 0 = .ok (.iload_n 0, 1) := by decide +kernel
theorem dJ0_checkIndex_df160_1 : decode cJ0_checkIndex_df160 1 = .ok (.iload_n 1, 1) := by decide +kernel
theorem dJ0_checkIndex_df160_2 : decode cJ0_checkIndex_df160 2 = .ok (.getstatic 1053, 3) := by decide +kernel
theorem dJ0_checkIndex_df160_5 : decode cJ0_checkIndex_df160 5 = .ok (.invokestatic 1059, 3) := by decide +kernel
theorem dJ0_checkIndex_df160_8 : decode cJ0_checkIndex_df160 8 = .ok (.pop, 1) := by decide +kernel
theorem dJ0_checkIndex_df160_9 : decode cJ0_checkIndex_df160 9 = .ok (.return_, 1) := by decide +kernel
theorem dJ1_charAt_3b067_0 : decode cJ1_charAt_3b067 0 = .ok (.iload_n 1, 1) := by decide +kernel
theorem dJ1_charAt_3b067_1 : decode cJ1_charAt_3b067 1 = .ok (.aload_n 0, 1) := by decide +kernel
theorem dJ1_charAt_3b067_2 : decode cJ1_charAt_3b067 2 = .ok (.arraylength, 1) := by decide +kernel
theorem dJ1_charAt_3b067_3 : decode cJ1_charAt_3b067 3 = .ok (.invokestatic 9, 3) := by decide +kernel
theorem dJ1_charAt_3b067_6 : decode cJ1_charAt_3b067 6 = .ok (.aload_n 0, 1) := by decide +kernel
theorem dJ1_charAt_3b067_7 : decode cJ1_charAt_3b067 7 = .ok (.iload_n 1, 1) := by decide +kernel
theorem dJ1_charAt_3b067_8 : decode cJ1_charAt_3b067 8 = .ok (.baload, 1) := by decide +kernel
theorem dJ1_charAt_3b067_9 : decode cJ1_charAt_3b067 9 = .ok (.sipush 255, 3) := by decide +kernel
theorem dJ1_charAt_3b067_12 : decode cJ1_charAt_3b067 12 = .ok (.iand, 1) := by decide +kernel
theorem dJ1_charAt_3b067_13 : decode cJ1_charAt_3b067 13 = .ok (.i2c, 1) := by decide +kernel
theorem dJ1_charAt_3b067_14 : decode cJ1_charAt_3b067 14 = .ok (.ireturn, 1) := by decide +kernel
theorem dJ2_getChar_3b067_0 : decode cJ2_getChar_3b067 0 = .ok (.getstatic 44, 3) := by decide +kernel
theorem dJ2_getChar_3b067_3 : decode cJ2_getChar_3b067 3 = .ok (.ifCond .ne 25, 3) := by decide +kernel
theorem dJ2_getChar_3b067_6 : decode cJ2_getChar_3b067 6 = .ok (.iload_n 1, 1) := by decide +kernel
theorem dJ2_getChar_3b067_7 : decode cJ2_getChar_3b067 7 = .ok (.ifCond .lt 11, 3) := by decide +kernel
theorem dJ2_getChar_3b067_10 : decode cJ2_getChar_3b067 10 = .ok (.iload_n 1, 1) := by decide +kernel
theorem dJ2_getChar_3b067_11 : decode cJ2_getChar_3b067 11 = .ok (.aload_n 0, 1) := by decide +kernel
theorem dJ2_getChar_3b067_12 : decode cJ2_getChar_3b067 12 = .ok (.invokestatic 48, 3) := by decide +kernel
theorem dJ2_getChar_3b067_15 : decode cJ2_getChar_3b067 15 = .ok (.if_icmp .lt 13, 3) := by decide +kernel
theorem dJ2_getChar_3b067_18 : decode cJ2_getChar_3b067 18 = .ok (.new 52, 3) := by decide +kernel
theorem dJ2_getChar_3b067_21 : decode cJ2_getChar_3b067 21 = .ok (.dup, 1) := by decide +kernel
theorem dJ2_getChar_3b067_22 : decode cJ2_getChar_3b067 22 = .ok (.ldc 54, 2) := by decide +kernel
theorem dJ2_getChar_3b067_24 : decode cJ2_getChar_3b067 24 = .ok (.invokespecial 56, 3) := by decide +kernel
theorem dJ2_getChar_3b067_27 : decode cJ2_getChar_3b067 27 = .ok (.athrow, 1) := by decide +kernel
theorem dJ2_getChar_3b067_28 : decode cJ2_getChar_3b067 28 = .ok (.iload_n 1, 1) := by decide +kernel
theorem dJ2_getChar_3b067_29 : decode cJ2_getChar_3b067 29 = .ok (.iconst 1, 1) := by decide +kernel
theorem dJ2_getChar_3b067_30 : decode cJ2_getChar_3b067 30 = .ok (.ishl, 1) := by decide +kernel
theorem dJ2_getChar_3b067_31 : decode cJ2_getChar_3b067 31 = .ok (.istore_n 1, 1) := by decide +kernel
theorem dJ2_getChar_3b067_32 : decode cJ2_getChar_3b067 32 = .ok (.aload_n 0, 1) := by decide +kernel
theorem dJ2_getChar_3b067_33 : decode cJ2_getChar_3b067 33 = .ok (.iload_n 1, 1) := by decide +kernel
theorem dJ2_getChar_3b067_34 : decode cJ2_getChar_3b067 34 = .ok (.iinc 1 1, 3) := by decide +kernel
theorem dJ2_getChar_3b067_37 : decode cJ2_getChar_3b067 37 = .ok (.baload, 1) := by decide +kernel
theorem dJ2_getChar_3b067_38 : decode cJ2_getChar_3b067 38 = .ok (.sipush 255, 3) := by decide +kernel
theorem dJ2_getChar_3b067_41 : decode cJ2_getChar_3b067 41 = .ok (.iand, 1) := by decide +kernel
theorem dJ2_getChar_3b067_42 : decode cJ2_getChar_3b067 42 = .ok (.getstatic 59, 3) := by decide +kernel
theorem dJ2_getChar_3b067_45 : decode cJ2_getChar_3b067 45 = .ok (.ishl, 1) := by decide +kernel
theorem dJ2_getChar_3b067_46 : decode cJ2_getChar_3b067 46 = .ok (.aload_n 0, 1) := by decide +kernel
theorem dJ2_getChar_3b067_47 : decode cJ2_getChar_3b067 47 = .ok (.iload_n 1, 1) := by decide +kernel
theorem dJ2_getChar_3b067_48 : decode cJ2_getChar_3b067 48 = .ok (.baload, 1) := by decide +kernel
theorem dJ2_getChar_3b067_49 : decode cJ2_getChar_3b067 49 = .ok (.sipush 255, 3) := by decide +kernel
theorem dJ2_getChar_3b067_52 : decode cJ2_getChar_3b067 52 = .ok (.iand, 1) := by decide +kernel
theorem dJ2_getChar_3b067_53 : decode cJ2_getChar_3b067 53 = .ok (.getstatic 63, 3) := by decide +kernel
theorem dJ2_getChar_3b067_56 : decode cJ2_getChar_3b067 56 = .ok (.ishl, 1) := by decide +kernel
theorem dJ2_getChar_3b067_57 : decode cJ2_getChar_3b067 57 = .ok (.ior, 1) := by decide +kernel
theorem dJ2_getChar_3b067_58 : decode cJ2_getChar_3b067 58 = .ok (.i2c, 1) := by decide +kernel
theorem dJ2_getChar_3b067_59 : decode cJ2_getChar_3b067 59 = .ok (.ireturn, 1) := by decide +kernel
theorem dJ2_length_9d52b_0 : decode cJ2_length_9d52b 0 = .ok (.aload_n 0, 1) := by decide +kernel
theorem dJ2_length_9d52b_1 : decode cJ2_length_9d52b 1 = .ok (.arraylength, 1) := by decide +kernel
theorem dJ2_length_9d52b_2 : decode cJ2_length_9d52b 2 = .ok (.iconst 1, 1) := by decide +kernel
theorem dJ2_length_9d52b_3 : decode cJ2_length_9d52b 3 = .ok (.ishr, 1) := by decide +kernel
theorem dJ2_length_9d52b_4 : decode cJ2_length_9d52b 4 = .ok (.ireturn, 1) := by decide +kernel
theorem dJ2_charAt_3b067_0 : decode cJ2_charAt_3b067 0 = .ok (.iload_n 1, 1) := by decide +kernel
theorem dJ2_charAt_3b067_1 : decode cJ2_charAt_3b067 1 = .ok (.aload_n 0, 1) := by decide +kernel
theorem dJ2_charAt_3b067_2 : decode cJ2_charAt_3b067 2 = .ok (.invokestatic 67, 3) := by decide +kernel
theorem dJ2_charAt_3b067_5 : decode cJ2_charAt_3b067 5 = .ok (.aload_n 0, 1) := by decide +kernel
theorem dJ2_charAt_3b067_6 : decode cJ2_charAt_3b067 6 = .ok (.iload_n 1, 1) := by decide +kernel
theorem dJ2_charAt_3b067_7 : decode cJ2_charAt_3b067 7 = .ok (.invokestatic 71, 3) := by decide +kernel
theorem dJ2_charAt_3b067_10 : decode cJ2_charAt_3b067 10 = .ok (.ireturn, 1) := by decide +kernel
theorem dJ2_checkIndex_2214a_0 : decode cJ2_checkIndex_2214a 0 = .ok (.iload_n 0, 1) := by decide +kernel
theorem dJ2_checkIndex_2214a_1 : decode cJ2_checkIndex_2214a 1 = .ok (.aload_n 1, 1) := by decide +kernel
theorem dJ2_checkIndex_2214a_2 : decode cJ2_checkIndex_2214a 2 = .ok (.invokestatic 48, 3) := by decide +kernel
theorem dJ2_checkIndex_2214a_5 : decode cJ2_checkIndex_2214a 5 = .ok (.invokestatic 414, 3) := by decide +kernel
theorem dJ2_checkIndex_2214a_8 : decode cJ2_checkIndex_2214a 8 = .ok (.return_, 1) := by decide +kernel
theorem dJ3_checkIndex_8e157_0 : decode cJ3_checkIndex_8e157 0 = .ok (.iload_n 0, 1) := by decide +kernel
theorem dJ3_checkIndex_8e157_1 : decode cJ3_checkIndex_8e157 1 = .ok (.ifCond .lt 8, 3) := by decide +kernel
theorem dJ3_checkIndex_8e157_4 : decode cJ3_checkIndex_8e157 4 = .ok (.iload_n 0, 1) := by decide +kernel
theorem dJ3_checkIndex_8e157_5 : decode cJ3_checkIndex_8e157 5 = .ok (.iload_n 1, 1) := by decide +kernel
theorem dJ3_checkIndex_8e157_6 : decode cJ3_checkIndex_8e157 6 = .ok (.if_icmp .lt 10, 3) := by decide +kernel
theorem dJ3_checkIndex_8e157_9 : decode cJ3_checkIndex_8e157 9 = .ok (.aload_n 2, 1) := by decide +kernel
theorem dJ3_checkIndex_8e157_10 : decode cJ3_checkIndex_8e157 10 = .ok (.iload_n 0, 1) := by decide +kernel
theorem dJ3_checkIndex_8e157_11 : decode cJ3_checkIndex_8e157 11 = .ok (.iload_n 1, 1) := by decide +kernel
theorem dJ3_checkIndex_8e157_12 : decode cJ3_checkIndex_8e157 12 = .ok (.invokestatic 95, 3) := by decide +kernel
theorem dJ3_checkIndex_8e157_15 : decode cJ3_checkIndex_8e157 15 = .ok (.athrow, 1) := by decide +kernel
theorem dJ3_checkIndex_8e157_16 : decode cJ3_checkIndex_8e157 16 = .ok (.iload_n 0, 1) := by decide +kernel
theorem dJ3_checkIndex_8e157_17 : decode cJ3_checkIndex_8e157 17 = .ok (.ireturn, 1) := by decide +kernel
