theorem dX3_init_0 : decode cX3_init 0 = .ok (.aload_n 0, 1) := by decide +kernel
theorem dX3_init_1 : decode cX3_init 1 = .ok (.invokespecial 3, 3) := by decide +kernel
theorem dX3_init_4 : decode cX3_init 4 = .ok (.aload_n 0, 1) := by decide +kernel
theorem dX3_init_5 : decode cX3_init 5 = .ok (.bipush 60, 2) := by decide +kernel
theorem dX3_init_7 : decode cX3_init 7 = .ok (.newarray .int, 2) := by decide +kernel
theorem dX3_init_9 : decode cX3_init 9 = .ok (.putfield 9, 3) := by decide +kernel
theorem dX3_init_12 : decode cX3_init 12 = .ok (.return_, 1) := by decide +kernel
theorem dX3_write_0 : decode cX3_write 0 = .ok (.aload_n 0, 1) := by decide +kernel
theorem dX3_write_1 : decode cX3_write 1 = .ok (.getfield 15, 3) := by decide +kernel
theorem dX3_write_4 : decode cX3_write 4 = .ok (.bipush 60, 2) := by decide +kernel
theorem dX3_write_6 : decode cX3_write 6 = .ok (.if_icmp .lt 5, 3) := by decide +kernel
theorem dX3_write_9 : decode cX3_write 9 = .ok (.iconst 0, 1) := by decide +kernel
theorem dX3_write_10 : decode cX3_write 10 = .ok (.ireturn, 1) := by decide +kernel
theorem dX3_write_11 : decode cX3_write 11 = .ok (.aload_n 0, 1) := by decide +kernel
theorem dX3_write_12 : decode cX3_write 12 = .ok (.getfield 9, 3) := by decide +kernel
theorem dX3_write_15 : decode cX3_write 15 = .ok (.aload_n 0, 1) := by decide +kernel
theorem dX3_write_16 : decode cX3_write 16 = .ok (.getfield 15, 3) := by decide +kernel
theorem dX3_write_19 : decode cX3_write 19 = .ok (.iload_n 1, 1) := by decide +kernel
theorem dX3_write_20 : decode cX3_write 20 = .ok (.iastore, 1) := by decide +kernel
theorem dX3_write_21 : decode cX3_write 21 = .ok (.aload_n 0, 1) := by decide +kernel
theorem dX3_write_22 : decode cX3_write 22 = .ok (.dup, 1) := by decide +kernel
theorem dX3_write_23 : decode cX3_write 23 = .ok (.getfield 15, 3) := by decide +kernel
theorem dX3_write_26 : decode cX3_write 26 = .ok (.iconst 1, 1) := by decide +kernel
theorem dX3_write_27 : decode cX3_write 27 = .ok (.iadd, 1) := by decide +kernel
theorem dX3_write_28 : decode cX3_write 28 = .ok (.putfield 15, 3) := by decide +kernel
theorem dX3_write_31 : decode cX3_write 31 = .ok (.iconst 1, 1) := by decide +kernel
theorem dX3_write_32 : decode cX3_write 32 = .ok (.ireturn, 1) := by decide +kernel
theorem dX3_faultPlace_0 : decode cX3_faultPlace 0 = .ok (.iconst 0, 1) := by decide +kernel
theorem dX3_faultPlace_1 : decode cX3_faultPlace 1 = .ok (.istore_n 1, 1) := by decide +kernel
theorem dX3_faultPlace_2 : decode cX3_faultPlace 2 = .ok (.iconst 0, 1) := by decide +kernel
theorem dX3_faultPlace_3 : decode cX3_faultPlace 3 = .ok (.istore_n 2, 1) := by decide +kernel
theorem dX3_faultPlace_4 : decode cX3_faultPlace 4 = .ok (.iload_n 2, 1) := by decide +kernel
theorem dX3_faultPlace_5 : decode cX3_faultPlace 5 = .ok (.aload_n 0, 1) := by decide +kernel
theorem dX3_faultPlace_6 : decode cX3_faultPlace 6 = .ok (.getfield 15, 3) := by decide +kernel
theorem dX3_faultPlace_9 : decode cX3_faultPlace 9 = .ok (.if_icmp .ge 27, 3) := by decide +kernel
theorem dX3_faultPlace_12 : decode cX3_faultPlace 12 = .ok (.iload_n 1, 1) := by decide +kernel
theorem dX3_faultPlace_13 : decode cX3_faultPlace 13 = .ok (.aload_n 0, 1) := by decide +kernel
theorem dX3_faultPlace_14 : decode cX3_faultPlace 14 = .ok (.getfield 9, 3) := by decide +kernel
theorem dX3_faultPlace_17 : decode cX3_faultPlace 17 = .ok (.iload_n 2, 1) := by decide +kernel
theorem dX3_faultPlace_18 : decode cX3_faultPlace 18 = .ok (.iaload, 1) := by decide +kernel
theorem dX3_faultPlace_19 : decode cX3_faultPlace 19 = .ok (.invokestatic 19, 3) := by decide +kernel
theorem dX3_faultPlace_22 : decode cX3_faultPlace 22 = .ok (.istore_n 1, 1) := by decide +kernel
theorem dX3_faultPlace_23 : decode cX3_faultPlace 23 = .ok (.iload_n 1, 1) := by decide +kernel
theorem dX3_faultPlace_24 : decode cX3_faultPlace 24 = .ok (.iconst 3, 1) := by decide +kernel
theorem dX3_faultPlace_25 : decode cX3_faultPlace 25 = .ok (.if_icmp .ne 5, 3) := by decide +kernel
theorem dX3_faultPlace_28 : decode cX3_faultPlace 28 = .ok (.iload_n 2, 1) := by decide +kernel
theorem dX3_faultPlace_29 : decode cX3_faultPlace 29 = .ok (.ireturn, 1) := by decide +kernel
theorem dX3_faultPlace_30 : decode cX3_faultPlace 30 = .ok (.iinc 2 1, 3) := by decide +kernel
theorem dX3_faultPlace_33 : decode cX3_faultPlace 33 = .ok (.goto (-29), 3) := by decide +kernel
theorem dX3_faultPlace_36 : decode cX3_faultPlace 36 = .ok (.iload_n 1, 1) := by decide +kernel
theorem dX3_faultPlace_37 : decode cX3_faultPlace 37 = .ok (.ifCond .ne 8, 3) := by decide +kernel
theorem dX3_faultPlace_40 : decode cX3_faultPlace 40 = .ok (.bipush (-6), 2) := by decide +kernel
theorem dX3_faultPlace_42 : decode cX3_faultPlace 42 = .ok (.goto 7, 3) := by decide +kernel
theorem dX3_faultPlace_45 : decode cX3_faultPlace 45 = .ok (.aload_n 0, 1) := by decide +kernel
theorem dX3_faultPlace_46 : decode cX3_faultPlace 46 = .ok (.getfield 15, 3) := by decide +kernel
theorem dX3_faultPlace_49 : decode cX3_faultPlace 49 = .ok (.ireturn, 1) := by decide +kernel
theorem dX3_wantedBehind_0 : decode cX3_wantedBehind 0 = .ok (.iload_n 0, 1) := by decide +kernel
theorem dX3_wantedBehind_1 : decode cX3_wantedBehind 1 = .ok (.iconst 2, 1) := by decide +kernel
theorem dX3_wantedBehind_2 : decode cX3_wantedBehind 2 = .ok (.if_icmp .ne 15, 3) := by decide +kernel
theorem dX3_wantedBehind_5 : decode cX3_wantedBehind 5 = .ok (.iload_n 1, 1) := by decide +kernel
theorem dX3_wantedBehind_6 : decode cX3_wantedBehind 6 = .ok (.bipush 46, 2) := by decide +kernel
theorem dX3_wantedBehind_8 : decode cX3_wantedBehind 8 = .ok (.if_icmp .ne 7, 3) := by decide +kernel
theorem dX3_wantedBehind_11 : decode cX3_wantedBehind 11 = .ok (.iconst 0, 1) := by decide +kernel
theorem dX3_wantedBehind_12 : decode cX3_wantedBehind 12 = .ok (.goto 4, 3) := by decide +kernel
theorem dX3_wantedBehind_15 : decode cX3_wantedBehind 15 = .ok (.iconst 3, 1) := by decide +kernel
theorem dX3_wantedBehind_16 : decode cX3_wantedBehind 16 = .ok (.ireturn, 1) := by decide +kernel
theorem dX3_wantedBehind_17 : decode cX3_wantedBehind 17 = .ok (.iload_n 1, 1) := by decide +kernel
theorem dX3_wantedBehind_18 : decode cX3_wantedBehind 18 = .ok (.bipush 33, 2) := by decide +kernel
theorem dX3_wantedBehind_20 : decode cX3_wantedBehind 20 = .ok (.if_icmp .ne 13, 3) := by decide +kernel
theorem dX3_wantedBehind_23 : decode cX3_wantedBehind 23 = .ok (.iload_n 0, 1) := by decide +kernel
theorem dX3_wantedBehind_24 : decode cX3_wantedBehind 24 = .ok (.ifCond .ne 7, 3) := by decide +kernel
theorem dX3_wantedBehind_27 : decode cX3_wantedBehind 27 = .ok (.iconst 1, 1) := by decide +kernel
theorem dX3_wantedBehind_28 : decode cX3_wantedBehind 28 = .ok (.goto 4, 3) := by decide +kernel
theorem dX3_wantedBehind_31 : decode cX3_wantedBehind 31 = .ok (.iconst 3, 1) := by decide +kernel
theorem dX3_wantedBehind_32 : decode cX3_wantedBehind 32 = .ok (.ireturn, 1) := by decide +kernel
theorem dX3_wantedBehind_33 : decode cX3_wantedBehind 33 = .ok (.iload_n 1, 1) := by decide +kernel
theorem dX3_wantedBehind_34 : decode cX3_wantedBehind 34 = .ok (.invokestatic 23, 3) := by decide +kernel
theorem dX3_wantedBehind_37 : decode cX3_wantedBehind 37 = .ok (.istore_n 2, 1) := by decide +kernel
theorem dX3_wantedBehind_38 : decode cX3_wantedBehind 38 = .ok (.iload_n 2, 1) := by decide +kernel
theorem dX3_wantedBehind_39 : decode cX3_wantedBehind 39 = .ok (.bipush (-6), 2) := by decide +kernel
theorem dX3_wantedBehind_41 : decode cX3_wantedBehind 41 = .ok (.if_icmp .eq 12, 3) := by decide +kernel
theorem dX3_wantedBehind_44 : decode cX3_wantedBehind 44 = .ok (.iload_n 2, 1) := by decide +kernel
theorem dX3_wantedBehind_45 : decode cX3_wantedBehind 45 = .ok (.ifCond .ne 10, 3) := by decide +kernel
theorem dX3_wantedBehind_48 : decode cX3_wantedBehind 48 = .ok (.iload_n 0, 1) := by decide +kernel
theorem dX3_wantedBehind_49 : decode cX3_wantedBehind 49 = .ok (.iconst 1, 1) := by decide +kernel
theorem dX3_wantedBehind_50 : decode cX3_wantedBehind 50 = .ok (.if_icmp .ne 5, 3) := by decide +kernel
theorem dX3_wantedBehind_53 : decode cX3_wantedBehind 53 = .ok (.iconst 3, 1) := by decide +kernel
theorem dX3_wantedBehind_54 : decode cX3_wantedBehind 54 = .ok (.ireturn, 1) := by decide +kernel
theorem dX3_wantedBehind_55 : decode cX3_wantedBehind 55 = .ok (.iload_n 2, 1) := by decide +kernel
theorem dX3_wantedBehind_56 : decode cX3_wantedBehind 56 = .ok (.iconst 3, 1) := by decide +kernel
theorem dX3_wantedBehind_57 : decode cX3_wantedBehind 57 = .ok (.if_icmp .ne 7, 3) := by decide +kernel
theorem dX3_wantedBehind_60 : decode cX3_wantedBehind 60 = .ok (.iconst 2, 1) := by decide +kernel
theorem dX3_wantedBehind_61 : decode cX3_wantedBehind 61 = .ok (.goto 4, 3) := by decide +kernel
theorem dX3_wantedBehind_64 : decode cX3_wantedBehind 64 = .ok (.iconst 0, 1) := by decide +kernel
theorem dX3_wantedBehind_65 : decode cX3_wantedBehind 65 = .ok (.ireturn, 1) := by decide +kernel
theorem dX3_thingOf_0 : decode cX3_thingOf 0 = .ok (.iload_n 0, 1) := by decide +kernel
theorem dX3_thingOf_1 : decode cX3_thingOf 1 = .ok (.lookupswitch 61 #[(49, 53), (50, 55), (51, 57), (108, 59), (119, 51)], 51) := by decide +kernel
theorem dX3_thingOf_52 : decode cX3_thingOf 52 = .ok (.iconst 0, 1) := by decide +kernel
theorem dX3_thingOf_53 : decode cX3_thingOf 53 = .ok (.ireturn, 1) := by decide +kernel
theorem dX3_thingOf_54 : decode cX3_thingOf 54 = .ok (.iconst 1, 1) := by decide +kernel
theorem dX3_thingOf_55 : decode cX3_thingOf 55 = .ok (.ireturn, 1) := by decide +kernel
theorem dX3_thingOf_56 : decode cX3_thingOf 56 = .ok (.iconst 2, 1) := by decide +kernel
theorem dX3_thingOf_57 : decode cX3_thingOf 57 = .ok (.ireturn, 1) := by decide +kernel
theorem dX3_thingOf_58 : decode cX3_thingOf 58 = .ok (.iconst 3, 1) := by decide +kernel
theorem dX3_thingOf_59 : decode cX3_thingOf 59 = .ok (.ireturn, 1) := by decide +kernel
theorem dX3_thingOf_60 : decode cX3_thingOf 60 = .ok (.iconst 4, 1) := by decide +kernel
theorem dX3_thingOf_61 : decode cX3_thingOf 61 = .ok (.ireturn, 1) := by decide +kernel
theorem dX3_thingOf_62 : decode cX3_thingOf 62 = .ok (.bipush (-6), 2) := by decide +kernel
theorem dX3_thingOf_64 : decode cX3_thingOf 64 = .ok (.ireturn, 1) := by decide +kernel
theorem dX5_init_0 : decode cX5_init 0 = .ok (.aload_n 0, 1) := by decide +kernel
theorem dX5_init_1 : decode cX5_init 1 = .ok (.invokespecial 3, 3) := by decide +kernel
theorem dX5_init_4 : decode cX5_init 4 = .ok (.aload_n 0, 1) := by decide +kernel
theorem dX5_init_5 : decode cX5_init 5 = .ok (.bipush 49, 2) := by decide +kernel
theorem dX5_init_7 : decode cX5_init 7 = .ok (.putfield 11, 3) := by decide +kernel
theorem dX5_init_10 : decode cX5_init 10 = .ok (.aload_n 0, 1) := by decide +kernel
theorem dX5_init_11 : decode cX5_init 11 = .ok (.sipush 1029, 3) := by decide +kernel
theorem dX5_init_14 : decode cX5_init 14 = .ok (.newarray .int, 2) := by decide +kernel
theorem dX5_init_16 : decode cX5_init 16 = .ok (.putfield 15, 3) := by decide +kernel
theorem dX5_init_19 : decode cX5_init 19 = .ok (.return_, 1) := by decide +kernel
theorem dX5_at_0 : decode cX5_at 0 = .ok (.iload_n 1, 1) := by decide +kernel
theorem dX5_at_1 : decode cX5_at 1 = .ok (.ifCond .lt 21, 3) := by decide +kernel
theorem dX5_at_4 : decode cX5_at 4 = .ok (.iload_n 1, 1) := by decide +kernel
theorem dX5_at_5 : decode cX5_at 5 = .ok (.aload_n 0, 1) := by decide +kernel
theorem dX5_at_6 : decode cX5_at 6 = .ok (.getfield 15, 3) := by decide +kernel
theorem dX5_at_9 : decode cX5_at 9 = .ok (.arraylength, 1) := by decide +kernel
theorem dX5_at_10 : decode cX5_at 10 = .ok (.if_icmp .ge 12, 3) := by decide +kernel
theorem dX5_at_13 : decode cX5_at 13 = .ok (.aload_n 0, 1) := by decide +kernel
theorem dX5_at_14 : decode cX5_at 14 = .ok (.getfield 15, 3) := by decide +kernel
theorem dX5_at_17 : decode cX5_at 17 = .ok (.iload_n 1, 1) := by decide +kernel
theorem dX5_at_18 : decode cX5_at 18 = .ok (.iaload, 1) := by decide +kernel
theorem dX5_at_19 : decode cX5_at 19 = .ok (.goto 4, 3) := by decide +kernel
theorem dX5_at_22 : decode cX5_at 22 = .ok (.iconst 0, 1) := by decide +kernel
theorem dX5_at_23 : decode cX5_at 23 = .ok (.ireturn, 1) := by decide +kernel
theorem dX5_put_0 : decode cX5_put 0 = .ok (.iload_n 1, 1) := by decide +kernel
theorem dX5_put_1 : decode cX5_put 1 = .ok (.ifCond .lt 19, 3) := by decide +kernel
theorem dX5_put_4 : decode cX5_put 4 = .ok (.iload_n 1, 1) := by decide +kernel
theorem dX5_put_5 : decode cX5_put 5 = .ok (.aload_n 0, 1) := by decide +kernel
theorem dX5_put_6 : decode cX5_put 6 = .ok (.getfield 15, 3) := by decide +kernel
theorem dX5_put_9 : decode cX5_put 9 = .ok (.arraylength, 1) := by decide +kernel
theorem dX5_put_10 : decode cX5_put 10 = .ok (.if_icmp .ge 10, 3) := by decide +kernel
theorem dX5_put_13 : decode cX5_put 13 = .ok (.aload_n 0, 1) := by decide +kernel
theorem dX5_put_14 : decode cX5_put 14 = .ok (.getfield 15, 3) := by decide +kernel
theorem dX5_put_17 : decode cX5_put 17 = .ok (.iload_n 1, 1) := by decide +kernel
theorem dX5_put_18 : decode cX5_put 18 = .ok (.iload_n 2, 1) := by decide +kernel
theorem dX5_put_19 : decode cX5_put 19 = .ok (.iastore, 1) := by decide +kernel
theorem dX5_put_20 : decode cX5_put 20 = .ok (.return_, 1) := by decide +kernel
theorem dX7_init_0 : decode cX7_init 0 = .ok (.aload_n 0, 1) := by decide +kernel
theorem dX7_init_1 : decode cX7_init 1 = .ok (.invokespecial 3, 3) := by decide +kernel
theorem dX7_init_4 : decode cX7_init 4 = .ok (.aload_n 0, 1) := by decide +kernel
theorem dX7_init_5 : decode cX7_init 5 = .ok (.bipush 60, 2) := by decide +kernel
theorem dX7_init_7 : decode cX7_init 7 = .ok (.newarray .int, 2) := by decide +kernel
theorem dX7_init_9 : decode cX7_init 9 = .ok (.putfield 9, 3) := by decide +kernel
theorem dX7_init_12 : decode cX7_init 12 = .ok (.aload_n 0, 1) := by decide +kernel
theorem dX7_init_13 : decode cX7_init 13 = .ok (.bipush 60, 2) := by decide +kernel
theorem dX7_init_15 : decode cX7_init 15 = .ok (.newarray .int, 2) := by decide +kernel
theorem dX7_init_17 : decode cX7_init 17 = .ok (.putfield 15, 3) := by decide +kernel
theorem dX7_init_20 : decode cX7_init 20 = .ok (.return_, 1) := by decide +kernel
theorem dX7_pass_0 : decode cX7_pass 0 = .ok (.aload_n 0, 1) := by decide +kernel
theorem dX7_pass_1 : decode cX7_pass 1 = .ok (.getfield 18, 3) := by decide +kernel
theorem dX7_pass_4 : decode cX7_pass 4 = .ok (.bipush 60, 2) := by decide +kernel
theorem dX7_pass_6 : decode cX7_pass 6 = .ok (.if_icmp .ge 33, 3) := by decide +kernel
theorem dX7_pass_9 : decode cX7_pass 9 = .ok (.aload_n 0, 1) := by decide +kernel
theorem dX7_pass_10 : decode cX7_pass 10 = .ok (.getfield 9, 3) := by decide +kernel
theorem dX7_pass_13 : decode cX7_pass 13 = .ok (.aload_n 0, 1) := by decide +kernel
theorem dX7_pass_14 : decode cX7_pass 14 = .ok (.getfield 18, 3) := by decide +kernel
theorem dX7_pass_17 : decode cX7_pass 17 = .ok (.iload_n 1, 1) := by decide +kernel
theorem dX7_pass_18 : decode cX7_pass 18 = .ok (.iastore, 1) := by decide +kernel
theorem dX7_pass_19 : decode cX7_pass 19 = .ok (.aload_n 0, 1) := by decide +kernel
theorem dX7_pass_20 : decode cX7_pass 20 = .ok (.getfield 15, 3) := by decide +kernel
theorem dX7_pass_23 : decode cX7_pass 23 = .ok (.aload_n 0, 1) := by decide +kernel
theorem dX7_pass_24 : decode cX7_pass 24 = .ok (.getfield 18, 3) := by decide +kernel
theorem dX7_pass_27 : decode cX7_pass 27 = .ok (.iload_n 2, 1) := by decide +kernel
theorem dX7_pass_28 : decode cX7_pass 28 = .ok (.iastore, 1) := by decide +kernel
theorem dX7_pass_29 : decode cX7_pass 29 = .ok (.aload_n 0, 1) := by decide +kernel
theorem dX7_pass_30 : decode cX7_pass 30 = .ok (.dup, 1) := by decide +kernel
theorem dX7_pass_31 : decode cX7_pass 31 = .ok (.getfield 18, 3) := by decide +kernel
theorem dX7_pass_34 : decode cX7_pass 34 = .ok (.iconst 1, 1) := by decide +kernel
theorem dX7_pass_35 : decode cX7_pass 35 = .ok (.iadd, 1) := by decide +kernel
theorem dX7_pass_36 : decode cX7_pass 36 = .ok (.putfield 18, 3) := by decide +kernel
theorem dX7_pass_39 : decode cX7_pass 39 = .ok (.return_, 1) := by decide +kernel
theorem dX7_safe_0 : decode cX7_safe 0 = .ok (.ldc 22, 2) := by decide +kernel
theorem dX7_safe_2 : decode cX7_safe 2 = .ok (.istore_n 1, 1) := by decide +kernel
theorem dX7_safe_3 : decode cX7_safe 3 = .ok (.aload_n 0, 1) := by decide +kernel
theorem dX7_safe_4 : decode cX7_safe 4 = .ok (.getfield 18, 3) := by decide +kernel
theorem dX7_safe_7 : decode cX7_safe 7 = .ok (.iconst 1, 1) := by decide +kernel
theorem dX7_safe_8 : decode cX7_safe 8 = .ok (.isub, 1) := by decide +kernel
theorem dX7_safe_9 : decode cX7_safe 9 = .ok (.istore_n 2, 1) := by decide +kernel
theorem dX7_safe_10 : decode cX7_safe 10 = .ok (.iload_n 2, 1) := by decide +kernel
theorem dX7_safe_11 : decode cX7_safe 11 = .ok (.ifCond .lt 27, 3) := by decide +kernel
theorem dX7_safe_14 : decode cX7_safe 14 = .ok (.iload_n 1, 1) := by decide +kernel
theorem dX7_safe_15 : decode cX7_safe 15 = .ok (.aload_n 0, 1) := by decide +kernel
theorem dX7_safe_16 : decode cX7_safe 16 = .ok (.getfield 9, 3) := by decide +kernel
theorem dX7_safe_19 : decode cX7_safe 19 = .ok (.iload_n 2, 1) := by decide +kernel
theorem dX7_safe_20 : decode cX7_safe 20 = .ok (.iaload, 1) := by decide +kernel
theorem dX7_safe_21 : decode cX7_safe 21 = .ok (.aload_n 0, 1) := by decide +kernel
theorem dX7_safe_22 : decode cX7_safe 22 = .ok (.getfield 15, 3) := by decide +kernel
theorem dX7_safe_25 : decode cX7_safe 25 = .ok (.iload_n 2, 1) := by decide +kernel
theorem dX7_safe_26 : decode cX7_safe 26 = .ok (.iaload, 1) := by decide +kernel
theorem dX7_safe_27 : decode cX7_safe 27 = .ok (.imul, 1) := by decide +kernel
theorem dX7_safe_28 : decode cX7_safe 28 = .ok (.invokestatic 23, 3) := by decide +kernel
theorem dX7_safe_31 : decode cX7_safe 31 = .ok (.istore_n 1, 1) := by decide +kernel
theorem dX7_safe_32 : decode cX7_safe 32 = .ok (.iinc 2 (-1), 3) := by decide +kernel
theorem dX7_safe_35 : decode cX7_safe 35 = .ok (.goto (-25), 3) := by decide +kernel
theorem dX7_safe_38 : decode cX7_safe 38 = .ok (.iload_n 1, 1) := by decide +kernel
theorem dX7_safe_39 : decode cX7_safe 39 = .ok (.ireturn, 1) := by decide +kernel
theorem dX7_riskiest_0 : decode cX7_riskiest 0 = .ok (.bipush (-6), 2) := by decide +kernel
theorem dX7_riskiest_2 : decode cX7_riskiest 2 = .ok (.istore_n 1, 1) := by decide +kernel
theorem dX7_riskiest_3 : decode cX7_riskiest 3 = .ok (.iconst (-1), 1) := by decide +kernel
theorem dX7_riskiest_4 : decode cX7_riskiest 4 = .ok (.istore_n 2, 1) := by decide +kernel
theorem dX7_riskiest_5 : decode cX7_riskiest 5 = .ok (.iconst 0, 1) := by decide +kernel
theorem dX7_riskiest_6 : decode cX7_riskiest 6 = .ok (.istore_n 3, 1) := by decide +kernel
theorem dX7_riskiest_7 : decode cX7_riskiest 7 = .ok (.iload_n 3, 1) := by decide +kernel
theorem dX7_riskiest_8 : decode cX7_riskiest 8 = .ok (.aload_n 0, 1) := by decide +kernel
theorem dX7_riskiest_9 : decode cX7_riskiest 9 = .ok (.getfield 18, 3) := by decide +kernel
theorem dX7_riskiest_12 : decode cX7_riskiest 12 = .ok (.if_icmp .ge 42, 3) := by decide +kernel
theorem dX7_riskiest_15 : decode cX7_riskiest 15 = .ok (.aload_n 0, 1) := by decide +kernel
theorem dX7_riskiest_16 : decode cX7_riskiest 16 = .ok (.getfield 9, 3) := by decide +kernel
theorem dX7_riskiest_19 : decode cX7_riskiest 19 = .ok (.iload_n 3, 1) := by decide +kernel
theorem dX7_riskiest_20 : decode cX7_riskiest 20 = .ok (.iaload, 1) := by decide +kernel
theorem dX7_riskiest_21 : decode cX7_riskiest 21 = .ok (.aload_n 0, 1) := by decide +kernel
theorem dX7_riskiest_22 : decode cX7_riskiest 22 = .ok (.getfield 15, 3) := by decide +kernel
theorem dX7_riskiest_25 : decode cX7_riskiest 25 = .ok (.iload_n 3, 1) := by decide +kernel
theorem dX7_riskiest_26 : decode cX7_riskiest 26 = .ok (.iaload, 1) := by decide +kernel
theorem dX7_riskiest_27 : decode cX7_riskiest 27 = .ok (.imul, 1) := by decide +kernel
theorem dX7_riskiest_28 : decode cX7_riskiest 28 = .ok (.iload_n 2, 1) := by decide +kernel
theorem dX7_riskiest_29 : decode cX7_riskiest 29 = .ok (.if_icmp .le 19, 3) := by decide +kernel
theorem dX7_riskiest_32 : decode cX7_riskiest 32 = .ok (.aload_n 0, 1) := by decide +kernel
theorem dX7_riskiest_33 : decode cX7_riskiest 33 = .ok (.getfield 9, 3) := by decide +kernel
theorem dX7_riskiest_36 : decode cX7_riskiest 36 = .ok (.iload_n 3, 1) := by decide +kernel
theorem dX7_riskiest_37 : decode cX7_riskiest 37 = .ok (.iaload, 1) := by decide +kernel
theorem dX7_riskiest_38 : decode cX7_riskiest 38 = .ok (.aload_n 0, 1) := by decide +kernel
theorem dX7_riskiest_39 : decode cX7_riskiest 39 = .ok (.getfield 15, 3) := by decide +kernel
theorem dX7_riskiest_42 : decode cX7_riskiest 42 = .ok (.iload_n 3, 1) := by decide +kernel
theorem dX7_riskiest_43 : decode cX7_riskiest 43 = .ok (.iaload, 1) := by decide +kernel
theorem dX7_riskiest_44 : decode cX7_riskiest 44 = .ok (.imul, 1) := by decide +kernel
theorem dX7_riskiest_45 : decode cX7_riskiest 45 = .ok (.istore_n 2, 1) := by decide +kernel
theorem dX7_riskiest_46 : decode cX7_riskiest 46 = .ok (.iload_n 3, 1) := by decide +kernel
theorem dX7_riskiest_47 : decode cX7_riskiest 47 = .ok (.istore_n 1, 1) := by decide +kernel
theorem dX7_riskiest_48 : decode cX7_riskiest 48 = .ok (.iinc 3 1, 3) := by decide +kernel
theorem dX7_riskiest_51 : decode cX7_riskiest 51 = .ok (.goto (-44), 3) := by decide +kernel
theorem dX7_riskiest_54 : decode cX7_riskiest 54 = .ok (.iload_n 1, 1) := by decide +kernel
theorem dX7_riskiest_55 : decode cX7_riskiest 55 = .ok (.ireturn, 1) := by decide +kernel
theorem dX7_struckBy_0 : decode cX7_struckBy 0 = .ok (.iload_n 1, 1) := by decide +kernel
theorem dX7_struckBy_1 : decode cX7_struckBy 1 = .ok (.istore_n 2, 1) := by decide +kernel
theorem dX7_struckBy_2 : decode cX7_struckBy 2 = .ok (.iconst 0, 1) := by decide +kernel
theorem dX7_struckBy_3 : decode cX7_struckBy 3 = .ok (.istore_n 3, 1) := by decide +kernel
theorem dX7_struckBy_4 : decode cX7_struckBy 4 = .ok (.iload_n 3, 1) := by decide +kernel
theorem dX7_struckBy_5 : decode cX7_struckBy 5 = .ok (.aload_n 0, 1) := by decide +kernel
theorem dX7_struckBy_6 : decode cX7_struckBy 6 = .ok (.getfield 18, 3) := by decide +kernel
theorem dX7_struckBy_9 : decode cX7_struckBy 9 = .ok (.if_icmp .ge 49, 3) := by decide +kernel
theorem dX7_struckBy_12 : decode cX7_struckBy 12 = .ok (.iload_n 2, 1) := by decide +kernel
theorem dX7_struckBy_13 : decode cX7_struckBy 13 = .ok (.invokestatic 27, 3) := by decide +kernel
theorem dX7_struckBy_16 : decode cX7_struckBy 16 = .ok (.istore_n 2, 1) := by decide +kernel
theorem dX7_struckBy_17 : decode cX7_struckBy 17 = .ok (.iload_n 2, 1) := by decide +kernel
theorem dX7_struckBy_18 : decode cX7_struckBy 18 = .ok (.sipush 1000, 3) := by decide +kernel
theorem dX7_struckBy_21 : decode cX7_struckBy 21 = .ok (.irem, 1) := by decide +kernel
theorem dX7_struckBy_22 : decode cX7_struckBy 22 = .ok (.aload_n 0, 1) := by decide +kernel
theorem dX7_struckBy_23 : decode cX7_struckBy 23 = .ok (.getfield 9, 3) := by decide +kernel
theorem dX7_struckBy_26 : decode cX7_struckBy 26 = .ok (.iload_n 3, 1) := by decide +kernel
theorem dX7_struckBy_27 : decode cX7_struckBy 27 = .ok (.iaload, 1) := by decide +kernel
theorem dX7_struckBy_28 : decode cX7_struckBy 28 = .ok (.if_icmp .ge 24, 3) := by decide +kernel
theorem dX7_struckBy_31 : decode cX7_struckBy 31 = .ok (.iload_n 2, 1) := by decide +kernel
theorem dX7_struckBy_32 : decode cX7_struckBy 32 = .ok (.invokestatic 27, 3) := by decide +kernel
theorem dX7_struckBy_35 : decode cX7_struckBy 35 = .ok (.istore_n 2, 1) := by decide +kernel
theorem dX7_struckBy_36 : decode cX7_struckBy 36 = .ok (.iload_n 2, 1) := by decide +kernel
theorem dX7_struckBy_37 : decode cX7_struckBy 37 = .ok (.sipush 1000, 3) := by decide +kernel
theorem dX7_struckBy_40 : decode cX7_struckBy 40 = .ok (.irem, 1) := by decide +kernel
theorem dX7_struckBy_41 : decode cX7_struckBy 41 = .ok (.aload_n 0, 1) := by decide +kernel
theorem dX7_struckBy_42 : decode cX7_struckBy 42 = .ok (.getfield 15, 3) := by decide +kernel
theorem dX7_struckBy_45 : decode cX7_struckBy 45 = .ok (.iload_n 3, 1) := by decide +kernel
theorem dX7_struckBy_46 : decode cX7_struckBy 46 = .ok (.iaload, 1) := by decide +kernel
theorem dX7_struckBy_47 : decode cX7_struckBy 47 = .ok (.if_icmp .ge 5, 3) := by decide +kernel
theorem dX7_struckBy_50 : decode cX7_struckBy 50 = .ok (.iload_n 3, 1) := by decide +kernel
theorem dX7_struckBy_51 : decode cX7_struckBy 51 = .ok (.ireturn, 1) := by decide +kernel
theorem dX7_struckBy_52 : decode cX7_struckBy 52 = .ok (.iinc 3 1, 3) := by decide +kernel
theorem dX7_struckBy_55 : decode cX7_struckBy 55 = .ok (.goto (-51), 3) := by decide +kernel
theorem dX7_struckBy_58 : decode cX7_struckBy 58 = .ok (.bipush (-6), 2) := by decide +kernel
theorem dX7_struckBy_60 : decode cX7_struckBy 60 = .ok (.ireturn, 1) := by decide +kernel
theorem dX7_drawBehind_0 : decode cX7_drawBehind 0 = .ok (.iload_n 0, 1) := by decide +kernel
theorem dX7_drawBehind_1 : decode cX7_drawBehind 1 = .ok (.bipush 75, 2) := by decide +kernel
theorem dX7_drawBehind_3 : decode cX7_drawBehind 3 = .ok (.imul, 1) := by decide +kernel
theorem dX7_drawBehind_4 : decode cX7_drawBehind 4 = .ok (.bipush 74, 2) := by decide +kernel
theorem dX7_drawBehind_6 : decode cX7_drawBehind 6 = .ok (.iadd, 1) := by decide +kernel
theorem dX7_drawBehind_7 : decode cX7_drawBehind 7 = .ok (.ldc 31, 2) := by decide +kernel
theorem dX7_drawBehind_9 : decode cX7_drawBehind 9 = .ok (.irem, 1) := by decide +kernel
theorem dX7_drawBehind_10 : decode cX7_drawBehind 10 = .ok (.ireturn, 1) := by decide +kernel
theorem dX8_init_0 : decode cX8_init 0 = .ok (.aload_n 0, 1) := by decide +kernel
theorem dX8_init_1 : decode cX8_init 1 = .ok (.invokespecial 3, 3) := by decide +kernel
theorem dX8_init_4 : decode cX8_init 4 = .ok (.aload_n 0, 1) := by decide +kernel
theorem dX8_init_5 : decode cX8_init 5 = .ok (.bipush 8, 2) := by decide +kernel
theorem dX8_init_7 : decode cX8_init 7 = .ok (.newarray .int, 2) := by decide +kernel
theorem dX8_init_9 : decode cX8_init 9 = .ok (.putfield 9, 3) := by decide +kernel
theorem dX8_init_12 : decode cX8_init 12 = .ok (.aload_n 0, 1) := by decide +kernel
theorem dX8_init_13 : decode cX8_init 13 = .ok (.bipush 8, 2) := by decide +kernel
theorem dX8_init_15 : decode cX8_init 15 = .ok (.newarray .int, 2) := by decide +kernel
theorem dX8_init_17 : decode cX8_init 17 = .ok (.putfield 15, 3) := by decide +kernel
theorem dX8_init_20 : decode cX8_init 20 = .ok (.aload_n 0, 1) := by decide +kernel
theorem dX8_init_21 : decode cX8_init 21 = .ok (.bipush 8, 2) := by decide +kernel
theorem dX8_init_23 : decode cX8_init 23 = .ok (.newarray .int, 2) := by decide +kernel
theorem dX8_init_25 : decode cX8_init 25 = .ok (.putfield 18, 3) := by decide +kernel
theorem dX8_init_28 : decode cX8_init 28 = .ok (.aload_n 0, 1) := by decide +kernel
theorem dX8_init_29 : decode cX8_init 29 = .ok (.bipush 48, 2) := by decide +kernel
theorem dX8_init_31 : decode cX8_init 31 = .ok (.newarray .int, 2) := by decide +kernel
theorem dX8_init_33 : decode cX8_init 33 = .ok (.putfield 21, 3) := by decide +kernel
theorem dX8_init_36 : decode cX8_init 36 = .ok (.aload_n 0, 1) := by decide +kernel
theorem dX8_init_37 : decode cX8_init 37 = .ok (.bipush 48, 2) := by decide +kernel
theorem dX8_init_39 : decode cX8_init 39 = .ok (.newarray .int, 2) := by decide +kernel
theorem dX8_init_41 : decode cX8_init 41 = .ok (.putfield 24, 3) := by decide +kernel
theorem dX8_init_44 : decode cX8_init 44 = .ok (.return_, 1) := by decide +kernel
theorem dX8_hasRoom_0 : decode cX8_hasRoom 0 = .ok (.aload_n 0, 1) := by decide +kernel
theorem dX8_hasRoom_1 : decode cX8_hasRoom 1 = .ok (.getfield 27, 3) := by decide +kernel
theorem dX8_hasRoom_4 : decode cX8_hasRoom 4 = .ok (.bipush 8, 2) := by decide +kernel
theorem dX8_hasRoom_6 : decode cX8_hasRoom 6 = .ok (.if_icmp .ge 18, 3) := by decide +kernel
theorem dX8_hasRoom_9 : decode cX8_hasRoom 9 = .ok (.aload_n 0, 1) := by decide +kernel
theorem dX8_hasRoom_10 : decode cX8_hasRoom 10 = .ok (.getfield 31, 3) := by decide +kernel
theorem dX8_hasRoom_13 : decode cX8_hasRoom 13 = .ok (.iload_n 1, 1) := by decide +kernel
theorem dX8_hasRoom_14 : decode cX8_hasRoom 14 = .ok (.iadd, 1) := by decide +kernel
theorem dX8_hasRoom_15 : decode cX8_hasRoom 15 = .ok (.bipush 48, 2) := by decide +kernel
theorem dX8_hasRoom_17 : decode cX8_hasRoom 17 = .ok (.if_icmp .gt 7, 3) := by decide +kernel
theorem dX8_hasRoom_20 : decode cX8_hasRoom 20 = .ok (.iconst 1, 1) := by decide +kernel
theorem dX8_hasRoom_21 : decode cX8_hasRoom 21 = .ok (.goto 4, 3) := by decide +kernel
theorem dX8_hasRoom_24 : decode cX8_hasRoom 24 = .ok (.iconst 0, 1) := by decide +kernel
theorem dX8_hasRoom_25 : decode cX8_hasRoom 25 = .ok (.ireturn, 1) := by decide +kernel
theorem dX8_hasLeg_0 : decode cX8_hasLeg 0 = .ok (.iload_n 1, 1) := by decide +kernel
theorem dX8_hasLeg_1 : decode cX8_hasLeg 1 = .ok (.iconst 0, 1) := by decide +kernel
theorem dX8_hasLeg_2 : decode cX8_hasLeg 2 = .ok (.aload_n 0, 1) := by decide +kernel
theorem dX8_hasLeg_3 : decode cX8_hasLeg 3 = .ok (.getfield 27, 3) := by decide +kernel
theorem dX8_hasLeg_6 : decode cX8_hasLeg 6 = .ok (.iconst 1, 1) := by decide +kernel
theorem dX8_hasLeg_7 : decode cX8_hasLeg 7 = .ok (.isub, 1) := by decide +kernel
theorem dX8_hasLeg_8 : decode cX8_hasLeg 8 = .ok (.invokestatic 34, 3) := by decide +kernel
theorem dX8_hasLeg_11 : decode cX8_hasLeg 11 = .ok (.ireturn, 1) := by decide +kernel
theorem dX8_hasHour_0 : decode cX8_hasHour 0 = .ok (.iload_n 1, 1) := by decide +kernel
theorem dX8_hasHour_1 : decode cX8_hasHour 1 = .ok (.ifCond .lt 15, 3) := by decide +kernel
theorem dX8_hasHour_4 : decode cX8_hasHour 4 = .ok (.iload_n 1, 1) := by decide +kernel
theorem dX8_hasHour_5 : decode cX8_hasHour 5 = .ok (.aload_n 0, 1) := by decide +kernel
theorem dX8_hasHour_6 : decode cX8_hasHour 6 = .ok (.getfield 31, 3) := by decide +kernel
theorem dX8_hasHour_9 : decode cX8_hasHour 9 = .ok (.if_icmp .ge 7, 3) := by decide +kernel
theorem dX8_hasHour_12 : decode cX8_hasHour 12 = .ok (.iconst 1, 1) := by decide +kernel
theorem dX8_hasHour_13 : decode cX8_hasHour 13 = .ok (.goto 4, 3) := by decide +kernel
theorem dX8_hasHour_16 : decode cX8_hasHour 16 = .ok (.iconst 0, 1) := by decide +kernel
theorem dX8_hasHour_17 : decode cX8_hasHour 17 = .ok (.ireturn, 1) := by decide +kernel
theorem dX8_lengthen_0 : decode cX8_lengthen 0 = .ok (.aload_n 0, 1) := by decide +kernel
theorem dX8_lengthen_1 : decode cX8_lengthen 1 = .ok (.iload_n 1, 1) := by decide +kernel
theorem dX8_lengthen_2 : decode cX8_lengthen 2 = .ok (.invokevirtual 38, 3) := by decide +kernel
theorem dX8_lengthen_5 : decode cX8_lengthen 5 = .ok (.ifCond .ne 4, 3) := by decide +kernel
theorem dX8_lengthen_8 : decode cX8_lengthen 8 = .ok (.return_, 1) := by decide +kernel
theorem dX8_lengthen_9 : decode cX8_lengthen 9 = .ok (.aload_n 0, 1) := by decide +kernel
theorem dX8_lengthen_10 : decode cX8_lengthen 10 = .ok (.getfield 9, 3) := by decide +kernel
theorem dX8_lengthen_13 : decode cX8_lengthen 13 = .ok (.aload_n 0, 1) := by decide +kernel
theorem dX8_lengthen_14 : decode cX8_lengthen 14 = .ok (.getfield 27, 3) := by decide +kernel
theorem dX8_lengthen_17 : decode cX8_lengthen 17 = .ok (.iload_n 1, 1) := by decide +kernel
theorem dX8_lengthen_18 : decode cX8_lengthen 18 = .ok (.iastore, 1) := by decide +kernel
theorem dX8_lengthen_19 : decode cX8_lengthen 19 = .ok (.aload_n 0, 1) := by decide +kernel
theorem dX8_lengthen_20 : decode cX8_lengthen 20 = .ok (.getfield 15, 3) := by decide +kernel
theorem dX8_lengthen_23 : decode cX8_lengthen 23 = .ok (.aload_n 0, 1) := by decide +kernel
theorem dX8_lengthen_24 : decode cX8_lengthen 24 = .ok (.getfield 27, 3) := by decide +kernel
theorem dX8_lengthen_27 : decode cX8_lengthen 27 = .ok (.iload_n 2, 1) := by decide +kernel
theorem dX8_lengthen_28 : decode cX8_lengthen 28 = .ok (.iastore, 1) := by decide +kernel
theorem dX8_lengthen_29 : decode cX8_lengthen 29 = .ok (.aload_n 0, 1) := by decide +kernel
theorem dX8_lengthen_30 : decode cX8_lengthen 30 = .ok (.getfield 18, 3) := by decide +kernel
theorem dX8_lengthen_33 : decode cX8_lengthen 33 = .ok (.aload_n 0, 1) := by decide +kernel
theorem dX8_lengthen_34 : decode cX8_lengthen 34 = .ok (.getfield 27, 3) := by decide +kernel
theorem dX8_lengthen_37 : decode cX8_lengthen 37 = .ok (.iload_n 3, 1) := by decide +kernel
theorem dX8_lengthen_38 : decode cX8_lengthen 38 = .ok (.iastore, 1) := by decide +kernel
theorem dX8_lengthen_39 : decode cX8_lengthen 39 = .ok (.aload_n 0, 1) := by decide +kernel
theorem dX8_lengthen_40 : decode cX8_lengthen 40 = .ok (.dup, 1) := by decide +kernel
theorem dX8_lengthen_41 : decode cX8_lengthen 41 = .ok (.getfield 27, 3) := by decide +kernel
theorem dX8_lengthen_44 : decode cX8_lengthen 44 = .ok (.iconst 1, 1) := by decide +kernel
theorem dX8_lengthen_45 : decode cX8_lengthen 45 = .ok (.iadd, 1) := by decide +kernel
theorem dX8_lengthen_46 : decode cX8_lengthen 46 = .ok (.putfield 27, 3) := by decide +kernel
theorem dX8_lengthen_49 : decode cX8_lengthen 49 = .ok (.iconst 0, 1) := by decide +kernel
theorem dX8_lengthen_50 : decode cX8_lengthen 50 = .ok (.istore 4, 2) := by decide +kernel
theorem dX8_lengthen_52 : decode cX8_lengthen 52 = .ok (.iload 4, 2) := by decide +kernel
theorem dX8_lengthen_54 : decode cX8_lengthen 54 = .ok (.iload_n 1, 1) := by decide +kernel
theorem dX8_lengthen_55 : decode cX8_lengthen 55 = .ok (.if_icmp .ge 39, 3) := by decide +kernel
theorem dX8_lengthen_58 : decode cX8_lengthen 58 = .ok (.aload_n 0, 1) := by decide +kernel
theorem dX8_lengthen_59 : decode cX8_lengthen 59 = .ok (.getfield 21, 3) := by decide +kernel
theorem dX8_lengthen_62 : decode cX8_lengthen 62 = .ok (.aload_n 0, 1) := by decide +kernel
theorem dX8_lengthen_63 : decode cX8_lengthen 63 = .ok (.getfield 31, 3) := by decide +kernel
theorem dX8_lengthen_66 : decode cX8_lengthen 66 = .ok (.iload_n 2, 1) := by decide +kernel
theorem dX8_lengthen_67 : decode cX8_lengthen 67 = .ok (.iastore, 1) := by decide +kernel
theorem dX8_lengthen_68 : decode cX8_lengthen 68 = .ok (.aload_n 0, 1) := by decide +kernel
theorem dX8_lengthen_69 : decode cX8_lengthen 69 = .ok (.getfield 24, 3) := by decide +kernel
theorem dX8_lengthen_72 : decode cX8_lengthen 72 = .ok (.aload_n 0, 1) := by decide +kernel
theorem dX8_lengthen_73 : decode cX8_lengthen 73 = .ok (.getfield 31, 3) := by decide +kernel
theorem dX8_lengthen_76 : decode cX8_lengthen 76 = .ok (.iload_n 3, 1) := by decide +kernel
theorem dX8_lengthen_77 : decode cX8_lengthen 77 = .ok (.iastore, 1) := by decide +kernel
theorem dX8_lengthen_78 : decode cX8_lengthen 78 = .ok (.aload_n 0, 1) := by decide +kernel
theorem dX8_lengthen_79 : decode cX8_lengthen 79 = .ok (.dup, 1) := by decide +kernel
theorem dX8_lengthen_80 : decode cX8_lengthen 80 = .ok (.getfield 31, 3) := by decide +kernel
theorem dX8_lengthen_83 : decode cX8_lengthen 83 = .ok (.iconst 1, 1) := by decide +kernel
theorem dX8_lengthen_84 : decode cX8_lengthen 84 = .ok (.iadd, 1) := by decide +kernel
theorem dX8_lengthen_85 : decode cX8_lengthen 85 = .ok (.putfield 31, 3) := by decide +kernel
theorem dX8_lengthen_88 : decode cX8_lengthen 88 = .ok (.iinc 4 1, 3) := by decide +kernel
theorem dX8_lengthen_91 : decode cX8_lengthen 91 = .ok (.goto (-39), 3) := by decide +kernel
theorem dX8_lengthen_94 : decode cX8_lengthen 94 = .ok (.return_, 1) := by decide +kernel
theorem dX8_shorten_0 : decode cX8_shorten 0 = .ok (.aload_n 0, 1) := by decide +kernel
theorem dX8_shorten_1 : decode cX8_shorten 1 = .ok (.getfield 27, 3) := by decide +kernel
theorem dX8_shorten_4 : decode cX8_shorten 4 = .ok (.ifCond .le 31, 3) := by decide +kernel
theorem dX8_shorten_7 : decode cX8_shorten 7 = .ok (.aload_n 0, 1) := by decide +kernel
theorem dX8_shorten_8 : decode cX8_shorten 8 = .ok (.dup, 1) := by decide +kernel
theorem dX8_shorten_9 : decode cX8_shorten 9 = .ok (.getfield 27, 3) := by decide +kernel
theorem dX8_shorten_12 : decode cX8_shorten 12 = .ok (.iconst 1, 1) := by decide +kernel
theorem dX8_shorten_13 : decode cX8_shorten 13 = .ok (.isub, 1) := by decide +kernel
theorem dX8_shorten_14 : decode cX8_shorten 14 = .ok (.putfield 27, 3) := by decide +kernel
theorem dX8_shorten_17 : decode cX8_shorten 17 = .ok (.aload_n 0, 1) := by decide +kernel
theorem dX8_shorten_18 : decode cX8_shorten 18 = .ok (.dup, 1) := by decide +kernel
theorem dX8_shorten_19 : decode cX8_shorten 19 = .ok (.getfield 31, 3) := by decide +kernel
theorem dX8_shorten_22 : decode cX8_shorten 22 = .ok (.aload_n 0, 1) := by decide +kernel
theorem dX8_shorten_23 : decode cX8_shorten 23 = .ok (.getfield 9, 3) := by decide +kernel
theorem dX8_shorten_26 : decode cX8_shorten 26 = .ok (.aload_n 0, 1) := by decide +kernel
theorem dX8_shorten_27 : decode cX8_shorten 27 = .ok (.getfield 27, 3) := by decide +kernel
theorem dX8_shorten_30 : decode cX8_shorten 30 = .ok (.iaload, 1) := by decide +kernel
theorem dX8_shorten_31 : decode cX8_shorten 31 = .ok (.isub, 1) := by decide +kernel
theorem dX8_shorten_32 : decode cX8_shorten 32 = .ok (.putfield 31, 3) := by decide +kernel
theorem dX8_shorten_35 : decode cX8_shorten 35 = .ok (.return_, 1) := by decide +kernel
theorem dX8_firstHourOf_0 : decode cX8_firstHourOf 0 = .ok (.iconst 0, 1) := by decide +kernel
theorem dX8_firstHourOf_1 : decode cX8_firstHourOf 1 = .ok (.istore_n 2, 1) := by decide +kernel
theorem dX8_firstHourOf_2 : decode cX8_firstHourOf 2 = .ok (.iconst 0, 1) := by decide +kernel
theorem dX8_firstHourOf_3 : decode cX8_firstHourOf 3 = .ok (.istore_n 3, 1) := by decide +kernel
theorem dX8_firstHourOf_4 : decode cX8_firstHourOf 4 = .ok (.iload_n 3, 1) := by decide +kernel
theorem dX8_firstHourOf_5 : decode cX8_firstHourOf 5 = .ok (.iload_n 1, 1) := by decide +kernel
theorem dX8_firstHourOf_6 : decode cX8_firstHourOf 6 = .ok (.if_icmp .ge 26, 3) := by decide +kernel
theorem dX8_firstHourOf_9 : decode cX8_firstHourOf 9 = .ok (.iload_n 3, 1) := by decide +kernel
theorem dX8_firstHourOf_10 : decode cX8_firstHourOf 10 = .ok (.aload_n 0, 1) := by decide +kernel
theorem dX8_firstHourOf_11 : decode cX8_firstHourOf 11 = .ok (.getfield 27, 3) := by decide +kernel
theorem dX8_firstHourOf_14 : decode cX8_firstHourOf 14 = .ok (.if_icmp .ge 18, 3) := by decide +kernel
theorem dX8_firstHourOf_17 : decode cX8_firstHourOf 17 = .ok (.iload_n 2, 1) := by decide +kernel
theorem dX8_firstHourOf_18 : decode cX8_firstHourOf 18 = .ok (.aload_n 0, 1) := by decide +kernel
theorem dX8_firstHourOf_19 : decode cX8_firstHourOf 19 = .ok (.getfield 9, 3) := by decide +kernel
theorem dX8_firstHourOf_22 : decode cX8_firstHourOf 22 = .ok (.iload_n 3, 1) := by decide +kernel
theorem dX8_firstHourOf_23 : decode cX8_firstHourOf 23 = .ok (.iaload, 1) := by decide +kernel
theorem dX8_firstHourOf_24 : decode cX8_firstHourOf 24 = .ok (.iadd, 1) := by decide +kernel
theorem dX8_firstHourOf_25 : decode cX8_firstHourOf 25 = .ok (.istore_n 2, 1) := by decide +kernel
theorem dX8_firstHourOf_26 : decode cX8_firstHourOf 26 = .ok (.iinc 3 1, 3) := by decide +kernel
theorem dX8_firstHourOf_29 : decode cX8_firstHourOf 29 = .ok (.goto (-25), 3) := by decide +kernel
theorem dX8_firstHourOf_32 : decode cX8_firstHourOf 32 = .ok (.iload_n 2, 1) := by decide +kernel
theorem dX8_firstHourOf_33 : decode cX8_firstHourOf 33 = .ok (.ireturn, 1) := by decide +kernel
theorem dX8_shipsAt_0 : decode cX8_shipsAt 0 = .ok (.iload_n 1, 1) := by decide +kernel
theorem dX8_shipsAt_1 : decode cX8_shipsAt 1 = .ok (.ifCond .lt 20, 3) := by decide +kernel
theorem dX8_shipsAt_4 : decode cX8_shipsAt 4 = .ok (.iload_n 1, 1) := by decide +kernel
theorem dX8_shipsAt_5 : decode cX8_shipsAt 5 = .ok (.aload_n 0, 1) := by decide +kernel
theorem dX8_shipsAt_6 : decode cX8_shipsAt 6 = .ok (.getfield 31, 3) := by decide +kernel
theorem dX8_shipsAt_9 : decode cX8_shipsAt 9 = .ok (.if_icmp .ge 12, 3) := by decide +kernel
theorem dX8_shipsAt_12 : decode cX8_shipsAt 12 = .ok (.aload_n 0, 1) := by decide +kernel
theorem dX8_shipsAt_13 : decode cX8_shipsAt 13 = .ok (.getfield 21, 3) := by decide +kernel
theorem dX8_shipsAt_16 : decode cX8_shipsAt 16 = .ok (.iload_n 1, 1) := by decide +kernel
theorem dX8_shipsAt_17 : decode cX8_shipsAt 17 = .ok (.iaload, 1) := by decide +kernel
theorem dX8_shipsAt_18 : decode cX8_shipsAt 18 = .ok (.goto 4, 3) := by decide +kernel
theorem dX8_shipsAt_21 : decode cX8_shipsAt 21 = .ok (.iconst 0, 1) := by decide +kernel
theorem dX8_shipsAt_22 : decode cX8_shipsAt 22 = .ok (.ireturn, 1) := by decide +kernel
theorem dX8_squallAt_0 : decode cX8_squallAt 0 = .ok (.iload_n 1, 1) := by decide +kernel
theorem dX8_squallAt_1 : decode cX8_squallAt 1 = .ok (.ifCond .lt 25, 3) := by decide +kernel
theorem dX8_squallAt_4 : decode cX8_squallAt 4 = .ok (.iload_n 1, 1) := by decide +kernel
theorem dX8_squallAt_5 : decode cX8_squallAt 5 = .ok (.aload_n 0, 1) := by decide +kernel
theorem dX8_squallAt_6 : decode cX8_squallAt 6 = .ok (.getfield 31, 3) := by decide +kernel
theorem dX8_squallAt_9 : decode cX8_squallAt 9 = .ok (.if_icmp .ge 17, 3) := by decide +kernel
theorem dX8_squallAt_12 : decode cX8_squallAt 12 = .ok (.aload_n 0, 1) := by decide +kernel
theorem dX8_squallAt_13 : decode cX8_squallAt 13 = .ok (.getfield 24, 3) := by decide +kernel
theorem dX8_squallAt_16 : decode cX8_squallAt 16 = .ok (.iload_n 1, 1) := by decide +kernel
theorem dX8_squallAt_17 : decode cX8_squallAt 17 = .ok (.iaload, 1) := by decide +kernel
theorem dX8_squallAt_18 : decode cX8_squallAt 18 = .ok (.iconst 1, 1) := by decide +kernel
theorem dX8_squallAt_19 : decode cX8_squallAt 19 = .ok (.if_icmp .ne 7, 3) := by decide +kernel
theorem dX8_squallAt_22 : decode cX8_squallAt 22 = .ok (.iconst 1, 1) := by decide +kernel
theorem dX8_squallAt_23 : decode cX8_squallAt 23 = .ok (.goto 4, 3) := by decide +kernel
theorem dX8_squallAt_26 : decode cX8_squallAt 26 = .ok (.iconst 0, 1) := by decide +kernel
theorem dX8_squallAt_27 : decode cX8_squallAt 27 = .ok (.ireturn, 1) := by decide +kernel
theorem dX8_lets_0 : decode cX8_lets 0 = .ok (.aload_n 0, 1) := by decide +kernel
theorem dX8_lets_1 : decode cX8_lets 1 = .ok (.iload_n 1, 1) := by decide +kernel
theorem dX8_lets_2 : decode cX8_lets 2 = .ok (.invokevirtual 42, 3) := by decide +kernel
theorem dX8_lets_5 : decode cX8_lets 5 = .ok (.ifCond .ne 5, 3) := by decide +kernel
theorem dX8_lets_8 : decode cX8_lets 8 = .ok (.iconst 0, 1) := by decide +kernel
theorem dX8_lets_9 : decode cX8_lets 9 = .ok (.ireturn, 1) := by decide +kernel
theorem dX8_lets_10 : decode cX8_lets 10 = .ok (.iload_n 2, 1) := by decide +kernel
theorem dX8_lets_11 : decode cX8_lets 11 = .ok (.ifCond .ne 5, 3) := by decide +kernel
theorem dX8_lets_14 : decode cX8_lets 14 = .ok (.iconst 1, 1) := by decide +kernel
theorem dX8_lets_15 : decode cX8_lets 15 = .ok (.ireturn, 1) := by decide +kernel
theorem dX8_lets_16 : decode cX8_lets 16 = .ok (.aload_n 0, 1) := by decide +kernel
theorem dX8_lets_17 : decode cX8_lets 17 = .ok (.iload_n 1, 1) := by decide +kernel
theorem dX8_lets_18 : decode cX8_lets 18 = .ok (.invokevirtual 45, 3) := by decide +kernel
theorem dX8_lets_21 : decode cX8_lets 21 = .ok (.ifCond .eq 5, 3) := by decide +kernel
theorem dX8_lets_24 : decode cX8_lets 24 = .ok (.iconst 0, 1) := by decide +kernel
theorem dX8_lets_25 : decode cX8_lets 25 = .ok (.ireturn, 1) := by decide +kernel
theorem dX8_lets_26 : decode cX8_lets 26 = .ok (.iload_n 2, 1) := by decide +kernel
theorem dX8_lets_27 : decode cX8_lets 27 = .ok (.iconst 3, 1) := by decide +kernel
theorem dX8_lets_28 : decode cX8_lets 28 = .ok (.if_icmp .ne 23, 3) := by decide +kernel
theorem dX8_lets_31 : decode cX8_lets 31 = .ok (.aload_n 0, 1) := by decide +kernel
theorem dX8_lets_32 : decode cX8_lets 32 = .ok (.iload_n 1, 1) := by decide +kernel
theorem dX8_lets_33 : decode cX8_lets 33 = .ok (.iconst 1, 1) := by decide +kernel
theorem dX8_lets_34 : decode cX8_lets 34 = .ok (.iadd, 1) := by decide +kernel
theorem dX8_lets_35 : decode cX8_lets 35 = .ok (.invokevirtual 42, 3) := by decide +kernel
theorem dX8_lets_38 : decode cX8_lets 38 = .ok (.ifCond .eq 17, 3) := by decide +kernel
theorem dX8_lets_41 : decode cX8_lets 41 = .ok (.aload_n 0, 1) := by decide +kernel
theorem dX8_lets_42 : decode cX8_lets 42 = .ok (.iload_n 1, 1) := by decide +kernel
theorem dX8_lets_43 : decode cX8_lets 43 = .ok (.iconst 1, 1) := by decide +kernel
theorem dX8_lets_44 : decode cX8_lets 44 = .ok (.iadd, 1) := by decide +kernel
theorem dX8_lets_45 : decode cX8_lets 45 = .ok (.invokevirtual 45, 3) := by decide +kernel
theorem dX8_lets_48 : decode cX8_lets 48 = .ok (.ifCond .ne 7, 3) := by decide +kernel
theorem dX8_lets_51 : decode cX8_lets 51 = .ok (.iconst 1, 1) := by decide +kernel
theorem dX8_lets_52 : decode cX8_lets 52 = .ok (.goto 4, 3) := by decide +kernel
theorem dX8_lets_55 : decode cX8_lets 55 = .ok (.iconst 0, 1) := by decide +kernel
theorem dX8_lets_56 : decode cX8_lets 56 = .ok (.ireturn, 1) := by decide +kernel
theorem dX8_copy_0 : decode cX8_copy 0 = .ok (.aload_n 0, 1) := by decide +kernel
theorem dX8_copy_1 : decode cX8_copy 1 = .ok (.aload_n 1, 1) := by decide +kernel
theorem dX8_copy_2 : decode cX8_copy 2 = .ok (.getfield 27, 3) := by decide +kernel
theorem dX8_copy_5 : decode cX8_copy 5 = .ok (.putfield 27, 3) := by decide +kernel
theorem dX8_copy_8 : decode cX8_copy 8 = .ok (.aload_n 0, 1) := by decide +kernel
theorem dX8_copy_9 : decode cX8_copy 9 = .ok (.aload_n 1, 1) := by decide +kernel
theorem dX8_copy_10 : decode cX8_copy 10 = .ok (.getfield 31, 3) := by decide +kernel
theorem dX8_copy_13 : decode cX8_copy 13 = .ok (.putfield 31, 3) := by decide +kernel
theorem dX8_copy_16 : decode cX8_copy 16 = .ok (.aload_n 1, 1) := by decide +kernel
theorem dX8_copy_17 : decode cX8_copy 17 = .ok (.getfield 9, 3) := by decide +kernel
theorem dX8_copy_20 : decode cX8_copy 20 = .ok (.iconst 0, 1) := by decide +kernel
theorem dX8_copy_21 : decode cX8_copy 21 = .ok (.aload_n 0, 1) := by decide +kernel
theorem dX8_copy_22 : decode cX8_copy 22 = .ok (.getfield 9, 3) := by decide +kernel
theorem dX8_copy_25 : decode cX8_copy 25 = .ok (.iconst 0, 1) := by decide +kernel
theorem dX8_copy_26 : decode cX8_copy 26 = .ok (.bipush 8, 2) := by decide +kernel
theorem dX8_copy_28 : decode cX8_copy 28 = .ok (.invokestatic 48, 3) := by decide +kernel
theorem dX8_copy_31 : decode cX8_copy 31 = .ok (.aload_n 1, 1) := by decide +kernel
theorem dX8_copy_32 : decode cX8_copy 32 = .ok (.getfield 15, 3) := by decide +kernel
theorem dX8_copy_35 : decode cX8_copy 35 = .ok (.iconst 0, 1) := by decide +kernel
theorem dX8_copy_36 : decode cX8_copy 36 = .ok (.aload_n 0, 1) := by decide +kernel
theorem dX8_copy_37 : decode cX8_copy 37 = .ok (.getfield 15, 3) := by decide +kernel
theorem dX8_copy_40 : decode cX8_copy 40 = .ok (.iconst 0, 1) := by decide +kernel
theorem dX8_copy_41 : decode cX8_copy 41 = .ok (.bipush 8, 2) := by decide +kernel
theorem dX8_copy_43 : decode cX8_copy 43 = .ok (.invokestatic 48, 3) := by decide +kernel
theorem dX8_copy_46 : decode cX8_copy 46 = .ok (.aload_n 1, 1) := by decide +kernel
theorem dX8_copy_47 : decode cX8_copy 47 = .ok (.getfield 18, 3) := by decide +kernel
theorem dX8_copy_50 : decode cX8_copy 50 = .ok (.iconst 0, 1) := by decide +kernel
theorem dX8_copy_51 : decode cX8_copy 51 = .ok (.aload_n 0, 1) := by decide +kernel
theorem dX8_copy_52 : decode cX8_copy 52 = .ok (.getfield 18, 3) := by decide +kernel
theorem dX8_copy_55 : decode cX8_copy 55 = .ok (.iconst 0, 1) := by decide +kernel
theorem dX8_copy_56 : decode cX8_copy 56 = .ok (.bipush 8, 2) := by decide +kernel
theorem dX8_copy_58 : decode cX8_copy 58 = .ok (.invokestatic 48, 3) := by decide +kernel
theorem dX8_copy_61 : decode cX8_copy 61 = .ok (.aload_n 1, 1) := by decide +kernel
theorem dX8_copy_62 : decode cX8_copy 62 = .ok (.getfield 21, 3) := by decide +kernel
theorem dX8_copy_65 : decode cX8_copy 65 = .ok (.iconst 0, 1) := by decide +kernel
theorem dX8_copy_66 : decode cX8_copy 66 = .ok (.aload_n 0, 1) := by decide +kernel
theorem dX8_copy_67 : decode cX8_copy 67 = .ok (.getfield 21, 3) := by decide +kernel
theorem dX8_copy_70 : decode cX8_copy 70 = .ok (.iconst 0, 1) := by decide +kernel
theorem dX8_copy_71 : decode cX8_copy 71 = .ok (.bipush 48, 2) := by decide +kernel
theorem dX8_copy_73 : decode cX8_copy 73 = .ok (.invokestatic 48, 3) := by decide +kernel
theorem dX8_copy_76 : decode cX8_copy 76 = .ok (.aload_n 1, 1) := by decide +kernel
theorem dX8_copy_77 : decode cX8_copy 77 = .ok (.getfield 24, 3) := by decide +kernel
theorem dX8_copy_80 : decode cX8_copy 80 = .ok (.iconst 0, 1) := by decide +kernel
theorem dX8_copy_81 : decode cX8_copy 81 = .ok (.aload_n 0, 1) := by decide +kernel
theorem dX8_copy_82 : decode cX8_copy 82 = .ok (.getfield 24, 3) := by decide +kernel
theorem dX8_copy_85 : decode cX8_copy 85 = .ok (.iconst 0, 1) := by decide +kernel
theorem dX8_copy_86 : decode cX8_copy 86 = .ok (.bipush 48, 2) := by decide +kernel
theorem dX8_copy_88 : decode cX8_copy 88 = .ok (.invokestatic 48, 3) := by decide +kernel
theorem dX8_copy_91 : decode cX8_copy 91 = .ok (.return_, 1) := by decide +kernel
theorem dX1_init_0 : decode cX1_init 0 = .ok (.aload_n 0, 1) := by decide +kernel
theorem dX1_init_1 : decode cX1_init 1 = .ok (.invokespecial 3, 3) := by decide +kernel
theorem dX1_init_4 : decode cX1_init 4 = .ok (.aload_n 0, 1) := by decide +kernel
theorem dX1_init_5 : decode cX1_init 5 = .ok (.iconst 2, 1) := by decide +kernel
theorem dX1_init_6 : decode cX1_init 6 = .ok (.anewarray 9, 3) := by decide +kernel
theorem dX1_init_9 : decode cX1_init 9 = .ok (.putfield 11, 3) := by decide +kernel
theorem dX1_init_12 : decode cX1_init 12 = .ok (.iconst 0, 1) := by decide +kernel
theorem dX1_init_13 : decode cX1_init 13 = .ok (.istore_n 1, 1) := by decide +kernel
theorem dX1_init_14 : decode cX1_init 14 = .ok (.iload_n 1, 1) := by decide +kernel
theorem dX1_init_15 : decode cX1_init 15 = .ok (.iconst 2, 1) := by decide +kernel
theorem dX1_init_16 : decode cX1_init 16 = .ok (.if_icmp .ge 22, 3) := by decide +kernel
theorem dX1_init_19 : decode cX1_init 19 = .ok (.aload_n 0, 1) := by decide +kernel
theorem dX1_init_20 : decode cX1_init 20 = .ok (.getfield 11, 3) := by decide +kernel
theorem dX1_init_23 : decode cX1_init 23 = .ok (.iload_n 1, 1) := by decide +kernel
theorem dX1_init_24 : decode cX1_init 24 = .ok (.new 9, 3) := by decide +kernel
theorem dX1_init_27 : decode cX1_init 27 = .ok (.dup, 1) := by decide +kernel
theorem dX1_init_28 : decode cX1_init 28 = .ok (.invokespecial 17, 3) := by decide +kernel
theorem dX1_init_31 : decode cX1_init 31 = .ok (.aastore, 1) := by decide +kernel
theorem dX1_init_32 : decode cX1_init 32 = .ok (.iinc 1 1, 3) := by decide +kernel
theorem dX1_init_35 : decode cX1_init 35 = .ok (.goto (-21), 3) := by decide +kernel
theorem dX1_init_38 : decode cX1_init 38 = .ok (.aload_n 0, 1) := by decide +kernel
theorem dX1_init_39 : decode cX1_init 39 = .ok (.new 18, 3) := by decide +kernel
theorem dX1_init_42 : decode cX1_init 42 = .ok (.dup, 1) := by decide +kernel
theorem dX1_init_43 : decode cX1_init 43 = .ok (.invokespecial 20, 3) := by decide +kernel
theorem dX1_init_46 : decode cX1_init 46 = .ok (.putfield 21, 3) := by decide +kernel
theorem dX1_init_49 : decode cX1_init 49 = .ok (.return_, 1) := by decide +kernel
theorem dX1_copy_0 : decode cX1_copy 0 = .ok (.iconst 0, 1) := by decide +kernel
theorem dX1_copy_1 : decode cX1_copy 1 = .ok (.istore_n 2, 1) := by decide +kernel
theorem dX1_copy_2 : decode cX1_copy 2 = .ok (.iload_n 2, 1) := by decide +kernel
theorem dX1_copy_3 : decode cX1_copy 3 = .ok (.iconst 2, 1) := by decide +kernel
theorem dX1_copy_4 : decode cX1_copy 4 = .ok (.if_icmp .ge 24, 3) := by decide +kernel
theorem dX1_copy_7 : decode cX1_copy 7 = .ok (.aload_n 0, 1) := by decide +kernel
theorem dX1_copy_8 : decode cX1_copy 8 = .ok (.getfield 11, 3) := by decide +kernel
theorem dX1_copy_11 : decode cX1_copy 11 = .ok (.iload_n 2, 1) := by decide +kernel
theorem dX1_copy_12 : decode cX1_copy 12 = .ok (.aaload, 1) := by decide +kernel
theorem dX1_copy_13 : decode cX1_copy 13 = .ok (.aload_n 1, 1) := by decide +kernel
theorem dX1_copy_14 : decode cX1_copy 14 = .ok (.getfield 11, 3) := by decide +kernel
theorem dX1_copy_17 : decode cX1_copy 17 = .ok (.iload_n 2, 1) := by decide +kernel
theorem dX1_copy_18 : decode cX1_copy 18 = .ok (.aaload, 1) := by decide +kernel
theorem dX1_copy_19 : decode cX1_copy 19 = .ok (.invokevirtual 25, 3) := by decide +kernel
theorem dX1_copy_22 : decode cX1_copy 22 = .ok (.iinc 2 1, 3) := by decide +kernel
theorem dX1_copy_25 : decode cX1_copy 25 = .ok (.goto (-23), 3) := by decide +kernel
theorem dX1_copy_28 : decode cX1_copy 28 = .ok (.aload_n 0, 1) := by decide +kernel
theorem dX1_copy_29 : decode cX1_copy 29 = .ok (.getfield 21, 3) := by decide +kernel
theorem dX1_copy_32 : decode cX1_copy 32 = .ok (.aload_n 1, 1) := by decide +kernel
theorem dX1_copy_33 : decode cX1_copy 33 = .ok (.getfield 21, 3) := by decide +kernel
theorem dX1_copy_36 : decode cX1_copy 36 = .ok (.invokevirtual 29, 3) := by decide +kernel
theorem dX1_copy_39 : decode cX1_copy 39 = .ok (.return_, 1) := by decide +kernel
theorem dX2_init_0 : decode cX2_init 0 = .ok (.aload_n 0, 1) := by decide +kernel
theorem dX2_init_1 : decode cX2_init 1 = .ok (.invokespecial 3, 3) := by decide +kernel
theorem dX2_init_4 : decode cX2_init 4 = .ok (.aload_n 0, 1) := by decide +kernel
theorem dX2_init_5 : decode cX2_init 5 = .ok (.iconst 4, 1) := by decide +kernel
theorem dX2_init_6 : decode cX2_init 6 = .ok (.newarray .int, 2) := by decide +kernel
theorem dX2_init_8 : decode cX2_init 8 = .ok (.dup, 1) := by decide +kernel
theorem dX2_init_9 : decode cX2_init 9 = .ok (.iconst 0, 1) := by decide +kernel
theorem dX2_init_10 : decode cX2_init 10 = .ok (.iconst 0, 1) := by decide +kernel
theorem dX2_init_11 : decode cX2_init 11 = .ok (.iastore, 1) := by decide +kernel
theorem dX2_init_12 : decode cX2_init 12 = .ok (.dup, 1) := by decide +kernel
theorem dX2_init_13 : decode cX2_init 13 = .ok (.iconst 1, 1) := by decide +kernel
theorem dX2_init_14 : decode cX2_init 14 = .ok (.iconst 1, 1) := by decide +kernel
theorem dX2_init_15 : decode cX2_init 15 = .ok (.iastore, 1) := by decide +kernel
theorem dX2_init_16 : decode cX2_init 16 = .ok (.dup, 1) := by decide +kernel
theorem dX2_init_17 : decode cX2_init 17 = .ok (.iconst 2, 1) := by decide +kernel
theorem dX2_init_18 : decode cX2_init 18 = .ok (.iconst 2, 1) := by decide +kernel
theorem dX2_init_19 : decode cX2_init 19 = .ok (.iastore, 1) := by decide +kernel
theorem dX2_init_20 : decode cX2_init 20 = .ok (.dup, 1) := by decide +kernel
theorem dX2_init_21 : decode cX2_init 21 = .ok (.iconst 3, 1) := by decide +kernel
theorem dX2_init_22 : decode cX2_init 22 = .ok (.bipush 6, 2) := by decide +kernel
theorem dX2_init_24 : decode cX2_init 24 = .ok (.iastore, 1) := by decide +kernel
theorem dX2_init_25 : decode cX2_init 25 = .ok (.putfield 9, 3) := by decide +kernel
theorem dX2_init_28 : decode cX2_init 28 = .ok (.aload_n 0, 1) := by decide +kernel
theorem dX2_init_29 : decode cX2_init 29 = .ok (.iconst 4, 1) := by decide +kernel
theorem dX2_init_30 : decode cX2_init 30 = .ok (.newarray .int, 2) := by decide +kernel
theorem dX2_init_32 : decode cX2_init 32 = .ok (.dup, 1) := by decide +kernel
theorem dX2_init_33 : decode cX2_init 33 = .ok (.iconst 0, 1) := by decide +kernel
theorem dX2_init_34 : decode cX2_init 34 = .ok (.iconst 0, 1) := by decide +kernel
theorem dX2_init_35 : decode cX2_init 35 = .ok (.iastore, 1) := by decide +kernel
theorem dX2_init_36 : decode cX2_init 36 = .ok (.dup, 1) := by decide +kernel
theorem dX2_init_37 : decode cX2_init 37 = .ok (.iconst 1, 1) := by decide +kernel
theorem dX2_init_38 : decode cX2_init 38 = .ok (.sipush 200, 3) := by decide +kernel
theorem dX2_init_41 : decode cX2_init 41 = .ok (.iastore, 1) := by decide +kernel
theorem dX2_init_42 : decode cX2_init 42 = .ok (.dup, 1) := by decide +kernel
theorem dX2_init_43 : decode cX2_init 43 = .ok (.iconst 2, 1) := by decide +kernel
theorem dX2_init_44 : decode cX2_init 44 = .ok (.sipush 500, 3) := by decide +kernel
theorem dX2_init_47 : decode cX2_init 47 = .ok (.iastore, 1) := by decide +kernel
theorem dX2_init_48 : decode cX2_init 48 = .ok (.dup, 1) := by decide +kernel
theorem dX2_init_49 : decode cX2_init 49 = .ok (.iconst 3, 1) := by decide +kernel
theorem dX2_init_50 : decode cX2_init 50 = .ok (.sipush 800, 3) := by decide +kernel
theorem dX2_init_53 : decode cX2_init 53 = .ok (.iastore, 1) := by decide +kernel
theorem dX2_init_54 : decode cX2_init 54 = .ok (.putfield 15, 3) := by decide +kernel
theorem dX2_init_57 : decode cX2_init 57 = .ok (.return_, 1) := by decide +kernel
theorem dX2_changeGive_0 : decode cX2_changeGive 0 = .ok (.iload_n 1, 1) := by decide +kernel
theorem dX2_changeGive_1 : decode cX2_changeGive 1 = .ok (.iconst 1, 1) := by decide +kernel
theorem dX2_changeGive_2 : decode cX2_changeGive 2 = .ok (.iconst 3, 1) := by decide +kernel
theorem dX2_changeGive_3 : decode cX2_changeGive 3 = .ok (.invokestatic 18, 3) := by decide +kernel
theorem dX2_changeGive_6 : decode cX2_changeGive 6 = .ok (.ifCond .ne 6, 3) := by decide +kernel
theorem dX2_changeGive_9 : decode cX2_changeGive 9 = .ok (.bipush (-2), 2) := by decide +kernel
theorem dX2_changeGive_11 : decode cX2_changeGive 11 = .ok (.ireturn, 1) := by decide +kernel
theorem dX2_changeGive_12 : decode cX2_changeGive 12 = .ok (.aload_n 0, 1) := by decide +kernel
theorem dX2_changeGive_13 : decode cX2_changeGive 13 = .ok (.getfield 9, 3) := by decide +kernel
theorem dX2_changeGive_16 : decode cX2_changeGive 16 = .ok (.iload_n 1, 1) := by decide +kernel
theorem dX2_changeGive_17 : decode cX2_changeGive 17 = .ok (.iaload, 1) := by decide +kernel
theorem dX2_changeGive_18 : decode cX2_changeGive 18 = .ok (.istore_n 3, 1) := by decide +kernel
theorem dX2_changeGive_19 : decode cX2_changeGive 19 = .ok (.aload_n 0, 1) := by decide +kernel
theorem dX2_changeGive_20 : decode cX2_changeGive 20 = .ok (.getfield 9, 3) := by decide +kernel
theorem dX2_changeGive_23 : decode cX2_changeGive 23 = .ok (.iload_n 1, 1) := by decide +kernel
theorem dX2_changeGive_24 : decode cX2_changeGive 24 = .ok (.iload_n 2, 1) := by decide +kernel
theorem dX2_changeGive_25 : decode cX2_changeGive 25 = .ok (.iastore, 1) := by decide +kernel
theorem dX2_changeGive_26 : decode cX2_changeGive 26 = .ok (.iload_n 3, 1) := by decide +kernel
theorem dX2_changeGive_27 : decode cX2_changeGive 27 = .ok (.ireturn, 1) := by decide +kernel
theorem dX2_changeDeep_0 : decode cX2_changeDeep 0 = .ok (.iload_n 1, 1) := by decide +kernel
theorem dX2_changeDeep_1 : decode cX2_changeDeep 1 = .ok (.iconst 1, 1) := by decide +kernel
theorem dX2_changeDeep_2 : decode cX2_changeDeep 2 = .ok (.iconst 3, 1) := by decide +kernel
theorem dX2_changeDeep_3 : decode cX2_changeDeep 3 = .ok (.invokestatic 18, 3) := by decide +kernel
theorem dX2_changeDeep_6 : decode cX2_changeDeep 6 = .ok (.ifCond .ne 6, 3) := by decide +kernel
theorem dX2_changeDeep_9 : decode cX2_changeDeep 9 = .ok (.bipush (-2), 2) := by decide +kernel
theorem dX2_changeDeep_11 : decode cX2_changeDeep 11 = .ok (.ireturn, 1) := by decide +kernel
theorem dX2_changeDeep_12 : decode cX2_changeDeep 12 = .ok (.aload_n 0, 1) := by decide +kernel
theorem dX2_changeDeep_13 : decode cX2_changeDeep 13 = .ok (.getfield 15, 3) := by decide +kernel
theorem dX2_changeDeep_16 : decode cX2_changeDeep 16 = .ok (.iload_n 1, 1) := by decide +kernel
theorem dX2_changeDeep_17 : decode cX2_changeDeep 17 = .ok (.iaload, 1) := by decide +kernel
theorem dX2_changeDeep_18 : decode cX2_changeDeep 18 = .ok (.istore_n 3, 1) := by decide +kernel
theorem dX2_changeDeep_19 : decode cX2_changeDeep 19 = .ok (.aload_n 0, 1) := by decide +kernel
theorem dX2_changeDeep_20 : decode cX2_changeDeep 20 = .ok (.getfield 15, 3) := by decide +kernel
theorem dX2_changeDeep_23 : decode cX2_changeDeep 23 = .ok (.iload_n 1, 1) := by decide +kernel
theorem dX2_changeDeep_24 : decode cX2_changeDeep 24 = .ok (.iload_n 2, 1) := by decide +kernel
theorem dX2_changeDeep_25 : decode cX2_changeDeep 25 = .ok (.iastore, 1) := by decide +kernel
theorem dX2_changeDeep_26 : decode cX2_changeDeep 26 = .ok (.iload_n 3, 1) := by decide +kernel
theorem dX2_changeDeep_27 : decode cX2_changeDeep 27 = .ok (.ireturn, 1) := by decide +kernel
theorem dX2_owedBehind_0 : decode cX2_owedBehind 0 = .ok (.iload 4, 2) := by decide +kernel
theorem dX2_owedBehind_2 : decode cX2_owedBehind 2 = .ok (.ifCond .ne 24, 3) := by decide +kernel
theorem dX2_owedBehind_5 : decode cX2_owedBehind 5 = .ok (.bipush 20, 2) := by decide +kernel
theorem dX2_owedBehind_7 : decode cX2_owedBehind 7 = .ok (.iload_n 3, 1) := by decide +kernel
theorem dX2_owedBehind_8 : decode cX2_owedBehind 8 = .ok (.aload_n 1, 1) := by decide +kernel
theorem dX2_owedBehind_9 : decode cX2_owedBehind 9 = .ok (.iload_n 2, 1) := by decide +kernel
theorem dX2_owedBehind_10 : decode cX2_owedBehind 10 = .ok (.invokevirtual 22, 3) := by decide +kernel
theorem dX2_owedBehind_13 : decode cX2_owedBehind 13 = .ok (.ifCond .eq 7, 3) := by decide +kernel
theorem dX2_owedBehind_16 : decode cX2_owedBehind 16 = .ok (.iconst 2, 1) := by decide +kernel
theorem dX2_owedBehind_17 : decode cX2_owedBehind 17 = .ok (.goto 4, 3) := by decide +kernel
theorem dX2_owedBehind_20 : decode cX2_owedBehind 20 = .ok (.iconst 1, 1) := by decide +kernel
theorem dX2_owedBehind_21 : decode cX2_owedBehind 21 = .ok (.iadd, 1) := by decide +kernel
theorem dX2_owedBehind_22 : decode cX2_owedBehind 22 = .ok (.invokestatic 28, 3) := by decide +kernel
theorem dX2_owedBehind_25 : decode cX2_owedBehind 25 = .ok (.ireturn, 1) := by decide +kernel
theorem dX2_owedBehind_26 : decode cX2_owedBehind 26 = .ok (.iload 4, 2) := by decide +kernel
theorem dX2_owedBehind_28 : decode cX2_owedBehind 28 = .ok (.iconst 1, 1) := by decide +kernel
theorem dX2_owedBehind_29 : decode cX2_owedBehind 29 = .ok (.iconst 3, 1) := by decide +kernel
theorem dX2_owedBehind_30 : decode cX2_owedBehind 30 = .ok (.invokestatic 18, 3) := by decide +kernel
theorem dX2_owedBehind_33 : decode cX2_owedBehind 33 = .ok (.ifCond .ne 11, 3) := by decide +kernel
theorem dX2_owedBehind_36 : decode cX2_owedBehind 36 = .ok (.iconst 0, 1) := by decide +kernel
theorem dX2_owedBehind_37 : decode cX2_owedBehind 37 = .ok (.iload_n 3, 1) := by decide +kernel
theorem dX2_owedBehind_38 : decode cX2_owedBehind 38 = .ok (.iconst 1, 1) := by decide +kernel
theorem dX2_owedBehind_39 : decode cX2_owedBehind 39 = .ok (.isub, 1) := by decide +kernel
theorem dX2_owedBehind_40 : decode cX2_owedBehind 40 = .ok (.invokestatic 34, 3) := by decide +kernel
theorem dX2_owedBehind_43 : decode cX2_owedBehind 43 = .ok (.ireturn, 1) := by decide +kernel
theorem dX2_owedBehind_44 : decode cX2_owedBehind 44 = .ok (.iconst 0, 1) := by decide +kernel
theorem dX2_owedBehind_45 : decode cX2_owedBehind 45 = .ok (.iload_n 3, 1) := by decide +kernel
theorem dX2_owedBehind_46 : decode cX2_owedBehind 46 = .ok (.aload_n 0, 1) := by decide +kernel
theorem dX2_owedBehind_47 : decode cX2_owedBehind 47 = .ok (.getfield 9, 3) := by decide +kernel
theorem dX2_owedBehind_50 : decode cX2_owedBehind 50 = .ok (.iload 4, 2) := by decide +kernel
theorem dX2_owedBehind_52 : decode cX2_owedBehind 52 = .ok (.iaload, 1) := by decide +kernel
theorem dX2_owedBehind_53 : decode cX2_owedBehind 53 = .ok (.isub, 1) := by decide +kernel
theorem dX2_owedBehind_54 : decode cX2_owedBehind 54 = .ok (.iload_n 2, 1) := by decide +kernel
theorem dX2_owedBehind_55 : decode cX2_owedBehind 55 = .ok (.invokestatic 37, 3) := by decide +kernel
theorem dX2_owedBehind_58 : decode cX2_owedBehind 58 = .ok (.ifCond .eq 7, 3) := by decide +kernel
theorem dX2_owedBehind_61 : decode cX2_owedBehind 61 = .ok (.iconst 1, 1) := by decide +kernel
theorem dX2_owedBehind_62 : decode cX2_owedBehind 62 = .ok (.goto 4, 3) := by decide +kernel
theorem dX2_owedBehind_65 : decode cX2_owedBehind 65 = .ok (.iconst 0, 1) := by decide +kernel
theorem dX2_owedBehind_66 : decode cX2_owedBehind 66 = .ok (.isub, 1) := by decide +kernel
theorem dX2_owedBehind_67 : decode cX2_owedBehind 67 = .ok (.invokestatic 34, 3) := by decide +kernel
theorem dX2_owedBehind_70 : decode cX2_owedBehind 70 = .ok (.ireturn, 1) := by decide +kernel
theorem dX2_blindOf_0 : decode cX2_blindOf 0 = .ok (.aload_n 0, 1) := by decide +kernel
theorem dX2_blindOf_1 : decode cX2_blindOf 1 = .ok (.iload_n 1, 1) := by decide +kernel
theorem dX2_blindOf_2 : decode cX2_blindOf 2 = .ok (.iconst 2, 1) := by decide +kernel
theorem dX2_blindOf_3 : decode cX2_blindOf 3 = .ok (.idiv, 1) := by decide +kernel
theorem dX2_blindOf_4 : decode cX2_blindOf 4 = .ok (.iload_n 2, 1) := by decide +kernel
theorem dX2_blindOf_5 : decode cX2_blindOf 5 = .ok (.invokevirtual 40, 3) := by decide +kernel
theorem dX2_blindOf_8 : decode cX2_blindOf 8 = .ok (.istore_n 3, 1) := by decide +kernel
theorem dX2_blindOf_9 : decode cX2_blindOf 9 = .ok (.iload_n 1, 1) := by decide +kernel
theorem dX2_blindOf_10 : decode cX2_blindOf 10 = .ok (.iconst 2, 1) := by decide +kernel
theorem dX2_blindOf_11 : decode cX2_blindOf 11 = .ok (.irem, 1) := by decide +kernel
theorem dX2_blindOf_12 : decode cX2_blindOf 12 = .ok (.ifCond .ne 5, 3) := by decide +kernel
theorem dX2_blindOf_15 : decode cX2_blindOf 15 = .ok (.iload_n 3, 1) := by decide +kernel
theorem dX2_blindOf_16 : decode cX2_blindOf 16 = .ok (.ireturn, 1) := by decide +kernel
theorem dX2_blindOf_17 : decode cX2_blindOf 17 = .ok (.iconst 0, 1) := by decide +kernel
theorem dX2_blindOf_18 : decode cX2_blindOf 18 = .ok (.sipush 600, 3) := by decide +kernel
theorem dX2_blindOf_21 : decode cX2_blindOf 21 = .ok (.bipush 40, 2) := by decide +kernel
theorem dX2_blindOf_23 : decode cX2_blindOf 23 = .ok (.iload_n 2, 1) := by decide +kernel
theorem dX2_blindOf_24 : decode cX2_blindOf 24 = .ok (.imul, 1) := by decide +kernel
theorem dX2_blindOf_25 : decode cX2_blindOf 25 = .ok (.isub, 1) := by decide +kernel
theorem dX2_blindOf_26 : decode cX2_blindOf 26 = .ok (.invokestatic 34, 3) := by decide +kernel
theorem dX2_blindOf_29 : decode cX2_blindOf 29 = .ok (.istore 4, 2) := by decide +kernel
theorem dX2_blindOf_31 : decode cX2_blindOf 31 = .ok (.iload_n 3, 1) := by decide +kernel
theorem dX2_blindOf_32 : decode cX2_blindOf 32 = .ok (.sipush 1000, 3) := by decide +kernel
theorem dX2_blindOf_35 : decode cX2_blindOf 35 = .ok (.iload 4, 2) := by decide +kernel
theorem dX2_blindOf_37 : decode cX2_blindOf 37 = .ok (.isub, 1) := by decide +kernel
theorem dX2_blindOf_38 : decode cX2_blindOf 38 = .ok (.imul, 1) := by decide +kernel
theorem dX2_blindOf_39 : decode cX2_blindOf 39 = .ok (.sipush 1000, 3) := by decide +kernel
theorem dX2_blindOf_42 : decode cX2_blindOf 42 = .ok (.idiv, 1) := by decide +kernel
theorem dX2_blindOf_43 : decode cX2_blindOf 43 = .ok (.ireturn, 1) := by decide +kernel
theorem dX2_blindAlone_0 : decode cX2_blindAlone 0 = .ok (.iconst 0, 1) := by decide +kernel
theorem dX2_blindAlone_1 : decode cX2_blindAlone 1 = .ok (.iload_n 2, 1) := by decide +kernel
theorem dX2_blindAlone_2 : decode cX2_blindAlone 2 = .ok (.bipush 10, 2) := by decide +kernel
theorem dX2_blindAlone_4 : decode cX2_blindAlone 4 = .ok (.isub, 1) := by decide +kernel
theorem dX2_blindAlone_5 : decode cX2_blindAlone 5 = .ok (.invokestatic 34, 3) := by decide +kernel
theorem dX2_blindAlone_8 : decode cX2_blindAlone 8 = .ok (.istore_n 3, 1) := by decide +kernel
theorem dX2_blindAlone_9 : decode cX2_blindAlone 9 = .ok (.iload_n 1, 1) := by decide +kernel
theorem dX2_blindAlone_10 : decode cX2_blindAlone 10 = .ok (.ifCond .ne 11, 3) := by decide +kernel
theorem dX2_blindAlone_13 : decode cX2_blindAlone 13 = .ok (.bipush 20, 2) := by decide +kernel
theorem dX2_blindAlone_15 : decode cX2_blindAlone 15 = .ok (.bipush 10, 2) := by decide +kernel
theorem dX2_blindAlone_17 : decode cX2_blindAlone 17 = .ok (.iload_n 3, 1) := by decide +kernel
theorem dX2_blindAlone_18 : decode cX2_blindAlone 18 = .ok (.imul, 1) := by decide +kernel
theorem dX2_blindAlone_19 : decode cX2_blindAlone 19 = .ok (.iadd, 1) := by decide +kernel
theorem dX2_blindAlone_20 : decode cX2_blindAlone 20 = .ok (.ireturn, 1) := by decide +kernel
theorem dX2_blindAlone_21 : decode cX2_blindAlone 21 = .ok (.iload_n 1, 1) := by decide +kernel
theorem dX2_blindAlone_22 : decode cX2_blindAlone 22 = .ok (.iconst 1, 1) := by decide +kernel
theorem dX2_blindAlone_23 : decode cX2_blindAlone 23 = .ok (.iconst 3, 1) := by decide +kernel
theorem dX2_blindAlone_24 : decode cX2_blindAlone 24 = .ok (.invokestatic 18, 3) := by decide +kernel
theorem dX2_blindAlone_27 : decode cX2_blindAlone 27 = .ok (.ifCond .ne 7, 3) := by decide +kernel
theorem dX2_blindAlone_30 : decode cX2_blindAlone 30 = .ok (.sipush 300, 3) := by decide +kernel
theorem dX2_blindAlone_33 : decode cX2_blindAlone 33 = .ok (.ireturn, 1) := by decide +kernel
theorem dX2_blindAlone_34 : decode cX2_blindAlone 34 = .ok (.sipush 1000, 3) := by decide +kernel
theorem dX2_blindAlone_37 : decode cX2_blindAlone 37 = .ok (.aload_n 0, 1) := by decide +kernel
theorem dX2_blindAlone_38 : decode cX2_blindAlone 38 = .ok (.getfield 15, 3) := by decide +kernel
theorem dX2_blindAlone_41 : decode cX2_blindAlone 41 = .ok (.iload_n 1, 1) := by decide +kernel
theorem dX2_blindAlone_42 : decode cX2_blindAlone 42 = .ok (.iaload, 1) := by decide +kernel
theorem dX2_blindAlone_43 : decode cX2_blindAlone 43 = .ok (.bipush 20, 2) := by decide +kernel
theorem dX2_blindAlone_45 : decode cX2_blindAlone 45 = .ok (.iload_n 3, 1) := by decide +kernel
theorem dX2_blindAlone_46 : decode cX2_blindAlone 46 = .ok (.imul, 1) := by decide +kernel
theorem dX2_blindAlone_47 : decode cX2_blindAlone 47 = .ok (.iadd, 1) := by decide +kernel
theorem dX2_blindAlone_48 : decode cX2_blindAlone 48 = .ok (.invokestatic 28, 3) := by decide +kernel
theorem dX2_blindAlone_51 : decode cX2_blindAlone 51 = .ok (.ireturn, 1) := by decide +kernel
theorem dX2_copy_0 : decode cX2_copy 0 = .ok (.aload_n 1, 1) := by decide +kernel
theorem dX2_copy_1 : decode cX2_copy 1 = .ok (.getfield 9, 3) := by decide +kernel
theorem dX2_copy_4 : decode cX2_copy 4 = .ok (.iconst 0, 1) := by decide +kernel
theorem dX2_copy_5 : decode cX2_copy 5 = .ok (.aload_n 0, 1) := by decide +kernel
theorem dX2_copy_6 : decode cX2_copy 6 = .ok (.getfield 9, 3) := by decide +kernel
theorem dX2_copy_9 : decode cX2_copy 9 = .ok (.iconst 0, 1) := by decide +kernel
theorem dX2_copy_10 : decode cX2_copy 10 = .ok (.aload_n 0, 1) := by decide +kernel
theorem dX2_copy_11 : decode cX2_copy 11 = .ok (.getfield 9, 3) := by decide +kernel
theorem dX2_copy_14 : decode cX2_copy 14 = .ok (.arraylength, 1) := by decide +kernel
theorem dX2_copy_15 : decode cX2_copy 15 = .ok (.invokestatic 43, 3) := by decide +kernel
theorem dX2_copy_18 : decode cX2_copy 18 = .ok (.aload_n 1, 1) := by decide +kernel
theorem dX2_copy_19 : decode cX2_copy 19 = .ok (.getfield 15, 3) := by decide +kernel
theorem dX2_copy_22 : decode cX2_copy 22 = .ok (.iconst 0, 1) := by decide +kernel
theorem dX2_copy_23 : decode cX2_copy 23 = .ok (.aload_n 0, 1) := by decide +kernel
theorem dX2_copy_24 : decode cX2_copy 24 = .ok (.getfield 15, 3) := by decide +kernel
theorem dX2_copy_27 : decode cX2_copy 27 = .ok (.iconst 0, 1) := by decide +kernel
theorem dX2_copy_28 : decode cX2_copy 28 = .ok (.aload_n 0, 1) := by decide +kernel
theorem dX2_copy_29 : decode cX2_copy 29 = .ok (.getfield 15, 3) := by decide +kernel
theorem dX2_copy_32 : decode cX2_copy 32 = .ok (.arraylength, 1) := by decide +kernel
theorem dX2_copy_33 : decode cX2_copy 33 = .ok (.invokestatic 43, 3) := by decide +kernel
theorem dX2_copy_36 : decode cX2_copy 36 = .ok (.return_, 1) := by decide +kernel
theorem dX6_init_0 : decode cX6_init 0 = .ok (.aload_n 0, 1) := by decide +kernel
theorem dX6_init_1 : decode cX6_init 1 = .ok (.invokespecial 3, 3) := by decide +kernel
theorem dX6_init_4 : decode cX6_init 4 = .ok (.aload_n 0, 1) := by decide +kernel
theorem dX6_init_5 : decode cX6_init 5 = .ok (.sipush 210, 3) := by decide +kernel
theorem dX6_init_8 : decode cX6_init 8 = .ok (.newarray .int, 2) := by decide +kernel
theorem dX6_init_10 : decode cX6_init 10 = .ok (.putfield 9, 3) := by decide +kernel
theorem dX6_init_13 : decode cX6_init 13 = .ok (.aload_n 0, 1) := by decide +kernel
theorem dX6_init_14 : decode cX6_init 14 = .ok (.sipush 210, 3) := by decide +kernel
theorem dX6_init_17 : decode cX6_init 17 = .ok (.newarray .int, 2) := by decide +kernel
theorem dX6_init_19 : decode cX6_init 19 = .ok (.putfield 15, 3) := by decide +kernel
theorem dX6_init_22 : decode cX6_init 22 = .ok (.aload_n 0, 1) := by decide +kernel
theorem dX6_init_23 : decode cX6_init 23 = .ok (.sipush 210, 3) := by decide +kernel
theorem dX6_init_26 : decode cX6_init 26 = .ok (.newarray .int, 2) := by decide +kernel
theorem dX6_init_28 : decode cX6_init 28 = .ok (.putfield 18, 3) := by decide +kernel
theorem dX6_init_31 : decode cX6_init 31 = .ok (.return_, 1) := by decide +kernel
theorem dX6_ready_0 : decode cX6_ready 0 = .ok (.iconst 0, 1) := by decide +kernel
theorem dX6_ready_1 : decode cX6_ready 1 = .ok (.istore 4, 2) := by decide +kernel
theorem dX6_ready_3 : decode cX6_ready 3 = .ok (.iload 4, 2) := by decide +kernel
theorem dX6_ready_5 : decode cX6_ready 5 = .ok (.bipush 21, 2) := by decide +kernel
theorem dX6_ready_7 : decode cX6_ready 7 = .ok (.if_icmp .ge 18, 3) := by decide +kernel
theorem dX6_ready_10 : decode cX6_ready 10 = .ok (.aload_n 0, 1) := by decide +kernel
theorem dX6_ready_11 : decode cX6_ready 11 = .ok (.aload_n 1, 1) := by decide +kernel
theorem dX6_ready_12 : decode cX6_ready 12 = .ok (.aload_n 2, 1) := by decide +kernel
theorem dX6_ready_13 : decode cX6_ready 13 = .ok (.iload_n 3, 1) := by decide +kernel
theorem dX6_ready_14 : decode cX6_ready 14 = .ok (.iload 4, 2) := by decide +kernel
theorem dX6_ready_16 : decode cX6_ready 16 = .ok (.invokevirtual 21, 3) := by decide +kernel
theorem dX6_ready_19 : decode cX6_ready 19 = .ok (.iinc 4 1, 3) := by decide +kernel
theorem dX6_ready_22 : decode cX6_ready 22 = .ok (.goto (-19), 3) := by decide +kernel
theorem dX6_ready_25 : decode cX6_ready 25 = .ok (.return_, 1) := by decide +kernel
theorem dX6_readyFor_0 : decode cX6_readyFor 0 = .ok (.iconst 0, 1) := by decide +kernel
theorem dX6_readyFor_1 : decode cX6_readyFor 1 = .ok (.istore 5, 2) := by decide +kernel
theorem dX6_readyFor_3 : decode cX6_readyFor 3 = .ok (.iload 5, 2) := by decide +kernel
theorem dX6_readyFor_5 : decode cX6_readyFor 5 = .ok (.bipush 10, 2) := by decide +kernel
theorem dX6_readyFor_7 : decode cX6_readyFor 7 = .ok (.if_icmp .ge 109, 3) := by decide +kernel
theorem dX6_readyFor_10 : decode cX6_readyFor 10 = .ok (.iload 4, 2) := by decide +kernel
theorem dX6_readyFor_12 : decode cX6_readyFor 12 = .ok (.invokestatic 25, 3) := by decide +kernel
theorem dX6_readyFor_15 : decode cX6_readyFor 15 = .ok (.ifCond .eq 101, 3) := by decide +kernel
theorem dX6_readyFor_18 : decode cX6_readyFor 18 = .ok (.iload 5, 2) := by decide +kernel
theorem dX6_readyFor_20 : decode cX6_readyFor 20 = .ok (.bipush 21, 2) := by decide +kernel
theorem dX6_readyFor_22 : decode cX6_readyFor 22 = .ok (.imul, 1) := by decide +kernel
theorem dX6_readyFor_23 : decode cX6_readyFor 23 = .ok (.iload 4, 2) := by decide +kernel
theorem dX6_readyFor_25 : decode cX6_readyFor 25 = .ok (.iadd, 1) := by decide +kernel
theorem dX6_readyFor_26 : decode cX6_readyFor 26 = .ok (.istore 6, 2) := by decide +kernel
theorem dX6_readyFor_28 : decode cX6_readyFor 28 = .ok (.iload 5, 2) := by decide +kernel
theorem dX6_readyFor_30 : decode cX6_readyFor 30 = .ok (.iconst 2, 1) := by decide +kernel
theorem dX6_readyFor_31 : decode cX6_readyFor 31 = .ok (.idiv, 1) := by decide +kernel
theorem dX6_readyFor_32 : decode cX6_readyFor 32 = .ok (.istore 7, 2) := by decide +kernel
theorem dX6_readyFor_34 : decode cX6_readyFor 34 = .ok (.aload_n 2, 1) := by decide +kernel
theorem dX6_readyFor_35 : decode cX6_readyFor 35 = .ok (.iload 5, 2) := by decide +kernel
theorem dX6_readyFor_37 : decode cX6_readyFor 37 = .ok (.iload 4, 2) := by decide +kernel
theorem dX6_readyFor_39 : decode cX6_readyFor 39 = .ok (.invokevirtual 29, 3) := by decide +kernel
theorem dX6_readyFor_42 : decode cX6_readyFor 42 = .ok (.istore 8, 2) := by decide +kernel
theorem dX6_readyFor_44 : decode cX6_readyFor 44 = .ok (.aload_n 0, 1) := by decide +kernel
theorem dX6_readyFor_45 : decode cX6_readyFor 45 = .ok (.getfield 9, 3) := by decide +kernel
theorem dX6_readyFor_48 : decode cX6_readyFor 48 = .ok (.iload 6, 2) := by decide +kernel
theorem dX6_readyFor_50 : decode cX6_readyFor 50 = .ok (.iload_n 3, 1) := by decide +kernel
theorem dX6_readyFor_51 : decode cX6_readyFor 51 = .ok (.iload 7, 2) := by decide +kernel
theorem dX6_readyFor_53 : decode cX6_readyFor 53 = .ok (.invokestatic 35, 3) := by decide +kernel
theorem dX6_readyFor_56 : decode cX6_readyFor 56 = .ok (.iadd, 1) := by decide +kernel
theorem dX6_readyFor_57 : decode cX6_readyFor 57 = .ok (.bipush 21, 2) := by decide +kernel
theorem dX6_readyFor_59 : decode cX6_readyFor 59 = .ok (.imul, 1) := by decide +kernel
theorem dX6_readyFor_60 : decode cX6_readyFor 60 = .ok (.aload_n 2, 1) := by decide +kernel
theorem dX6_readyFor_61 : decode cX6_readyFor 61 = .ok (.aload_n 1, 1) := by decide +kernel
theorem dX6_readyFor_62 : decode cX6_readyFor 62 = .ok (.iload_n 3, 1) := by decide +kernel
theorem dX6_readyFor_63 : decode cX6_readyFor 63 = .ok (.iload 4, 2) := by decide +kernel
theorem dX6_readyFor_65 : decode cX6_readyFor 65 = .ok (.iload 7, 2) := by decide +kernel
theorem dX6_readyFor_67 : decode cX6_readyFor 67 = .ok (.invokevirtual 39, 3) := by decide +kernel
theorem dX6_readyFor_70 : decode cX6_readyFor 70 = .ok (.iadd, 1) := by decide +kernel
theorem dX6_readyFor_71 : decode cX6_readyFor 71 = .ok (.iastore, 1) := by decide +kernel
theorem dX6_readyFor_72 : decode cX6_readyFor 72 = .ok (.aload_n 0, 1) := by decide +kernel
theorem dX6_readyFor_73 : decode cX6_readyFor 73 = .ok (.getfield 15, 3) := by decide +kernel
theorem dX6_readyFor_76 : decode cX6_readyFor 76 = .ok (.iload 6, 2) := by decide +kernel
theorem dX6_readyFor_78 : decode cX6_readyFor 78 = .ok (.ldc 43, 2) := by decide +kernel
theorem dX6_readyFor_80 : decode cX6_readyFor 80 = .ok (.aload_n 1, 1) := by decide +kernel
theorem dX6_readyFor_81 : decode cX6_readyFor 81 = .ok (.iload_n 3, 1) := by decide +kernel
theorem dX6_readyFor_82 : decode cX6_readyFor 82 = .ok (.invokevirtual 44, 3) := by decide +kernel
theorem dX6_readyFor_85 : decode cX6_readyFor 85 = .ok (.iload 8, 2) := by decide +kernel
theorem dX6_readyFor_87 : decode cX6_readyFor 87 = .ok (.imul, 1) := by decide +kernel
theorem dX6_readyFor_88 : decode cX6_readyFor 88 = .ok (.isub, 1) := by decide +kernel
theorem dX6_readyFor_89 : decode cX6_readyFor 89 = .ok (.iastore, 1) := by decide +kernel
theorem dX6_readyFor_90 : decode cX6_readyFor 90 = .ok (.aload_n 0, 1) := by decide +kernel
theorem dX6_readyFor_91 : decode cX6_readyFor 91 = .ok (.getfield 18, 3) := by decide +kernel
theorem dX6_readyFor_94 : decode cX6_readyFor 94 = .ok (.iload 6, 2) := by decide +kernel
theorem dX6_readyFor_96 : decode cX6_readyFor 96 = .ok (.ldc 43, 2) := by decide +kernel
theorem dX6_readyFor_98 : decode cX6_readyFor 98 = .ok (.aload_n 1, 1) := by decide +kernel
theorem dX6_readyFor_99 : decode cX6_readyFor 99 = .ok (.iload_n 3, 1) := by decide +kernel
theorem dX6_readyFor_100 : decode cX6_readyFor 100 = .ok (.iconst 1, 1) := by decide +kernel
theorem dX6_readyFor_101 : decode cX6_readyFor 101 = .ok (.iadd, 1) := by decide +kernel
theorem dX6_readyFor_102 : decode cX6_readyFor 102 = .ok (.invokevirtual 44, 3) := by decide +kernel
theorem dX6_readyFor_105 : decode cX6_readyFor 105 = .ok (.iload 8, 2) := by decide +kernel
theorem dX6_readyFor_107 : decode cX6_readyFor 107 = .ok (.imul, 1) := by decide +kernel
theorem dX6_readyFor_108 : decode cX6_readyFor 108 = .ok (.isub, 1) := by decide +kernel
theorem dX6_readyFor_109 : decode cX6_readyFor 109 = .ok (.iastore, 1) := by decide +kernel
theorem dX6_readyFor_110 : decode cX6_readyFor 110 = .ok (.iinc 5 1, 3) := by decide +kernel
theorem dX6_readyFor_113 : decode cX6_readyFor 113 = .ok (.goto (-110), 3) := by decide +kernel
theorem dX6_readyFor_116 : decode cX6_readyFor 116 = .ok (.return_, 1) := by decide +kernel
theorem dX6_safeBy_0 : decode cX6_safeBy 0 = .ok (.iload_n 1, 1) := by decide +kernel
theorem dX6_safeBy_1 : decode cX6_safeBy 1 = .ok (.bipush 21, 2) := by decide +kernel
theorem dX6_safeBy_3 : decode cX6_safeBy 3 = .ok (.imul, 1) := by decide +kernel
theorem dX6_safeBy_4 : decode cX6_safeBy 4 = .ok (.iload_n 2, 1) := by decide +kernel
theorem dX6_safeBy_5 : decode cX6_safeBy 5 = .ok (.iadd, 1) := by decide +kernel
theorem dX6_safeBy_6 : decode cX6_safeBy 6 = .ok (.istore 4, 2) := by decide +kernel
theorem dX6_safeBy_8 : decode cX6_safeBy 8 = .ok (.iload 4, 2) := by decide +kernel
theorem dX6_safeBy_10 : decode cX6_safeBy 10 = .ok (.ifCond .lt 13, 3) := by decide +kernel
theorem dX6_safeBy_13 : decode cX6_safeBy 13 = .ok (.iload 4, 2) := by decide +kernel
theorem dX6_safeBy_15 : decode cX6_safeBy 15 = .ok (.aload_n 0, 1) := by decide +kernel
theorem dX6_safeBy_16 : decode cX6_safeBy 16 = .ok (.getfield 9, 3) := by decide +kernel
theorem dX6_safeBy_19 : decode cX6_safeBy 19 = .ok (.arraylength, 1) := by decide +kernel
theorem dX6_safeBy_20 : decode cX6_safeBy 20 = .ok (.if_icmp .lt 5, 3) := by decide +kernel
theorem dX6_safeBy_23 : decode cX6_safeBy 23 = .ok (.iconst 0, 1) := by decide +kernel
theorem dX6_safeBy_24 : decode cX6_safeBy 24 = .ok (.ireturn, 1) := by decide +kernel
theorem dX6_safeBy_25 : decode cX6_safeBy 25 = .ok (.aload_n 3, 1) := by decide +kernel
theorem dX6_safeBy_26 : decode cX6_safeBy 26 = .ok (.aload_n 0, 1) := by decide +kernel
theorem dX6_safeBy_27 : decode cX6_safeBy 27 = .ok (.getfield 9, 3) := by decide +kernel
theorem dX6_safeBy_30 : decode cX6_safeBy 30 = .ok (.iload 4, 2) := by decide +kernel
theorem dX6_safeBy_32 : decode cX6_safeBy 32 = .ok (.iaload, 1) := by decide +kernel
theorem dX6_safeBy_33 : decode cX6_safeBy 33 = .ok (.invokevirtual 49, 3) := by decide +kernel
theorem dX6_safeBy_36 : decode cX6_safeBy 36 = .ok (.i2l, 1) := by decide +kernel
theorem dX6_safeBy_37 : decode cX6_safeBy 37 = .ok (.lstore 5, 2) := by decide +kernel
theorem dX6_safeBy_39 : decode cX6_safeBy 39 = .ok (.iload_n 1, 1) := by decide +kernel
theorem dX6_safeBy_40 : decode cX6_safeBy 40 = .ok (.iconst 2, 1) := by decide +kernel
theorem dX6_safeBy_41 : decode cX6_safeBy 41 = .ok (.idiv, 1) := by decide +kernel
theorem dX6_safeBy_42 : decode cX6_safeBy 42 = .ok (.iconst 3, 1) := by decide +kernel
theorem dX6_safeBy_43 : decode cX6_safeBy 43 = .ok (.if_icmp .ne 20, 3) := by decide +kernel
theorem dX6_safeBy_46 : decode cX6_safeBy 46 = .ok (.lload 5, 2) := by decide +kernel
theorem dX6_safeBy_48 : decode cX6_safeBy 48 = .ok (.aload_n 0, 1) := by decide +kernel
theorem dX6_safeBy_49 : decode cX6_safeBy 49 = .ok (.getfield 18, 3) := by decide +kernel
theorem dX6_safeBy_52 : decode cX6_safeBy 52 = .ok (.iload 4, 2) := by decide +kernel
theorem dX6_safeBy_54 : decode cX6_safeBy 54 = .ok (.iaload, 1) := by decide +kernel
theorem dX6_safeBy_55 : decode cX6_safeBy 55 = .ok (.i2l, 1) := by decide +kernel
theorem dX6_safeBy_56 : decode cX6_safeBy 56 = .ok (.lmul, 1) := by decide +kernel
theorem dX6_safeBy_57 : decode cX6_safeBy 57 = .ok (.ldc2_w 54, 3) := by decide +kernel
theorem dX6_safeBy_60 : decode cX6_safeBy 60 = .ok (.ldiv, 1) := by decide +kernel
theorem dX6_safeBy_61 : decode cX6_safeBy 61 = .ok (.lstore 5, 2) := by decide +kernel
theorem dX6_safeBy_63 : decode cX6_safeBy 63 = .ok (.lload 5, 2) := by decide +kernel
theorem dX6_safeBy_65 : decode cX6_safeBy 65 = .ok (.aload_n 0, 1) := by decide +kernel
theorem dX6_safeBy_66 : decode cX6_safeBy 66 = .ok (.getfield 15, 3) := by decide +kernel
theorem dX6_safeBy_69 : decode cX6_safeBy 69 = .ok (.iload 4, 2) := by decide +kernel
theorem dX6_safeBy_71 : decode cX6_safeBy 71 = .ok (.iaload, 1) := by decide +kernel
theorem dX6_safeBy_72 : decode cX6_safeBy 72 = .ok (.i2l, 1) := by decide +kernel
theorem dX6_safeBy_73 : decode cX6_safeBy 73 = .ok (.lmul, 1) := by decide +kernel
theorem dX6_safeBy_74 : decode cX6_safeBy 74 = .ok (.ldc2_w 54, 3) := by decide +kernel
theorem dX6_safeBy_77 : decode cX6_safeBy 77 = .ok (.ldiv, 1) := by decide +kernel
theorem dX6_safeBy_78 : decode cX6_safeBy 78 = .ok (.l2i, 1) := by decide +kernel
theorem dX6_safeBy_79 : decode cX6_safeBy 79 = .ok (.ireturn, 1) := by decide +kernel
theorem dX0_init_0 : decode cX0_init 0 = .ok (.aload_n 0, 1) := by decide +kernel
theorem dX0_init_1 : decode cX0_init 1 = .ok (.invokespecial 3, 3) := by decide +kernel
theorem dX0_init_4 : decode cX0_init 4 = .ok (.aload_n 0, 1) := by decide +kernel
theorem dX0_init_5 : decode cX0_init 5 = .ok (.aload_n 1, 1) := by decide +kernel
theorem dX0_init_6 : decode cX0_init 6 = .ok (.putfield 9, 3) := by decide +kernel
theorem dX0_init_9 : decode cX0_init 9 = .ok (.aload_n 0, 1) := by decide +kernel
theorem dX0_init_10 : decode cX0_init 10 = .ok (.new 15, 3) := by decide +kernel
theorem dX0_init_13 : decode cX0_init 13 = .ok (.dup, 1) := by decide +kernel
theorem dX0_init_14 : decode cX0_init 14 = .ok (.invokespecial 17, 3) := by decide +kernel
theorem dX0_init_17 : decode cX0_init 17 = .ok (.putfield 18, 3) := by decide +kernel
theorem dX0_init_20 : decode cX0_init 20 = .ok (.return_, 1) := by decide +kernel
theorem dX0_setOut_0 : decode cX0_setOut 0 = .ok (.aload_n 0, 1) := by decide +kernel
theorem dX0_setOut_1 : decode cX0_setOut 1 = .ok (.aload_n 1, 1) := by decide +kernel
theorem dX0_setOut_2 : decode cX0_setOut 2 = .ok (.putfield 22, 3) := by decide +kernel
theorem dX0_setOut_5 : decode cX0_setOut 5 = .ok (.aload_n 0, 1) := by decide +kernel
theorem dX0_setOut_6 : decode cX0_setOut 6 = .ok (.iconst 0, 1) := by decide +kernel
theorem dX0_setOut_7 : decode cX0_setOut 7 = .ok (.putfield 26, 3) := by decide +kernel
theorem dX0_setOut_10 : decode cX0_setOut 10 = .ok (.aload_n 0, 1) := by decide +kernel
theorem dX0_setOut_11 : decode cX0_setOut 11 = .ok (.iload_n 2, 1) := by decide +kernel
theorem dX0_setOut_12 : decode cX0_setOut 12 = .ok (.putfield 30, 3) := by decide +kernel
theorem dX0_setOut_15 : decode cX0_setOut 15 = .ok (.aload_n 0, 1) := by decide +kernel
theorem dX0_setOut_16 : decode cX0_setOut 16 = .ok (.iload_n 3, 1) := by decide +kernel
theorem dX0_setOut_17 : decode cX0_setOut 17 = .ok (.putfield 33, 3) := by decide +kernel
theorem dX0_setOut_20 : decode cX0_setOut 20 = .ok (.aload_n 0, 1) := by decide +kernel
theorem dX0_setOut_21 : decode cX0_setOut 21 = .ok (.getfield 18, 3) := by decide +kernel
theorem dX0_setOut_24 : decode cX0_setOut 24 = .ok (.iconst 0, 1) := by decide +kernel
theorem dX0_setOut_25 : decode cX0_setOut 25 = .ok (.putfield 36, 3) := by decide +kernel
theorem dX0_setOut_28 : decode cX0_setOut 28 = .ok (.return_, 1) := by decide +kernel
theorem dX0_sailBy_0 : decode cX0_sailBy 0 = .ok (.iconst 0, 1) := by decide +kernel
theorem dX0_sailBy_1 : decode cX0_sailBy 1 = .ok (.istore_n 2, 1) := by decide +kernel
theorem dX0_sailBy_2 : decode cX0_sailBy 2 = .ok (.iconst 0, 1) := by decide +kernel
theorem dX0_sailBy_3 : decode cX0_sailBy 3 = .ok (.istore_n 3, 1) := by decide +kernel
theorem dX0_sailBy_4 : decode cX0_sailBy 4 = .ok (.iconst 0, 1) := by decide +kernel
theorem dX0_sailBy_5 : decode cX0_sailBy 5 = .ok (.istore 4, 2) := by decide +kernel
theorem dX0_sailBy_7 : decode cX0_sailBy 7 = .ok (.iload 4, 2) := by decide +kernel
theorem dX0_sailBy_9 : decode cX0_sailBy 9 = .ok (.aload_n 1, 1) := by decide +kernel
theorem dX0_sailBy_10 : decode cX0_sailBy 10 = .ok (.getfield 39, 3) := by decide +kernel
theorem dX0_sailBy_13 : decode cX0_sailBy 13 = .ok (.if_icmp .ge 64, 3) := by decide +kernel
theorem dX0_sailBy_16 : decode cX0_sailBy 16 = .ok (.aload_n 1, 1) := by decide +kernel
theorem dX0_sailBy_17 : decode cX0_sailBy 17 = .ok (.getfield 44, 3) := by decide +kernel
theorem dX0_sailBy_20 : decode cX0_sailBy 20 = .ok (.iload 4, 2) := by decide +kernel
theorem dX0_sailBy_22 : decode cX0_sailBy 22 = .ok (.iaload, 1) := by decide +kernel
theorem dX0_sailBy_23 : decode cX0_sailBy 23 = .ok (.invokestatic 48, 3) := by decide +kernel
theorem dX0_sailBy_26 : decode cX0_sailBy 26 = .ok (.istore 5, 2) := by decide +kernel
theorem dX0_sailBy_28 : decode cX0_sailBy 28 = .ok (.iload 5, 2) := by decide +kernel
theorem dX0_sailBy_30 : decode cX0_sailBy 30 = .ok (.bipush (-6), 2) := by decide +kernel
theorem dX0_sailBy_32 : decode cX0_sailBy 32 = .ok (.if_icmp .eq 21, 3) := by decide +kernel
theorem dX0_sailBy_35 : decode cX0_sailBy 35 = .ok (.aload_n 0, 1) := by decide +kernel
theorem dX0_sailBy_36 : decode cX0_sailBy 36 = .ok (.iconst 2, 1) := by decide +kernel
theorem dX0_sailBy_37 : decode cX0_sailBy 37 = .ok (.iload 5, 2) := by decide +kernel
theorem dX0_sailBy_39 : decode cX0_sailBy 39 = .ok (.imul, 1) := by decide +kernel
theorem dX0_sailBy_40 : decode cX0_sailBy 40 = .ok (.iload_n 3, 1) := by decide +kernel
theorem dX0_sailBy_41 : decode cX0_sailBy 41 = .ok (.iadd, 1) := by decide +kernel
theorem dX0_sailBy_42 : decode cX0_sailBy 42 = .ok (.invokevirtual 52, 3) := by decide +kernel
theorem dX0_sailBy_45 : decode cX0_sailBy 45 = .ok (.ifCond .ne 5, 3) := by decide +kernel
theorem dX0_sailBy_48 : decode cX0_sailBy 48 = .ok (.iload_n 2, 1) := by decide +kernel
theorem dX0_sailBy_49 : decode cX0_sailBy 49 = .ok (.ireturn, 1) := by decide +kernel
theorem dX0_sailBy_50 : decode cX0_sailBy 50 = .ok (.iinc 2 1, 3) := by decide +kernel
theorem dX0_sailBy_53 : decode cX0_sailBy 53 = .ok (.aload_n 1, 1) := by decide +kernel
theorem dX0_sailBy_54 : decode cX0_sailBy 54 = .ok (.getfield 44, 3) := by decide +kernel
theorem dX0_sailBy_57 : decode cX0_sailBy 57 = .ok (.iload 4, 2) := by decide +kernel
theorem dX0_sailBy_59 : decode cX0_sailBy 59 = .ok (.iaload, 1) := by decide +kernel
theorem dX0_sailBy_60 : decode cX0_sailBy 60 = .ok (.bipush 33, 2) := by decide +kernel
theorem dX0_sailBy_62 : decode cX0_sailBy 62 = .ok (.if_icmp .ne 7, 3) := by decide +kernel
theorem dX0_sailBy_65 : decode cX0_sailBy 65 = .ok (.iconst 1, 1) := by decide +kernel
theorem dX0_sailBy_66 : decode cX0_sailBy 66 = .ok (.goto 4, 3) := by decide +kernel
theorem dX0_sailBy_69 : decode cX0_sailBy 69 = .ok (.iconst 0, 1) := by decide +kernel
theorem dX0_sailBy_70 : decode cX0_sailBy 70 = .ok (.istore_n 3, 1) := by decide +kernel
theorem dX0_sailBy_71 : decode cX0_sailBy 71 = .ok (.iinc 4 1, 3) := by decide +kernel
theorem dX0_sailBy_74 : decode cX0_sailBy 74 = .ok (.goto (-67), 3) := by decide +kernel
theorem dX0_sailBy_77 : decode cX0_sailBy 77 = .ok (.bipush (-6), 2) := by decide +kernel
theorem dX0_sailBy_79 : decode cX0_sailBy 79 = .ok (.ireturn, 1) := by decide +kernel
theorem dX0_sailByThumb_0 : decode cX0_sailByThumb 0 = .ok (.aload_n 0, 1) := by decide +kernel
theorem dX0_sailByThumb_1 : decode cX0_sailByThumb 1 = .ok (.getfield 22, 3) := by decide +kernel
theorem dX0_sailByThumb_4 : decode cX0_sailByThumb 4 = .ok (.ifnonnull 4, 3) := by decide +kernel
theorem dX0_sailByThumb_7 : decode cX0_sailByThumb 7 = .ok (.return_, 1) := by decide +kernel
theorem dX0_sailByThumb_8 : decode cX0_sailByThumb 8 = .ok (.iconst 0, 1) := by decide +kernel
theorem dX0_sailByThumb_9 : decode cX0_sailByThumb 9 = .ok (.istore_n 2, 1) := by decide +kernel
theorem dX0_sailByThumb_10 : decode cX0_sailByThumb 10 = .ok (.iload_n 2, 1) := by decide +kernel
theorem dX0_sailByThumb_11 : decode cX0_sailByThumb 11 = .ok (.bipush 48, 2) := by decide +kernel
theorem dX0_sailByThumb_13 : decode cX0_sailByThumb 13 = .ok (.if_icmp .ge 35, 3) := by decide +kernel
theorem dX0_sailByThumb_16 : decode cX0_sailByThumb 16 = .ok (.aload_n 0, 1) := by decide +kernel
theorem dX0_sailByThumb_17 : decode cX0_sailByThumb 17 = .ok (.getfield 26, 3) := by decide +kernel
theorem dX0_sailByThumb_20 : decode cX0_sailByThumb 20 = .ok (.aload_n 0, 1) := by decide +kernel
theorem dX0_sailByThumb_21 : decode cX0_sailByThumb 21 = .ok (.getfield 22, 3) := by decide +kernel
theorem dX0_sailByThumb_24 : decode cX0_sailByThumb 24 = .ok (.getfield 56, 3) := by decide +kernel
theorem dX0_sailByThumb_27 : decode cX0_sailByThumb 27 = .ok (.if_icmp .ge 21, 3) := by decide +kernel
theorem dX0_sailByThumb_30 : decode cX0_sailByThumb 30 = .ok (.aload_n 0, 1) := by decide +kernel
theorem dX0_sailByThumb_31 : decode cX0_sailByThumb 31 = .ok (.iconst 2, 1) := by decide +kernel
theorem dX0_sailByThumb_32 : decode cX0_sailByThumb 32 = .ok (.aload_n 0, 1) := by decide +kernel
theorem dX0_sailByThumb_33 : decode cX0_sailByThumb 33 = .ok (.iload_n 1, 1) := by decide +kernel
theorem dX0_sailByThumb_34 : decode cX0_sailByThumb 34 = .ok (.invokevirtual 61, 3) := by decide +kernel
theorem dX0_sailByThumb_37 : decode cX0_sailByThumb 37 = .ok (.imul, 1) := by decide +kernel
theorem dX0_sailByThumb_38 : decode cX0_sailByThumb 38 = .ok (.invokevirtual 52, 3) := by decide +kernel
theorem dX0_sailByThumb_41 : decode cX0_sailByThumb 41 = .ok (.pop, 1) := by decide +kernel
theorem dX0_sailByThumb_42 : decode cX0_sailByThumb 42 = .ok (.iinc 2 1, 3) := by decide +kernel
theorem dX0_sailByThumb_45 : decode cX0_sailByThumb 45 = .ok (.goto (-35), 3) := by decide +kernel
theorem dX0_sailByThumb_48 : decode cX0_sailByThumb 48 = .ok (.return_, 1) := by decide +kernel
theorem dX0_thingByThumb_0 : decode cX0_thingByThumb 0 = .ok (.iload_n 1, 1) := by decide +kernel
theorem dX0_thingByThumb_1 : decode cX0_thingByThumb 1 = .ok (.ifCond .ne 34, 3) := by decide +kernel
theorem dX0_thingByThumb_4 : decode cX0_thingByThumb 4 = .ok (.aload_n 0, 1) := by decide +kernel
theorem dX0_thingByThumb_5 : decode cX0_thingByThumb 5 = .ok (.getfield 26, 3) := by decide +kernel
theorem dX0_thingByThumb_8 : decode cX0_thingByThumb 8 = .ok (.iconst 2, 1) := by decide +kernel
theorem dX0_thingByThumb_9 : decode cX0_thingByThumb 9 = .ok (.irem, 1) := by decide +kernel
theorem dX0_thingByThumb_10 : decode cX0_thingByThumb 10 = .ok (.iconst 1, 1) := by decide +kernel
theorem dX0_thingByThumb_11 : decode cX0_thingByThumb 11 = .ok (.if_icmp .ne 22, 3) := by decide +kernel
theorem dX0_thingByThumb_14 : decode cX0_thingByThumb 14 = .ok (.aload_n 0, 1) := by decide +kernel
theorem dX0_thingByThumb_15 : decode cX0_thingByThumb 15 = .ok (.getfield 22, 3) := by decide +kernel
theorem dX0_thingByThumb_18 : decode cX0_thingByThumb 18 = .ok (.aload_n 0, 1) := by decide +kernel
theorem dX0_thingByThumb_19 : decode cX0_thingByThumb 19 = .ok (.getfield 26, 3) := by decide +kernel
theorem dX0_thingByThumb_22 : decode cX0_thingByThumb 22 = .ok (.iconst 1, 1) := by decide +kernel
theorem dX0_thingByThumb_23 : decode cX0_thingByThumb 23 = .ok (.invokevirtual 64, 3) := by decide +kernel
theorem dX0_thingByThumb_26 : decode cX0_thingByThumb 26 = .ok (.ifCond .eq 7, 3) := by decide +kernel
theorem dX0_thingByThumb_29 : decode cX0_thingByThumb 29 = .ok (.iconst 1, 1) := by decide +kernel
theorem dX0_thingByThumb_30 : decode cX0_thingByThumb 30 = .ok (.goto 4, 3) := by decide +kernel
theorem dX0_thingByThumb_33 : decode cX0_thingByThumb 33 = .ok (.iconst 0, 1) := by decide +kernel
theorem dX0_thingByThumb_34 : decode cX0_thingByThumb 34 = .ok (.ireturn, 1) := by decide +kernel
theorem dX0_thingByThumb_35 : decode cX0_thingByThumb 35 = .ok (.aload_n 0, 1) := by decide +kernel
theorem dX0_thingByThumb_36 : decode cX0_thingByThumb 36 = .ok (.iload_n 1, 1) := by decide +kernel
theorem dX0_thingByThumb_37 : decode cX0_thingByThumb 37 = .ok (.invokevirtual 68, 3) := by decide +kernel
theorem dX0_thingByThumb_40 : decode cX0_thingByThumb 40 = .ok (.ifCond .ne 5, 3) := by decide +kernel
theorem dX0_thingByThumb_43 : decode cX0_thingByThumb 43 = .ok (.iconst 0, 1) := by decide +kernel
theorem dX0_thingByThumb_44 : decode cX0_thingByThumb 44 = .ok (.ireturn, 1) := by decide +kernel
theorem dX0_thingByThumb_45 : decode cX0_thingByThumb 45 = .ok (.aload_n 0, 1) := by decide +kernel
theorem dX0_thingByThumb_46 : decode cX0_thingByThumb 46 = .ok (.getfield 22, 3) := by decide +kernel
theorem dX0_thingByThumb_49 : decode cX0_thingByThumb 49 = .ok (.aload_n 0, 1) := by decide +kernel
theorem dX0_thingByThumb_50 : decode cX0_thingByThumb 50 = .ok (.getfield 26, 3) := by decide +kernel
theorem dX0_thingByThumb_53 : decode cX0_thingByThumb 53 = .ok (.iconst 3, 1) := by decide +kernel
theorem dX0_thingByThumb_54 : decode cX0_thingByThumb 54 = .ok (.invokevirtual 64, 3) := by decide +kernel
theorem dX0_thingByThumb_57 : decode cX0_thingByThumb 57 = .ok (.ifCond .eq 5, 3) := by decide +kernel
theorem dX0_thingByThumb_60 : decode cX0_thingByThumb 60 = .ok (.iconst 3, 1) := by decide +kernel
theorem dX0_thingByThumb_61 : decode cX0_thingByThumb 61 = .ok (.ireturn, 1) := by decide +kernel
theorem dX0_thingByThumb_62 : decode cX0_thingByThumb 62 = .ok (.aload_n 0, 1) := by decide +kernel
theorem dX0_thingByThumb_63 : decode cX0_thingByThumb 63 = .ok (.getfield 22, 3) := by decide +kernel
theorem dX0_thingByThumb_66 : decode cX0_thingByThumb 66 = .ok (.aload_n 0, 1) := by decide +kernel
theorem dX0_thingByThumb_67 : decode cX0_thingByThumb 67 = .ok (.getfield 26, 3) := by decide +kernel
theorem dX0_thingByThumb_70 : decode cX0_thingByThumb 70 = .ok (.iconst 2, 1) := by decide +kernel
theorem dX0_thingByThumb_71 : decode cX0_thingByThumb 71 = .ok (.invokevirtual 64, 3) := by decide +kernel
theorem dX0_thingByThumb_74 : decode cX0_thingByThumb 74 = .ok (.ifCond .eq 7, 3) := by decide +kernel
theorem dX0_thingByThumb_77 : decode cX0_thingByThumb 77 = .ok (.iconst 2, 1) := by decide +kernel
theorem dX0_thingByThumb_78 : decode cX0_thingByThumb 78 = .ok (.goto 4, 3) := by decide +kernel
theorem dX0_thingByThumb_81 : decode cX0_thingByThumb 81 = .ok (.iconst 0, 1) := by decide +kernel
theorem dX0_thingByThumb_82 : decode cX0_thingByThumb 82 = .ok (.ireturn, 1) := by decide +kernel
theorem dX0_saidByThumb_0 : decode cX0_saidByThumb 0 = .ok (.iload_n 1, 1) := by decide +kernel
theorem dX0_saidByThumb_1 : decode cX0_saidByThumb 1 = .ok (.lookupswitch 72 #[(1, 27), (2, 42)], 27) := by decide +kernel
theorem dX0_saidByThumb_28 : decode cX0_saidByThumb 28 = .ok (.aload_n 0, 1) := by decide +kernel
theorem dX0_saidByThumb_29 : decode cX0_saidByThumb 29 = .ok (.getfield 30, 3) := by decide +kernel
theorem dX0_saidByThumb_32 : decode cX0_saidByThumb 32 = .ok (.bipush 8, 2) := by decide +kernel
theorem dX0_saidByThumb_34 : decode cX0_saidByThumb 34 = .ok (.if_icmp .lt 7, 3) := by decide +kernel
theorem dX0_saidByThumb_37 : decode cX0_saidByThumb 37 = .ok (.iconst 1, 1) := by decide +kernel
theorem dX0_saidByThumb_38 : decode cX0_saidByThumb 38 = .ok (.goto 4, 3) := by decide +kernel
theorem dX0_saidByThumb_41 : decode cX0_saidByThumb 41 = .ok (.iconst 0, 1) := by decide +kernel
theorem dX0_saidByThumb_42 : decode cX0_saidByThumb 42 = .ok (.ireturn, 1) := by decide +kernel
theorem dX0_saidByThumb_43 : decode cX0_saidByThumb 43 = .ok (.aload_n 0, 1) := by decide +kernel
theorem dX0_saidByThumb_44 : decode cX0_saidByThumb 44 = .ok (.getfield 30, 3) := by decide +kernel
theorem dX0_saidByThumb_47 : decode cX0_saidByThumb 47 = .ok (.iconst 4, 1) := by decide +kernel
theorem dX0_saidByThumb_48 : decode cX0_saidByThumb 48 = .ok (.if_icmp .lt 23, 3) := by decide +kernel
theorem dX0_saidByThumb_51 : decode cX0_saidByThumb 51 = .ok (.aload_n 0, 1) := by decide +kernel
theorem dX0_saidByThumb_52 : decode cX0_saidByThumb 52 = .ok (.getfield 22, 3) := by decide +kernel
theorem dX0_saidByThumb_55 : decode cX0_saidByThumb 55 = .ok (.aload_n 0, 1) := by decide +kernel
theorem dX0_saidByThumb_56 : decode cX0_saidByThumb 56 = .ok (.getfield 26, 3) := by decide +kernel
theorem dX0_saidByThumb_59 : decode cX0_saidByThumb 59 = .ok (.invokevirtual 71, 3) := by decide +kernel
theorem dX0_saidByThumb_62 : decode cX0_saidByThumb 62 = .ok (.bipush 50, 2) := by decide +kernel
theorem dX0_saidByThumb_64 : decode cX0_saidByThumb 64 = .ok (.if_icmp .ge 7, 3) := by decide +kernel
theorem dX0_saidByThumb_67 : decode cX0_saidByThumb 67 = .ok (.iconst 1, 1) := by decide +kernel
theorem dX0_saidByThumb_68 : decode cX0_saidByThumb 68 = .ok (.goto 4, 3) := by decide +kernel
theorem dX0_saidByThumb_71 : decode cX0_saidByThumb 71 = .ok (.iconst 0, 1) := by decide +kernel
theorem dX0_saidByThumb_72 : decode cX0_saidByThumb 72 = .ok (.ireturn, 1) := by decide +kernel
theorem dX0_saidByThumb_73 : decode cX0_saidByThumb 73 = .ok (.aload_n 0, 1) := by decide +kernel
theorem dX0_saidByThumb_74 : decode cX0_saidByThumb 74 = .ok (.getfield 30, 3) := by decide +kernel
theorem dX0_saidByThumb_77 : decode cX0_saidByThumb 77 = .ok (.iconst 1, 1) := by decide +kernel
theorem dX0_saidByThumb_78 : decode cX0_saidByThumb 78 = .ok (.if_icmp .lt 17, 3) := by decide +kernel
theorem dX0_saidByThumb_81 : decode cX0_saidByThumb 81 = .ok (.aload_n 0, 1) := by decide +kernel
theorem dX0_saidByThumb_82 : decode cX0_saidByThumb 82 = .ok (.getfield 26, 3) := by decide +kernel
theorem dX0_saidByThumb_85 : decode cX0_saidByThumb 85 = .ok (.invokestatic 74, 3) := by decide +kernel
theorem dX0_saidByThumb_88 : decode cX0_saidByThumb 88 = .ok (.ifCond .eq 7, 3) := by decide +kernel
theorem dX0_saidByThumb_91 : decode cX0_saidByThumb 91 = .ok (.iconst 1, 1) := by decide +kernel
theorem dX0_saidByThumb_92 : decode cX0_saidByThumb 92 = .ok (.goto 4, 3) := by decide +kernel
theorem dX0_saidByThumb_95 : decode cX0_saidByThumb 95 = .ok (.iconst 0, 1) := by decide +kernel
theorem dX0_saidByThumb_96 : decode cX0_saidByThumb 96 = .ok (.ireturn, 1) := by decide +kernel
theorem dX0_doDeed_0 : decode cX0_doDeed 0 = .ok (.iload_n 1, 1) := by decide +kernel
theorem dX0_doDeed_1 : decode cX0_doDeed 1 = .ok (.iconst 2, 1) := by decide +kernel
theorem dX0_doDeed_2 : decode cX0_doDeed 2 = .ok (.idiv, 1) := by decide +kernel
theorem dX0_doDeed_3 : decode cX0_doDeed 3 = .ok (.istore_n 2, 1) := by decide +kernel
theorem dX0_doDeed_4 : decode cX0_doDeed 4 = .ok (.aload_n 0, 1) := by decide +kernel
theorem dX0_doDeed_5 : decode cX0_doDeed 5 = .ok (.getfield 22, 3) := by decide +kernel
theorem dX0_doDeed_8 : decode cX0_doDeed 8 = .ok (.ifnull 29, 3) := by decide +kernel
theorem dX0_doDeed_11 : decode cX0_doDeed 11 = .ok (.aload_n 0, 1) := by decide +kernel
theorem dX0_doDeed_12 : decode cX0_doDeed 12 = .ok (.getfield 22, 3) := by decide +kernel
theorem dX0_doDeed_15 : decode cX0_doDeed 15 = .ok (.aload_n 0, 1) := by decide +kernel
theorem dX0_doDeed_16 : decode cX0_doDeed 16 = .ok (.getfield 26, 3) := by decide +kernel
theorem dX0_doDeed_19 : decode cX0_doDeed 19 = .ok (.iload_n 2, 1) := by decide +kernel
theorem dX0_doDeed_20 : decode cX0_doDeed 20 = .ok (.invokevirtual 64, 3) := by decide +kernel
theorem dX0_doDeed_23 : decode cX0_doDeed 23 = .ok (.ifCond .eq 14, 3) := by decide +kernel
theorem dX0_doDeed_26 : decode cX0_doDeed 26 = .ok (.aload_n 0, 1) := by decide +kernel
theorem dX0_doDeed_27 : decode cX0_doDeed 27 = .ok (.getfield 33, 3) := by decide +kernel
theorem dX0_doDeed_30 : decode cX0_doDeed 30 = .ok (.iload_n 1, 1) := by decide +kernel
theorem dX0_doDeed_31 : decode cX0_doDeed 31 = .ok (.invokestatic 77, 3) := by decide +kernel
theorem dX0_doDeed_34 : decode cX0_doDeed 34 = .ok (.if_icmp .ge 5, 3) := by decide +kernel
theorem dX0_doDeed_37 : decode cX0_doDeed 37 = .ok (.iconst 0, 1) := by decide +kernel
theorem dX0_doDeed_38 : decode cX0_doDeed 38 = .ok (.ireturn, 1) := by decide +kernel
theorem dX0_doDeed_39 : decode cX0_doDeed 39 = .ok (.aload_n 0, 1) := by decide +kernel
theorem dX0_doDeed_40 : decode cX0_doDeed 40 = .ok (.getfield 9, 3) := by decide +kernel
theorem dX0_doDeed_43 : decode cX0_doDeed 43 = .ok (.iload_n 1, 1) := by decide +kernel
theorem dX0_doDeed_44 : decode cX0_doDeed 44 = .ok (.aload_n 0, 1) := by decide +kernel
theorem dX0_doDeed_45 : decode cX0_doDeed 45 = .ok (.getfield 30, 3) := by decide +kernel
theorem dX0_doDeed_48 : decode cX0_doDeed 48 = .ok (.invokevirtual 80, 3) := by decide +kernel
theorem dX0_doDeed_51 : decode cX0_doDeed 51 = .ok (.istore_n 3, 1) := by decide +kernel
theorem dX0_doDeed_52 : decode cX0_doDeed 52 = .ok (.aload_n 0, 1) := by decide +kernel
theorem dX0_doDeed_53 : decode cX0_doDeed 53 = .ok (.getfield 18, 3) := by decide +kernel
theorem dX0_doDeed_56 : decode cX0_doDeed 56 = .ok (.aload_n 0, 1) := by decide +kernel
theorem dX0_doDeed_57 : decode cX0_doDeed 57 = .ok (.getfield 22, 3) := by decide +kernel
theorem dX0_doDeed_60 : decode cX0_doDeed 60 = .ok (.aload_n 0, 1) := by decide +kernel
theorem dX0_doDeed_61 : decode cX0_doDeed 61 = .ok (.getfield 26, 3) := by decide +kernel
theorem dX0_doDeed_64 : decode cX0_doDeed 64 = .ok (.invokevirtual 71, 3) := by decide +kernel
theorem dX0_doDeed_67 : decode cX0_doDeed 67 = .ok (.iload_n 3, 1) := by decide +kernel
theorem dX0_doDeed_68 : decode cX0_doDeed 68 = .ok (.invokevirtual 86, 3) := by decide +kernel
theorem dX0_doDeed_71 : decode cX0_doDeed 71 = .ok (.iload_n 2, 1) := by decide +kernel
theorem dX0_doDeed_72 : decode cX0_doDeed 72 = .ok (.iconst 3, 1) := by decide +kernel
theorem dX0_doDeed_73 : decode cX0_doDeed 73 = .ok (.if_icmp .ne 24, 3) := by decide +kernel
theorem dX0_doDeed_76 : decode cX0_doDeed 76 = .ok (.aload_n 0, 1) := by decide +kernel
theorem dX0_doDeed_77 : decode cX0_doDeed 77 = .ok (.getfield 18, 3) := by decide +kernel
theorem dX0_doDeed_80 : decode cX0_doDeed 80 = .ok (.aload_n 0, 1) := by decide +kernel
theorem dX0_doDeed_81 : decode cX0_doDeed 81 = .ok (.getfield 22, 3) := by decide +kernel
theorem dX0_doDeed_84 : decode cX0_doDeed 84 = .ok (.aload_n 0, 1) := by decide +kernel
theorem dX0_doDeed_85 : decode cX0_doDeed 85 = .ok (.getfield 26, 3) := by decide +kernel
theorem dX0_doDeed_88 : decode cX0_doDeed 88 = .ok (.iconst 1, 1) := by decide +kernel
theorem dX0_doDeed_89 : decode cX0_doDeed 89 = .ok (.iadd, 1) := by decide +kernel
theorem dX0_doDeed_90 : decode cX0_doDeed 90 = .ok (.invokevirtual 71, 3) := by decide +kernel
theorem dX0_doDeed_93 : decode cX0_doDeed 93 = .ok (.iload_n 3, 1) := by decide +kernel
theorem dX0_doDeed_94 : decode cX0_doDeed 94 = .ok (.invokevirtual 86, 3) := by decide +kernel
theorem dX0_doDeed_97 : decode cX0_doDeed 97 = .ok (.aload_n 0, 1) := by decide +kernel
theorem dX0_doDeed_98 : decode cX0_doDeed 98 = .ok (.aload_n 0, 1) := by decide +kernel
theorem dX0_doDeed_99 : decode cX0_doDeed 99 = .ok (.getfield 9, 3) := by decide +kernel
theorem dX0_doDeed_102 : decode cX0_doDeed 102 = .ok (.aload_n 0, 1) := by decide +kernel
theorem dX0_doDeed_103 : decode cX0_doDeed 103 = .ok (.getfield 22, 3) := by decide +kernel
theorem dX0_doDeed_106 : decode cX0_doDeed 106 = .ok (.aload_n 0, 1) := by decide +kernel
theorem dX0_doDeed_107 : decode cX0_doDeed 107 = .ok (.getfield 26, 3) := by decide +kernel
theorem dX0_doDeed_110 : decode cX0_doDeed 110 = .ok (.aload_n 0, 1) := by decide +kernel
theorem dX0_doDeed_111 : decode cX0_doDeed 111 = .ok (.getfield 30, 3) := by decide +kernel
theorem dX0_doDeed_114 : decode cX0_doDeed 114 = .ok (.iload_n 2, 1) := by decide +kernel
theorem dX0_doDeed_115 : decode cX0_doDeed 115 = .ok (.invokevirtual 90, 3) := by decide +kernel
theorem dX0_doDeed_118 : decode cX0_doDeed 118 = .ok (.putfield 30, 3) := by decide +kernel
theorem dX0_doDeed_121 : decode cX0_doDeed 121 = .ok (.aload_n 0, 1) := by decide +kernel
theorem dX0_doDeed_122 : decode cX0_doDeed 122 = .ok (.dup, 1) := by decide +kernel
theorem dX0_doDeed_123 : decode cX0_doDeed 123 = .ok (.getfield 33, 3) := by decide +kernel
theorem dX0_doDeed_126 : decode cX0_doDeed 126 = .ok (.iload_n 1, 1) := by decide +kernel
theorem dX0_doDeed_127 : decode cX0_doDeed 127 = .ok (.invokestatic 77, 3) := by decide +kernel
theorem dX0_doDeed_130 : decode cX0_doDeed 130 = .ok (.isub, 1) := by decide +kernel
theorem dX0_doDeed_131 : decode cX0_doDeed 131 = .ok (.putfield 33, 3) := by decide +kernel
theorem dX0_doDeed_134 : decode cX0_doDeed 134 = .ok (.aload_n 0, 1) := by decide +kernel
theorem dX0_doDeed_135 : decode cX0_doDeed 135 = .ok (.dup, 1) := by decide +kernel
theorem dX0_doDeed_136 : decode cX0_doDeed 136 = .ok (.getfield 26, 3) := by decide +kernel
theorem dX0_doDeed_139 : decode cX0_doDeed 139 = .ok (.iload_n 2, 1) := by decide +kernel
theorem dX0_doDeed_140 : decode cX0_doDeed 140 = .ok (.invokestatic 94, 3) := by decide +kernel
theorem dX0_doDeed_143 : decode cX0_doDeed 143 = .ok (.iadd, 1) := by decide +kernel
theorem dX0_doDeed_144 : decode cX0_doDeed 144 = .ok (.putfield 26, 3) := by decide +kernel
theorem dX0_doDeed_147 : decode cX0_doDeed 147 = .ok (.iconst 1, 1) := by decide +kernel
theorem dX0_doDeed_148 : decode cX0_doDeed 148 = .ok (.ireturn, 1) := by decide +kernel
theorem dX0_safeByTurns_0 : decode cX0_safeByTurns 0 = .ok (.iload_n 2, 1) := by decide +kernel
theorem dX0_safeByTurns_1 : decode cX0_safeByTurns 1 = .ok (.istore 4, 2) := by decide +kernel
theorem dX0_safeByTurns_3 : decode cX0_safeByTurns 3 = .ok (.iload_n 2, 1) := by decide +kernel
theorem dX0_safeByTurns_4 : decode cX0_safeByTurns 4 = .ok (.istore 5, 2) := by decide +kernel
theorem dX0_safeByTurns_6 : decode cX0_safeByTurns 6 = .ok (.aload_n 0, 1) := by decide +kernel
theorem dX0_safeByTurns_7 : decode cX0_safeByTurns 7 = .ok (.getfield 18, 3) := by decide +kernel
theorem dX0_safeByTurns_10 : decode cX0_safeByTurns 10 = .ok (.iconst 0, 1) := by decide +kernel
theorem dX0_safeByTurns_11 : decode cX0_safeByTurns 11 = .ok (.putfield 36, 3) := by decide +kernel
theorem dX0_safeByTurns_14 : decode cX0_safeByTurns 14 = .ok (.iconst 0, 1) := by decide +kernel
theorem dX0_safeByTurns_15 : decode cX0_safeByTurns 15 = .ok (.istore 6, 2) := by decide +kernel
theorem dX0_safeByTurns_17 : decode cX0_safeByTurns 17 = .ok (.iload 6, 2) := by decide +kernel
theorem dX0_safeByTurns_19 : decode cX0_safeByTurns 19 = .ok (.aload_n 1, 1) := by decide +kernel
theorem dX0_safeByTurns_20 : decode cX0_safeByTurns 20 = .ok (.getfield 56, 3) := by decide +kernel
theorem dX0_safeByTurns_23 : decode cX0_safeByTurns 23 = .ok (.if_icmp .ge 162, 3) := by decide +kernel
theorem dX0_safeByTurns_26 : decode cX0_safeByTurns 26 = .ok (.aload_n 1, 1) := by decide +kernel
theorem dX0_safeByTurns_27 : decode cX0_safeByTurns 27 = .ok (.iload 6, 2) := by decide +kernel
theorem dX0_safeByTurns_29 : decode cX0_safeByTurns 29 = .ok (.invokevirtual 97, 3) := by decide +kernel
theorem dX0_safeByTurns_32 : decode cX0_safeByTurns 32 = .ok (.istore 7, 2) := by decide +kernel
theorem dX0_safeByTurns_34 : decode cX0_safeByTurns 34 = .ok (.iload_n 3, 1) := by decide +kernel
theorem dX0_safeByTurns_35 : decode cX0_safeByTurns 35 = .ok (.iconst 1, 1) := by decide +kernel
theorem dX0_safeByTurns_36 : decode cX0_safeByTurns 36 = .ok (.if_icmp .lt 12, 3) := by decide +kernel
theorem dX0_safeByTurns_39 : decode cX0_safeByTurns 39 = .ok (.iload 6, 2) := by decide +kernel
theorem dX0_safeByTurns_41 : decode cX0_safeByTurns 41 = .ok (.iload_n 3, 1) := by decide +kernel
theorem dX0_safeByTurns_42 : decode cX0_safeByTurns 42 = .ok (.idiv, 1) := by decide +kernel
theorem dX0_safeByTurns_43 : decode cX0_safeByTurns 43 = .ok (.iconst 2, 1) := by decide +kernel
theorem dX0_safeByTurns_44 : decode cX0_safeByTurns 44 = .ok (.irem, 1) := by decide +kernel
theorem dX0_safeByTurns_45 : decode cX0_safeByTurns 45 = .ok (.ifCond .ne 7, 3) := by decide +kernel
theorem dX0_safeByTurns_48 : decode cX0_safeByTurns 48 = .ok (.iconst 1, 1) := by decide +kernel
theorem dX0_safeByTurns_49 : decode cX0_safeByTurns 49 = .ok (.goto 4, 3) := by decide +kernel
theorem dX0_safeByTurns_52 : decode cX0_safeByTurns 52 = .ok (.iconst 0, 1) := by decide +kernel
theorem dX0_safeByTurns_53 : decode cX0_safeByTurns 53 = .ok (.istore 8, 2) := by decide +kernel
theorem dX0_safeByTurns_55 : decode cX0_safeByTurns 55 = .ok (.iload 7, 2) := by decide +kernel
theorem dX0_safeByTurns_57 : decode cX0_safeByTurns 57 = .ok (.ifCond .eq 13, 3) := by decide +kernel
theorem dX0_safeByTurns_60 : decode cX0_safeByTurns 60 = .ok (.iload 4, 2) := by decide +kernel
theorem dX0_safeByTurns_62 : decode cX0_safeByTurns 62 = .ok (.iload 5, 2) := by decide +kernel
theorem dX0_safeByTurns_64 : decode cX0_safeByTurns 64 = .ok (.invokestatic 100, 3) := by decide +kernel
theorem dX0_safeByTurns_67 : decode cX0_safeByTurns 67 = .ok (.goto 15, 3) := by decide +kernel
theorem dX0_safeByTurns_70 : decode cX0_safeByTurns 70 = .ok (.iload 8, 2) := by decide +kernel
theorem dX0_safeByTurns_72 : decode cX0_safeByTurns 72 = .ok (.ifCond .eq 8, 3) := by decide +kernel
theorem dX0_safeByTurns_75 : decode cX0_safeByTurns 75 = .ok (.iload 4, 2) := by decide +kernel
theorem dX0_safeByTurns_77 : decode cX0_safeByTurns 77 = .ok (.goto 5, 3) := by decide +kernel
theorem dX0_safeByTurns_80 : decode cX0_safeByTurns 80 = .ok (.iload 5, 2) := by decide +kernel
theorem dX0_safeByTurns_82 : decode cX0_safeByTurns 82 = .ok (.istore 9, 2) := by decide +kernel
theorem dX0_safeByTurns_84 : decode cX0_safeByTurns 84 = .ok (.aload_n 0, 1) := by decide +kernel
theorem dX0_safeByTurns_85 : decode cX0_safeByTurns 85 = .ok (.getfield 18, 3) := by decide +kernel
theorem dX0_safeByTurns_88 : decode cX0_safeByTurns 88 = .ok (.aload_n 1, 1) := by decide +kernel
theorem dX0_safeByTurns_89 : decode cX0_safeByTurns 89 = .ok (.iload 6, 2) := by decide +kernel
theorem dX0_safeByTurns_91 : decode cX0_safeByTurns 91 = .ok (.invokevirtual 71, 3) := by decide +kernel
theorem dX0_safeByTurns_94 : decode cX0_safeByTurns 94 = .ok (.aload_n 0, 1) := by decide +kernel
theorem dX0_safeByTurns_95 : decode cX0_safeByTurns 95 = .ok (.getfield 9, 3) := by decide +kernel
theorem dX0_safeByTurns_98 : decode cX0_safeByTurns 98 = .ok (.iconst 0, 1) := by decide +kernel
theorem dX0_safeByTurns_99 : decode cX0_safeByTurns 99 = .ok (.iload 9, 2) := by decide +kernel
theorem dX0_safeByTurns_101 : decode cX0_safeByTurns 101 = .ok (.invokevirtual 80, 3) := by decide +kernel
theorem dX0_safeByTurns_104 : decode cX0_safeByTurns 104 = .ok (.invokevirtual 86, 3) := by decide +kernel
theorem dX0_safeByTurns_107 : decode cX0_safeByTurns 107 = .ok (.iload 7, 2) := by decide +kernel
theorem dX0_safeByTurns_109 : decode cX0_safeByTurns 109 = .ok (.ifCond .ne 8, 3) := by decide +kernel
theorem dX0_safeByTurns_112 : decode cX0_safeByTurns 112 = .ok (.iload 8, 2) := by decide +kernel
theorem dX0_safeByTurns_114 : decode cX0_safeByTurns 114 = .ok (.ifCond .eq 19, 3) := by decide +kernel
theorem dX0_safeByTurns_117 : decode cX0_safeByTurns 117 = .ok (.aload_n 0, 1) := by decide +kernel
theorem dX0_safeByTurns_118 : decode cX0_safeByTurns 118 = .ok (.getfield 9, 3) := by decide +kernel
theorem dX0_safeByTurns_121 : decode cX0_safeByTurns 121 = .ok (.aload_n 1, 1) := by decide +kernel
theorem dX0_safeByTurns_122 : decode cX0_safeByTurns 122 = .ok (.iload 6, 2) := by decide +kernel
theorem dX0_safeByTurns_124 : decode cX0_safeByTurns 124 = .ok (.iload 4, 2) := by decide +kernel
theorem dX0_safeByTurns_126 : decode cX0_safeByTurns 126 = .ok (.iconst 0, 1) := by decide +kernel
theorem dX0_safeByTurns_127 : decode cX0_safeByTurns 127 = .ok (.invokevirtual 90, 3) := by decide +kernel
theorem dX0_safeByTurns_130 : decode cX0_safeByTurns 130 = .ok (.goto 11, 3) := by decide +kernel
theorem dX0_safeByTurns_133 : decode cX0_safeByTurns 133 = .ok (.iconst 0, 1) := by decide +kernel
theorem dX0_safeByTurns_134 : decode cX0_safeByTurns 134 = .ok (.iload 4, 2) := by decide +kernel
theorem dX0_safeByTurns_136 : decode cX0_safeByTurns 136 = .ok (.iconst 2, 1) := by decide +kernel
theorem dX0_safeByTurns_137 : decode cX0_safeByTurns 137 = .ok (.isub, 1) := by decide +kernel
theorem dX0_safeByTurns_138 : decode cX0_safeByTurns 138 = .ok (.invokestatic 105, 3) := by decide +kernel
theorem dX0_safeByTurns_141 : decode cX0_safeByTurns 141 = .ok (.istore 4, 2) := by decide +kernel
theorem dX0_safeByTurns_143 : decode cX0_safeByTurns 143 = .ok (.iload 7, 2) := by decide +kernel
theorem dX0_safeByTurns_145 : decode cX0_safeByTurns 145 = .ok (.ifCond .ne 8, 3) := by decide +kernel
theorem dX0_safeByTurns_148 : decode cX0_safeByTurns 148 = .ok (.iload 8, 2) := by decide +kernel
theorem dX0_safeByTurns_150 : decode cX0_safeByTurns 150 = .ok (.ifCond .ne 19, 3) := by decide +kernel
theorem dX0_safeByTurns_153 : decode cX0_safeByTurns 153 = .ok (.aload_n 0, 1) := by decide +kernel
theorem dX0_safeByTurns_154 : decode cX0_safeByTurns 154 = .ok (.getfield 9, 3) := by decide +kernel
theorem dX0_safeByTurns_157 : decode cX0_safeByTurns 157 = .ok (.aload_n 1, 1) := by decide +kernel
theorem dX0_safeByTurns_158 : decode cX0_safeByTurns 158 = .ok (.iload 6, 2) := by decide +kernel
theorem dX0_safeByTurns_160 : decode cX0_safeByTurns 160 = .ok (.iload 5, 2) := by decide +kernel
theorem dX0_safeByTurns_162 : decode cX0_safeByTurns 162 = .ok (.iconst 0, 1) := by decide +kernel
theorem dX0_safeByTurns_163 : decode cX0_safeByTurns 163 = .ok (.invokevirtual 90, 3) := by decide +kernel
theorem dX0_safeByTurns_166 : decode cX0_safeByTurns 166 = .ok (.goto 11, 3) := by decide +kernel
theorem dX0_safeByTurns_169 : decode cX0_safeByTurns 169 = .ok (.iconst 0, 1) := by decide +kernel
theorem dX0_safeByTurns_170 : decode cX0_safeByTurns 170 = .ok (.iload 5, 2) := by decide +kernel
theorem dX0_safeByTurns_172 : decode cX0_safeByTurns 172 = .ok (.iconst 2, 1) := by decide +kernel
theorem dX0_safeByTurns_173 : decode cX0_safeByTurns 173 = .ok (.isub, 1) := by decide +kernel
theorem dX0_safeByTurns_174 : decode cX0_safeByTurns 174 = .ok (.invokestatic 105, 3) := by decide +kernel
theorem dX0_safeByTurns_177 : decode cX0_safeByTurns 177 = .ok (.istore 5, 2) := by decide +kernel
theorem dX0_safeByTurns_179 : decode cX0_safeByTurns 179 = .ok (.iinc 6 1, 3) := by decide +kernel
theorem dX0_safeByTurns_182 : decode cX0_safeByTurns 182 = .ok (.goto (-165), 3) := by decide +kernel
theorem dX0_safeByTurns_185 : decode cX0_safeByTurns 185 = .ok (.aload_n 0, 1) := by decide +kernel
theorem dX0_safeByTurns_186 : decode cX0_safeByTurns 186 = .ok (.getfield 18, 3) := by decide +kernel
theorem dX0_safeByTurns_189 : decode cX0_safeByTurns 189 = .ok (.invokevirtual 108, 3) := by decide +kernel
theorem dX0_safeByTurns_192 : decode cX0_safeByTurns 192 = .ok (.ireturn, 1) := by decide +kernel
theorem dX4_init_0 : decode cX4_init 0 = .ok (.aload_n 0, 1) := by decide +kernel
theorem dX4_init_1 : decode cX4_init 1 = .ok (.invokespecial 3, 3) := by decide +kernel
theorem dX4_init_4 : decode cX4_init 4 = .ok (.aload_n 0, 1) := by decide +kernel
theorem dX4_init_5 : decode cX4_init 5 = .ok (.aload_n 1, 1) := by decide +kernel
theorem dX4_init_6 : decode cX4_init 6 = .ok (.putfield 9, 3) := by decide +kernel
theorem dX4_init_9 : decode cX4_init 9 = .ok (.aload_n 0, 1) := by decide +kernel
theorem dX4_init_10 : decode cX4_init 10 = .ok (.aload_n 2, 1) := by decide +kernel
theorem dX4_init_11 : decode cX4_init 11 = .ok (.putfield 15, 3) := by decide +kernel
theorem dX4_init_14 : decode cX4_init 14 = .ok (.aload_n 0, 1) := by decide +kernel
theorem dX4_init_15 : decode cX4_init 15 = .ok (.aload_n 3, 1) := by decide +kernel
theorem dX4_init_16 : decode cX4_init 16 = .ok (.putfield 19, 3) := by decide +kernel
theorem dX4_init_19 : decode cX4_init 19 = .ok (.aload_n 0, 1) := by decide +kernel
theorem dX4_init_20 : decode cX4_init 20 = .ok (.bipush 125, 2) := by decide +kernel
theorem dX4_init_22 : decode cX4_init 22 = .ok (.anewarray 23, 3) := by decide +kernel
theorem dX4_init_25 : decode cX4_init 25 = .ok (.putfield 25, 3) := by decide +kernel
theorem dX4_init_28 : decode cX4_init 28 = .ok (.return_, 1) := by decide +kernel
theorem dX4_forget_0 : decode cX4_forget 0 = .ok (.iconst 0, 1) := by decide +kernel
theorem dX4_forget_1 : decode cX4_forget 1 = .ok (.istore_n 1, 1) := by decide +kernel
theorem dX4_forget_2 : decode cX4_forget 2 = .ok (.iload_n 1, 1) := by decide +kernel
theorem dX4_forget_3 : decode cX4_forget 3 = .ok (.aload_n 0, 1) := by decide +kernel
theorem dX4_forget_4 : decode cX4_forget 4 = .ok (.getfield 25, 3) := by decide +kernel
theorem dX4_forget_7 : decode cX4_forget 7 = .ok (.arraylength, 1) := by decide +kernel
theorem dX4_forget_8 : decode cX4_forget 8 = .ok (.if_icmp .ge 29, 3) := by decide +kernel
theorem dX4_forget_11 : decode cX4_forget 11 = .ok (.aload_n 0, 1) := by decide +kernel
theorem dX4_forget_12 : decode cX4_forget 12 = .ok (.getfield 25, 3) := by decide +kernel
theorem dX4_forget_15 : decode cX4_forget 15 = .ok (.iload_n 1, 1) := by decide +kernel
theorem dX4_forget_16 : decode cX4_forget 16 = .ok (.aaload, 1) := by decide +kernel
theorem dX4_forget_17 : decode cX4_forget 17 = .ok (.ifnull 14, 3) := by decide +kernel
theorem dX4_forget_20 : decode cX4_forget 20 = .ok (.aload_n 0, 1) := by decide +kernel
theorem dX4_forget_21 : decode cX4_forget 21 = .ok (.getfield 25, 3) := by decide +kernel
theorem dX4_forget_24 : decode cX4_forget 24 = .ok (.iload_n 1, 1) := by decide +kernel
theorem dX4_forget_25 : decode cX4_forget 25 = .ok (.aaload, 1) := by decide +kernel
theorem dX4_forget_26 : decode cX4_forget 26 = .ok (.bipush 49, 2) := by decide +kernel
theorem dX4_forget_28 : decode cX4_forget 28 = .ok (.putfield 29, 3) := by decide +kernel
theorem dX4_forget_31 : decode cX4_forget 31 = .ok (.iinc 1 1, 3) := by decide +kernel
theorem dX4_forget_34 : decode cX4_forget 34 = .ok (.goto (-32), 3) := by decide +kernel
theorem dX4_forget_37 : decode cX4_forget 37 = .ok (.return_, 1) := by decide +kernel
theorem dX4_reaches_0 : decode cX4_reaches 0 = .ok (.iload_n 1, 1) := by decide +kernel
theorem dX4_reaches_1 : decode cX4_reaches 1 = .ok (.iconst 0, 1) := by decide +kernel
theorem dX4_reaches_2 : decode cX4_reaches 2 = .ok (.aload_n 0, 1) := by decide +kernel
theorem dX4_reaches_3 : decode cX4_reaches 3 = .ok (.getfield 9, 3) := by decide +kernel
theorem dX4_reaches_6 : decode cX4_reaches 6 = .ok (.getfield 33, 3) := by decide +kernel
theorem dX4_reaches_9 : decode cX4_reaches 9 = .ok (.invokestatic 38, 3) := by decide +kernel
theorem dX4_reaches_12 : decode cX4_reaches 12 = .ok (.ifCond .eq 16, 3) := by decide +kernel
theorem dX4_reaches_15 : decode cX4_reaches 15 = .ok (.iload_n 2, 1) := by decide +kernel
theorem dX4_reaches_16 : decode cX4_reaches 16 = .ok (.iconst 0, 1) := by decide +kernel
theorem dX4_reaches_17 : decode cX4_reaches 17 = .ok (.iconst 4, 1) := by decide +kernel
theorem dX4_reaches_18 : decode cX4_reaches 18 = .ok (.invokestatic 38, 3) := by decide +kernel
theorem dX4_reaches_21 : decode cX4_reaches 21 = .ok (.ifCond .eq 7, 3) := by decide +kernel
theorem dX4_reaches_24 : decode cX4_reaches 24 = .ok (.iconst 1, 1) := by decide +kernel
theorem dX4_reaches_25 : decode cX4_reaches 25 = .ok (.goto 4, 3) := by decide +kernel
theorem dX4_reaches_28 : decode cX4_reaches 28 = .ok (.iconst 0, 1) := by decide +kernel
theorem dX4_reaches_29 : decode cX4_reaches 29 = .ok (.ireturn, 1) := by decide +kernel
theorem dX4_bestFrom_0 : decode cX4_bestFrom 0 = .ok (.aload_n 0, 1) := by decide +kernel
theorem dX4_bestFrom_1 : decode cX4_bestFrom 1 = .ok (.iload_n 1, 1) := by decide +kernel
theorem dX4_bestFrom_2 : decode cX4_bestFrom 2 = .ok (.iload_n 3, 1) := by decide +kernel
theorem dX4_bestFrom_3 : decode cX4_bestFrom 3 = .ok (.iload 4, 2) := by decide +kernel
theorem dX4_bestFrom_5 : decode cX4_bestFrom 5 = .ok (.invokevirtual 42, 3) := by decide +kernel
theorem dX4_bestFrom_8 : decode cX4_bestFrom 8 = .ok (.aload_n 0, 1) := by decide +kernel
theorem dX4_bestFrom_9 : decode cX4_bestFrom 9 = .ok (.iload_n 1, 1) := by decide +kernel
theorem dX4_bestFrom_10 : decode cX4_bestFrom 10 = .ok (.iload_n 3, 1) := by decide +kernel
theorem dX4_bestFrom_11 : decode cX4_bestFrom 11 = .ok (.iload 4, 2) := by decide +kernel
theorem dX4_bestFrom_13 : decode cX4_bestFrom 13 = .ok (.invokevirtual 46, 3) := by decide +kernel
theorem dX4_bestFrom_16 : decode cX4_bestFrom 16 = .ok (.astore 5, 2) := by decide +kernel
theorem dX4_bestFrom_18 : decode cX4_bestFrom 18 = .ok (.aload 5, 2) := by decide +kernel
theorem dX4_bestFrom_20 : decode cX4_bestFrom 20 = .ok (.ifnonnull 7, 3) := by decide +kernel
theorem dX4_bestFrom_23 : decode cX4_bestFrom 23 = .ok (.iconst 0, 1) := by decide +kernel
theorem dX4_bestFrom_24 : decode cX4_bestFrom 24 = .ok (.goto 14, 3) := by decide +kernel
theorem dX4_bestFrom_27 : decode cX4_bestFrom 27 = .ok (.aload 5, 2) := by decide +kernel
theorem dX4_bestFrom_29 : decode cX4_bestFrom 29 = .ok (.iload_n 1, 1) := by decide +kernel
theorem dX4_bestFrom_30 : decode cX4_bestFrom 30 = .ok (.bipush 21, 2) := by decide +kernel
theorem dX4_bestFrom_32 : decode cX4_bestFrom 32 = .ok (.imul, 1) := by decide +kernel
theorem dX4_bestFrom_33 : decode cX4_bestFrom 33 = .ok (.iload_n 2, 1) := by decide +kernel
theorem dX4_bestFrom_34 : decode cX4_bestFrom 34 = .ok (.iadd, 1) := by decide +kernel
theorem dX4_bestFrom_35 : decode cX4_bestFrom 35 = .ok (.invokevirtual 50, 3) := by decide +kernel
theorem dX4_bestFrom_38 : decode cX4_bestFrom 38 = .ok (.ireturn, 1) := by decide +kernel
theorem dX4_firstDeed_0 : decode cX4_firstDeed 0 = .ok (.aload_n 0, 1) := by decide +kernel
theorem dX4_firstDeed_1 : decode cX4_firstDeed 1 = .ok (.iload_n 1, 1) := by decide +kernel
theorem dX4_firstDeed_2 : decode cX4_firstDeed 2 = .ok (.iload_n 3, 1) := by decide +kernel
theorem dX4_firstDeed_3 : decode cX4_firstDeed 3 = .ok (.iload 4, 2) := by decide +kernel
theorem dX4_firstDeed_5 : decode cX4_firstDeed 5 = .ok (.invokevirtual 42, 3) := by decide +kernel
theorem dX4_firstDeed_8 : decode cX4_firstDeed 8 = .ok (.aload_n 0, 1) := by decide +kernel
theorem dX4_firstDeed_9 : decode cX4_firstDeed 9 = .ok (.iload_n 1, 1) := by decide +kernel
theorem dX4_firstDeed_10 : decode cX4_firstDeed 10 = .ok (.iload_n 2, 1) := by decide +kernel
theorem dX4_firstDeed_11 : decode cX4_firstDeed 11 = .ok (.iload_n 3, 1) := by decide +kernel
theorem dX4_firstDeed_12 : decode cX4_firstDeed 12 = .ok (.iload 4, 2) := by decide +kernel
theorem dX4_firstDeed_14 : decode cX4_firstDeed 14 = .ok (.invokevirtual 54, 3) := by decide +kernel
theorem dX4_firstDeed_17 : decode cX4_firstDeed 17 = .ok (.ireturn, 1) := by decide +kernel
theorem dX4_follow_0 : decode cX4_follow 0 = .ok (.iconst 0, 1) := by decide +kernel
theorem dX4_follow_1 : decode cX4_follow 1 = .ok (.istore 4, 2) := by decide +kernel
theorem dX4_follow_3 : decode cX4_follow 3 = .ok (.iload_n 1, 1) := by decide +kernel
theorem dX4_follow_4 : decode cX4_follow 4 = .ok (.istore 5, 2) := by decide +kernel
theorem dX4_follow_6 : decode cX4_follow 6 = .ok (.iload_n 2, 1) := by decide +kernel
theorem dX4_follow_7 : decode cX4_follow 7 = .ok (.istore 6, 2) := by decide +kernel
theorem dX4_follow_9 : decode cX4_follow 9 = .ok (.iconst 4, 1) := by decide +kernel
theorem dX4_follow_10 : decode cX4_follow 10 = .ok (.istore 7, 2) := by decide +kernel
theorem dX4_follow_12 : decode cX4_follow 12 = .ok (.aload_n 0, 1) := by decide +kernel
theorem dX4_follow_13 : decode cX4_follow 13 = .ok (.iload 4, 2) := by decide +kernel
theorem dX4_follow_15 : decode cX4_follow 15 = .ok (.iload 6, 2) := by decide +kernel
theorem dX4_follow_17 : decode cX4_follow 17 = .ok (.iload 7, 2) := by decide +kernel
theorem dX4_follow_19 : decode cX4_follow 19 = .ok (.invokevirtual 42, 3) := by decide +kernel
theorem dX4_follow_22 : decode cX4_follow 22 = .ok (.iconst 0, 1) := by decide +kernel
theorem dX4_follow_23 : decode cX4_follow 23 = .ok (.istore 8, 2) := by decide +kernel
theorem dX4_follow_25 : decode cX4_follow 25 = .ok (.iload 8, 2) := by decide +kernel
theorem dX4_follow_27 : decode cX4_follow 27 = .ok (.bipush 52, 2) := by decide +kernel
theorem dX4_follow_29 : decode cX4_follow 29 = .ok (.if_icmp .gt 116, 3) := by decide +kernel
theorem dX4_follow_32 : decode cX4_follow 32 = .ok (.aload_n 0, 1) := by decide +kernel
theorem dX4_follow_33 : decode cX4_follow 33 = .ok (.iload 4, 2) := by decide +kernel
theorem dX4_follow_35 : decode cX4_follow 35 = .ok (.iload 5, 2) := by decide +kernel
theorem dX4_follow_37 : decode cX4_follow 37 = .ok (.iload 6, 2) := by decide +kernel
theorem dX4_follow_39 : decode cX4_follow 39 = .ok (.iload 7, 2) := by decide +kernel
theorem dX4_follow_41 : decode cX4_follow 41 = .ok (.invokevirtual 54, 3) := by decide +kernel
theorem dX4_follow_44 : decode cX4_follow 44 = .ok (.istore 9, 2) := by decide +kernel
theorem dX4_follow_46 : decode cX4_follow 46 = .ok (.iload 9, 2) := by decide +kernel
theorem dX4_follow_48 : decode cX4_follow 48 = .ok (.bipush (-6), 2) := by decide +kernel
theorem dX4_follow_50 : decode cX4_follow 50 = .ok (.if_icmp .ne 16, 3) := by decide +kernel
theorem dX4_follow_53 : decode cX4_follow 53 = .ok (.iload_n 3, 1) := by decide +kernel
theorem dX4_follow_54 : decode cX4_follow 54 = .ok (.iconst (-1), 1) := by decide +kernel
theorem dX4_follow_55 : decode cX4_follow 55 = .ok (.if_icmp .ne 8, 3) := by decide +kernel
theorem dX4_follow_58 : decode cX4_follow 58 = .ok (.iload 8, 2) := by decide +kernel
theorem dX4_follow_60 : decode cX4_follow 60 = .ok (.goto 5, 3) := by decide +kernel
theorem dX4_follow_63 : decode cX4_follow 63 = .ok (.bipush (-6), 2) := by decide +kernel
theorem dX4_follow_65 : decode cX4_follow 65 = .ok (.ireturn, 1) := by decide +kernel
theorem dX4_follow_66 : decode cX4_follow 66 = .ok (.iload 8, 2) := by decide +kernel
theorem dX4_follow_68 : decode cX4_follow 68 = .ok (.iload_n 3, 1) := by decide +kernel
theorem dX4_follow_69 : decode cX4_follow 69 = .ok (.if_icmp .ne 9, 3) := by decide +kernel
theorem dX4_follow_72 : decode cX4_follow 72 = .ok (.iload 9, 2) := by decide +kernel
theorem dX4_follow_74 : decode cX4_follow 74 = .ok (.invokestatic 58, 3) := by decide +kernel
theorem dX4_follow_77 : decode cX4_follow 77 = .ok (.ireturn, 1) := by decide +kernel
theorem dX4_follow_78 : decode cX4_follow 78 = .ok (.aload_n 0, 1) := by decide +kernel
theorem dX4_follow_79 : decode cX4_follow 79 = .ok (.getfield 15, 3) := by decide +kernel
theorem dX4_follow_82 : decode cX4_follow 82 = .ok (.aload_n 0, 1) := by decide +kernel
theorem dX4_follow_83 : decode cX4_follow 83 = .ok (.getfield 9, 3) := by decide +kernel
theorem dX4_follow_86 : decode cX4_follow 86 = .ok (.iload 4, 2) := by decide +kernel
theorem dX4_follow_88 : decode cX4_follow 88 = .ok (.iload 5, 2) := by decide +kernel
theorem dX4_follow_90 : decode cX4_follow 90 = .ok (.iload 9, 2) := by decide +kernel
theorem dX4_follow_92 : decode cX4_follow 92 = .ok (.iconst 2, 1) := by decide +kernel
theorem dX4_follow_93 : decode cX4_follow 93 = .ok (.idiv, 1) := by decide +kernel
theorem dX4_follow_94 : decode cX4_follow 94 = .ok (.invokevirtual 61, 3) := by decide +kernel
theorem dX4_follow_97 : decode cX4_follow 97 = .ok (.istore 5, 2) := by decide +kernel
theorem dX4_follow_99 : decode cX4_follow 99 = .ok (.iload 6, 2) := by decide +kernel
theorem dX4_follow_101 : decode cX4_follow 101 = .ok (.iload 9, 2) := by decide +kernel
theorem dX4_follow_103 : decode cX4_follow 103 = .ok (.invokestatic 67, 3) := by decide +kernel
theorem dX4_follow_106 : decode cX4_follow 106 = .ok (.isub, 1) := by decide +kernel
theorem dX4_follow_107 : decode cX4_follow 107 = .ok (.istore 6, 2) := by decide +kernel
theorem dX4_follow_109 : decode cX4_follow 109 = .ok (.iload 7, 2) := by decide +kernel
theorem dX4_follow_111 : decode cX4_follow 111 = .ok (.iload 9, 2) := by decide +kernel
theorem dX4_follow_113 : decode cX4_follow 113 = .ok (.iconst 2, 1) := by decide +kernel
theorem dX4_follow_114 : decode cX4_follow 114 = .ok (.idiv, 1) := by decide +kernel
theorem dX4_follow_115 : decode cX4_follow 115 = .ok (.iconst 4, 1) := by decide +kernel
theorem dX4_follow_116 : decode cX4_follow 116 = .ok (.if_icmp .ne 7, 3) := by decide +kernel
theorem dX4_follow_119 : decode cX4_follow 119 = .ok (.iconst 1, 1) := by decide +kernel
theorem dX4_follow_120 : decode cX4_follow 120 = .ok (.goto 4, 3) := by decide +kernel
theorem dX4_follow_123 : decode cX4_follow 123 = .ok (.iconst 0, 1) := by decide +kernel
theorem dX4_follow_124 : decode cX4_follow 124 = .ok (.isub, 1) := by decide +kernel
theorem dX4_follow_125 : decode cX4_follow 125 = .ok (.istore 7, 2) := by decide +kernel
theorem dX4_follow_127 : decode cX4_follow 127 = .ok (.iload 4, 2) := by decide +kernel
theorem dX4_follow_129 : decode cX4_follow 129 = .ok (.iload 9, 2) := by decide +kernel
theorem dX4_follow_131 : decode cX4_follow 131 = .ok (.iconst 2, 1) := by decide +kernel
theorem dX4_follow_132 : decode cX4_follow 132 = .ok (.idiv, 1) := by decide +kernel
theorem dX4_follow_133 : decode cX4_follow 133 = .ok (.invokestatic 70, 3) := by decide +kernel
theorem dX4_follow_136 : decode cX4_follow 136 = .ok (.iadd, 1) := by decide +kernel
theorem dX4_follow_137 : decode cX4_follow 137 = .ok (.istore 4, 2) := by decide +kernel
theorem dX4_follow_139 : decode cX4_follow 139 = .ok (.iinc 8 1, 3) := by decide +kernel
theorem dX4_follow_142 : decode cX4_follow 142 = .ok (.goto (-117), 3) := by decide +kernel
theorem dX4_follow_145 : decode cX4_follow 145 = .ok (.bipush (-6), 2) := by decide +kernel
theorem dX4_follow_147 : decode cX4_follow 147 = .ok (.ireturn, 1) := by decide +kernel
theorem dX4_fill_0 : decode cX4_fill 0 = .ok (.aload_n 0, 1) := by decide +kernel
theorem dX4_fill_1 : decode cX4_fill 1 = .ok (.iload_n 1, 1) := by decide +kernel
theorem dX4_fill_2 : decode cX4_fill 2 = .ok (.iload_n 2, 1) := by decide +kernel
theorem dX4_fill_3 : decode cX4_fill 3 = .ok (.iload_n 3, 1) := by decide +kernel
theorem dX4_fill_4 : decode cX4_fill 4 = .ok (.invokevirtual 46, 3) := by decide +kernel
theorem dX4_fill_7 : decode cX4_fill 7 = .ok (.astore 4, 2) := by decide +kernel
theorem dX4_fill_9 : decode cX4_fill 9 = .ok (.aload 4, 2) := by decide +kernel
theorem dX4_fill_11 : decode cX4_fill 11 = .ok (.ifnull 12, 3) := by decide +kernel
theorem dX4_fill_14 : decode cX4_fill 14 = .ok (.aload 4, 2) := by decide +kernel
theorem dX4_fill_16 : decode cX4_fill 16 = .ok (.getfield 29, 3) := by decide +kernel
theorem dX4_fill_19 : decode cX4_fill 19 = .ok (.iload_n 1, 1) := by decide +kernel
theorem dX4_fill_20 : decode cX4_fill 20 = .ok (.if_icmp .gt 4, 3) := by decide +kernel
theorem dX4_fill_23 : decode cX4_fill 23 = .ok (.return_, 1) := by decide +kernel
theorem dX4_fill_24 : decode cX4_fill 24 = .ok (.aload_n 0, 1) := by decide +kernel
theorem dX4_fill_25 : decode cX4_fill 25 = .ok (.getfield 9, 3) := by decide +kernel
theorem dX4_fill_28 : decode cX4_fill 28 = .ok (.getfield 33, 3) := by decide +kernel
theorem dX4_fill_31 : decode cX4_fill 31 = .ok (.istore 5, 2) := by decide +kernel
theorem dX4_fill_33 : decode cX4_fill 33 = .ok (.iload 5, 2) := by decide +kernel
theorem dX4_fill_35 : decode cX4_fill 35 = .ok (.iload_n 1, 1) := by decide +kernel
theorem dX4_fill_36 : decode cX4_fill 36 = .ok (.if_icmp .lt 78, 3) := by decide +kernel
theorem dX4_fill_39 : decode cX4_fill 39 = .ok (.aload_n 0, 1) := by decide +kernel
theorem dX4_fill_40 : decode cX4_fill 40 = .ok (.getfield 19, 3) := by decide +kernel
theorem dX4_fill_43 : decode cX4_fill 43 = .ok (.aload_n 0, 1) := by decide +kernel
theorem dX4_fill_44 : decode cX4_fill 44 = .ok (.getfield 9, 3) := by decide +kernel
theorem dX4_fill_47 : decode cX4_fill 47 = .ok (.aload_n 0, 1) := by decide +kernel
theorem dX4_fill_48 : decode cX4_fill 48 = .ok (.getfield 15, 3) := by decide +kernel
theorem dX4_fill_51 : decode cX4_fill 51 = .ok (.iload 5, 2) := by decide +kernel
theorem dX4_fill_53 : decode cX4_fill 53 = .ok (.invokevirtual 73, 3) := by decide +kernel
theorem dX4_fill_56 : decode cX4_fill 56 = .ok (.iconst 0, 1) := by decide +kernel
theorem dX4_fill_57 : decode cX4_fill 57 = .ok (.istore 6, 2) := by decide +kernel
theorem dX4_fill_59 : decode cX4_fill 59 = .ok (.iload 6, 2) := by decide +kernel
theorem dX4_fill_61 : decode cX4_fill 61 = .ok (.iload_n 3, 1) := by decide +kernel
theorem dX4_fill_62 : decode cX4_fill 62 = .ok (.if_icmp .gt 46, 3) := by decide +kernel
theorem dX4_fill_65 : decode cX4_fill 65 = .ok (.aload_n 0, 1) := by decide +kernel
theorem dX4_fill_66 : decode cX4_fill 66 = .ok (.iload 5, 2) := by decide +kernel
theorem dX4_fill_68 : decode cX4_fill 68 = .ok (.iload_n 2, 1) := by decide +kernel
theorem dX4_fill_69 : decode cX4_fill 69 = .ok (.iload 6, 2) := by decide +kernel
theorem dX4_fill_71 : decode cX4_fill 71 = .ok (.invokevirtual 79, 3) := by decide +kernel
theorem dX4_fill_74 : decode cX4_fill 74 = .ok (.istore 7, 2) := by decide +kernel
theorem dX4_fill_76 : decode cX4_fill 76 = .ok (.iconst 0, 1) := by decide +kernel
theorem dX4_fill_77 : decode cX4_fill 77 = .ok (.istore 8, 2) := by decide +kernel
theorem dX4_fill_79 : decode cX4_fill 79 = .ok (.iload 8, 2) := by decide +kernel
theorem dX4_fill_81 : decode cX4_fill 81 = .ok (.iload 7, 2) := by decide +kernel
theorem dX4_fill_83 : decode cX4_fill 83 = .ok (.if_icmp .gt 19, 3) := by decide +kernel
theorem dX4_fill_86 : decode cX4_fill 86 = .ok (.aload_n 0, 1) := by decide +kernel
theorem dX4_fill_87 : decode cX4_fill 87 = .ok (.iload 5, 2) := by decide +kernel
theorem dX4_fill_89 : decode cX4_fill 89 = .ok (.iload 8, 2) := by decide +kernel
theorem dX4_fill_91 : decode cX4_fill 91 = .ok (.iload 6, 2) := by decide +kernel
theorem dX4_fill_93 : decode cX4_fill 93 = .ok (.invokevirtual 83, 3) := by decide +kernel
theorem dX4_fill_96 : decode cX4_fill 96 = .ok (.iinc 8 1, 3) := by decide +kernel
theorem dX4_fill_99 : decode cX4_fill 99 = .ok (.goto (-20), 3) := by decide +kernel
theorem dX4_fill_102 : decode cX4_fill 102 = .ok (.iinc 6 1, 3) := by decide +kernel
theorem dX4_fill_105 : decode cX4_fill 105 = .ok (.goto (-46), 3) := by decide +kernel
theorem dX4_fill_108 : decode cX4_fill 108 = .ok (.iinc 5 (-1), 3) := by decide +kernel
theorem dX4_fill_111 : decode cX4_fill 111 = .ok (.goto (-78), 3) := by decide +kernel
theorem dX4_fill_114 : decode cX4_fill 114 = .ok (.return_, 1) := by decide +kernel
theorem dX4_fillHour_0 : decode cX4_fillHour 0 = .ok (.aload_n 0, 1) := by decide +kernel
theorem dX4_fillHour_1 : decode cX4_fillHour 1 = .ok (.iload_n 1, 1) := by decide +kernel
theorem dX4_fillHour_2 : decode cX4_fillHour 2 = .ok (.iload_n 2, 1) := by decide +kernel
theorem dX4_fillHour_3 : decode cX4_fillHour 3 = .ok (.iload_n 3, 1) := by decide +kernel
theorem dX4_fillHour_4 : decode cX4_fillHour 4 = .ok (.invokevirtual 46, 3) := by decide +kernel
theorem dX4_fillHour_7 : decode cX4_fillHour 7 = .ok (.astore 4, 2) := by decide +kernel
theorem dX4_fillHour_9 : decode cX4_fillHour 9 = .ok (.aload 4, 2) := by decide +kernel
theorem dX4_fillHour_11 : decode cX4_fillHour 11 = .ok (.ifnull 12, 3) := by decide +kernel
theorem dX4_fillHour_14 : decode cX4_fillHour 14 = .ok (.aload 4, 2) := by decide +kernel
theorem dX4_fillHour_16 : decode cX4_fillHour 16 = .ok (.getfield 29, 3) := by decide +kernel
theorem dX4_fillHour_19 : decode cX4_fillHour 19 = .ok (.iload_n 1, 1) := by decide +kernel
theorem dX4_fillHour_20 : decode cX4_fillHour 20 = .ok (.if_icmp .gt 4, 3) := by decide +kernel
theorem dX4_fillHour_23 : decode cX4_fillHour 23 = .ok (.return_, 1) := by decide +kernel
theorem dX4_fillHour_24 : decode cX4_fillHour 24 = .ok (.aload 4, 2) := by decide +kernel
theorem dX4_fillHour_26 : decode cX4_fillHour 26 = .ok (.iload_n 1, 1) := by decide +kernel
theorem dX4_fillHour_27 : decode cX4_fillHour 27 = .ok (.putfield 29, 3) := by decide +kernel
theorem dX4_fillHour_30 : decode cX4_fillHour 30 = .ok (.iconst 0, 1) := by decide +kernel
theorem dX4_fillHour_31 : decode cX4_fillHour 31 = .ok (.istore 5, 2) := by decide +kernel
theorem dX4_fillHour_33 : decode cX4_fillHour 33 = .ok (.iload 5, 2) := by decide +kernel
theorem dX4_fillHour_35 : decode cX4_fillHour 35 = .ok (.bipush 21, 2) := by decide +kernel
theorem dX4_fillHour_37 : decode cX4_fillHour 37 = .ok (.if_icmp .ge 38, 3) := by decide +kernel
theorem dX4_fillHour_40 : decode cX4_fillHour 40 = .ok (.aload 4, 2) := by decide +kernel
theorem dX4_fillHour_42 : decode cX4_fillHour 42 = .ok (.iload_n 1, 1) := by decide +kernel
theorem dX4_fillHour_43 : decode cX4_fillHour 43 = .ok (.bipush 21, 2) := by decide +kernel
theorem dX4_fillHour_45 : decode cX4_fillHour 45 = .ok (.imul, 1) := by decide +kernel
theorem dX4_fillHour_46 : decode cX4_fillHour 46 = .ok (.iload 5, 2) := by decide +kernel
theorem dX4_fillHour_48 : decode cX4_fillHour 48 = .ok (.iadd, 1) := by decide +kernel
theorem dX4_fillHour_49 : decode cX4_fillHour 49 = .ok (.iload_n 1, 1) := by decide +kernel
theorem dX4_fillHour_50 : decode cX4_fillHour 50 = .ok (.aload_n 0, 1) := by decide +kernel
theorem dX4_fillHour_51 : decode cX4_fillHour 51 = .ok (.getfield 9, 3) := by decide +kernel
theorem dX4_fillHour_54 : decode cX4_fillHour 54 = .ok (.getfield 33, 3) := by decide +kernel
theorem dX4_fillHour_57 : decode cX4_fillHour 57 = .ok (.if_icmp .ne 8, 3) := by decide +kernel
theorem dX4_fillHour_60 : decode cX4_fillHour 60 = .ok (.ldc 86, 2) := by decide +kernel
theorem dX4_fillHour_62 : decode cX4_fillHour 62 = .ok (.goto 4, 3) := by decide +kernel
theorem dX4_fillHour_65 : decode cX4_fillHour 65 = .ok (.iconst 0, 1) := by decide +kernel
theorem dX4_fillHour_66 : decode cX4_fillHour 66 = .ok (.invokevirtual 87, 3) := by decide +kernel
theorem dX4_fillHour_69 : decode cX4_fillHour 69 = .ok (.iinc 5 1, 3) := by decide +kernel
theorem dX4_fillHour_72 : decode cX4_fillHour 72 = .ok (.goto (-39), 3) := by decide +kernel
theorem dX4_fillHour_75 : decode cX4_fillHour 75 = .ok (.iconst 0, 1) := by decide +kernel
theorem dX4_fillHour_76 : decode cX4_fillHour 76 = .ok (.istore 5, 2) := by decide +kernel
theorem dX4_fillHour_78 : decode cX4_fillHour 78 = .ok (.iload 5, 2) := by decide +kernel
theorem dX4_fillHour_80 : decode cX4_fillHour 80 = .ok (.bipush 10, 2) := by decide +kernel
theorem dX4_fillHour_82 : decode cX4_fillHour 82 = .ok (.if_icmp .ge 36, 3) := by decide +kernel
theorem dX4_fillHour_85 : decode cX4_fillHour 85 = .ok (.aload_n 0, 1) := by decide +kernel
theorem dX4_fillHour_86 : decode cX4_fillHour 86 = .ok (.iload_n 1, 1) := by decide +kernel
theorem dX4_fillHour_87 : decode cX4_fillHour 87 = .ok (.iload_n 2, 1) := by decide +kernel
theorem dX4_fillHour_88 : decode cX4_fillHour 88 = .ok (.iload_n 3, 1) := by decide +kernel
theorem dX4_fillHour_89 : decode cX4_fillHour 89 = .ok (.iload 5, 2) := by decide +kernel
theorem dX4_fillHour_91 : decode cX4_fillHour 91 = .ok (.invokevirtual 91, 3) := by decide +kernel
theorem dX4_fillHour_94 : decode cX4_fillHour 94 = .ok (.astore 6, 2) := by decide +kernel
theorem dX4_fillHour_96 : decode cX4_fillHour 96 = .ok (.aload 6, 2) := by decide +kernel
theorem dX4_fillHour_98 : decode cX4_fillHour 98 = .ok (.ifnull 14, 3) := by decide +kernel
theorem dX4_fillHour_101 : decode cX4_fillHour 101 = .ok (.aload_n 0, 1) := by decide +kernel
theorem dX4_fillHour_102 : decode cX4_fillHour 102 = .ok (.aload 4, 2) := by decide +kernel
theorem dX4_fillHour_104 : decode cX4_fillHour 104 = .ok (.iload_n 1, 1) := by decide +kernel
theorem dX4_fillHour_105 : decode cX4_fillHour 105 = .ok (.iload 5, 2) := by decide +kernel
theorem dX4_fillHour_107 : decode cX4_fillHour 107 = .ok (.aload 6, 2) := by decide +kernel
theorem dX4_fillHour_109 : decode cX4_fillHour 109 = .ok (.invokevirtual 95, 3) := by decide +kernel
theorem dX4_fillHour_112 : decode cX4_fillHour 112 = .ok (.iinc 5 1, 3) := by decide +kernel
theorem dX4_fillHour_115 : decode cX4_fillHour 115 = .ok (.goto (-37), 3) := by decide +kernel
theorem dX4_fillHour_118 : decode cX4_fillHour 118 = .ok (.return_, 1) := by decide +kernel
theorem dX4_weigh_0 : decode cX4_weigh 0 = .ok (.iconst 0, 1) := by decide +kernel
theorem dX4_weigh_1 : decode cX4_weigh 1 = .ok (.istore 5, 2) := by decide +kernel
theorem dX4_weigh_3 : decode cX4_weigh 3 = .ok (.iload 5, 2) := by decide +kernel
theorem dX4_weigh_5 : decode cX4_weigh 5 = .ok (.bipush 21, 2) := by decide +kernel
theorem dX4_weigh_7 : decode cX4_weigh 7 = .ok (.if_icmp .ge 52, 3) := by decide +kernel
theorem dX4_weigh_10 : decode cX4_weigh 10 = .ok (.aload_n 0, 1) := by decide +kernel
theorem dX4_weigh_11 : decode cX4_weigh 11 = .ok (.getfield 19, 3) := by decide +kernel
theorem dX4_weigh_14 : decode cX4_weigh 14 = .ok (.iload_n 3, 1) := by decide +kernel
theorem dX4_weigh_15 : decode cX4_weigh 15 = .ok (.iload 5, 2) := by decide +kernel
theorem dX4_weigh_17 : decode cX4_weigh 17 = .ok (.aload 4, 2) := by decide +kernel
theorem dX4_weigh_19 : decode cX4_weigh 19 = .ok (.invokevirtual 99, 3) := by decide +kernel
theorem dX4_weigh_22 : decode cX4_weigh 22 = .ok (.istore 6, 2) := by decide +kernel
theorem dX4_weigh_24 : decode cX4_weigh 24 = .ok (.iload 6, 2) := by decide +kernel
theorem dX4_weigh_26 : decode cX4_weigh 26 = .ok (.aload_n 1, 1) := by decide +kernel
theorem dX4_weigh_27 : decode cX4_weigh 27 = .ok (.iload_n 2, 1) := by decide +kernel
theorem dX4_weigh_28 : decode cX4_weigh 28 = .ok (.bipush 21, 2) := by decide +kernel
theorem dX4_weigh_30 : decode cX4_weigh 30 = .ok (.imul, 1) := by decide +kernel
theorem dX4_weigh_31 : decode cX4_weigh 31 = .ok (.iload 5, 2) := by decide +kernel
theorem dX4_weigh_33 : decode cX4_weigh 33 = .ok (.iadd, 1) := by decide +kernel
theorem dX4_weigh_34 : decode cX4_weigh 34 = .ok (.invokevirtual 50, 3) := by decide +kernel
theorem dX4_weigh_37 : decode cX4_weigh 37 = .ok (.if_icmp .le 16, 3) := by decide +kernel
theorem dX4_weigh_40 : decode cX4_weigh 40 = .ok (.aload_n 1, 1) := by decide +kernel
theorem dX4_weigh_41 : decode cX4_weigh 41 = .ok (.iload_n 2, 1) := by decide +kernel
theorem dX4_weigh_42 : decode cX4_weigh 42 = .ok (.bipush 21, 2) := by decide +kernel
theorem dX4_weigh_44 : decode cX4_weigh 44 = .ok (.imul, 1) := by decide +kernel
theorem dX4_weigh_45 : decode cX4_weigh 45 = .ok (.iload 5, 2) := by decide +kernel
theorem dX4_weigh_47 : decode cX4_weigh 47 = .ok (.iadd, 1) := by decide +kernel
theorem dX4_weigh_48 : decode cX4_weigh 48 = .ok (.iload 6, 2) := by decide +kernel
theorem dX4_weigh_50 : decode cX4_weigh 50 = .ok (.invokevirtual 87, 3) := by decide +kernel
theorem dX4_weigh_53 : decode cX4_weigh 53 = .ok (.iinc 5 1, 3) := by decide +kernel
theorem dX4_weigh_56 : decode cX4_weigh 56 = .ok (.goto (-53), 3) := by decide +kernel
theorem dX4_weigh_59 : decode cX4_weigh 59 = .ok (.return_, 1) := by decide +kernel
theorem dX4_deedThere_0 : decode cX4_deedThere 0 = .ok (.aload_n 0, 1) := by decide +kernel
theorem dX4_deedThere_1 : decode cX4_deedThere 1 = .ok (.iload_n 1, 1) := by decide +kernel
theorem dX4_deedThere_2 : decode cX4_deedThere 2 = .ok (.iload_n 3, 1) := by decide +kernel
theorem dX4_deedThere_3 : decode cX4_deedThere 3 = .ok (.iload 4, 2) := by decide +kernel
theorem dX4_deedThere_5 : decode cX4_deedThere 5 = .ok (.invokevirtual 46, 3) := by decide +kernel
theorem dX4_deedThere_8 : decode cX4_deedThere 8 = .ok (.astore 5, 2) := by decide +kernel
theorem dX4_deedThere_10 : decode cX4_deedThere 10 = .ok (.aload 5, 2) := by decide +kernel
theorem dX4_deedThere_12 : decode cX4_deedThere 12 = .ok (.ifnonnull 6, 3) := by decide +kernel
theorem dX4_deedThere_15 : decode cX4_deedThere 15 = .ok (.bipush (-6), 2) := by decide +kernel
theorem dX4_deedThere_17 : decode cX4_deedThere 17 = .ok (.ireturn, 1) := by decide +kernel
theorem dX4_deedThere_18 : decode cX4_deedThere 18 = .ok (.aload_n 0, 1) := by decide +kernel
theorem dX4_deedThere_19 : decode cX4_deedThere 19 = .ok (.getfield 19, 3) := by decide +kernel
theorem dX4_deedThere_22 : decode cX4_deedThere 22 = .ok (.aload_n 0, 1) := by decide +kernel
theorem dX4_deedThere_23 : decode cX4_deedThere 23 = .ok (.getfield 9, 3) := by decide +kernel
theorem dX4_deedThere_26 : decode cX4_deedThere 26 = .ok (.aload_n 0, 1) := by decide +kernel
theorem dX4_deedThere_27 : decode cX4_deedThere 27 = .ok (.getfield 15, 3) := by decide +kernel
theorem dX4_deedThere_30 : decode cX4_deedThere 30 = .ok (.iload_n 1, 1) := by decide +kernel
theorem dX4_deedThere_31 : decode cX4_deedThere 31 = .ok (.iload_n 2, 1) := by decide +kernel
theorem dX4_deedThere_32 : decode cX4_deedThere 32 = .ok (.invokevirtual 103, 3) := by decide +kernel
theorem dX4_deedThere_35 : decode cX4_deedThere 35 = .ok (.iconst 0, 1) := by decide +kernel
theorem dX4_deedThere_36 : decode cX4_deedThere 36 = .ok (.istore 6, 2) := by decide +kernel
theorem dX4_deedThere_38 : decode cX4_deedThere 38 = .ok (.iload 6, 2) := by decide +kernel
theorem dX4_deedThere_40 : decode cX4_deedThere 40 = .ok (.bipush 10, 2) := by decide +kernel
theorem dX4_deedThere_42 : decode cX4_deedThere 42 = .ok (.if_icmp .ge 55, 3) := by decide +kernel
theorem dX4_deedThere_45 : decode cX4_deedThere 45 = .ok (.aload_n 0, 1) := by decide +kernel
theorem dX4_deedThere_46 : decode cX4_deedThere 46 = .ok (.iload_n 1, 1) := by decide +kernel
theorem dX4_deedThere_47 : decode cX4_deedThere 47 = .ok (.iload_n 3, 1) := by decide +kernel
theorem dX4_deedThere_48 : decode cX4_deedThere 48 = .ok (.iload 4, 2) := by decide +kernel
theorem dX4_deedThere_50 : decode cX4_deedThere 50 = .ok (.iload 6, 2) := by decide +kernel
theorem dX4_deedThere_52 : decode cX4_deedThere 52 = .ok (.invokevirtual 91, 3) := by decide +kernel
theorem dX4_deedThere_55 : decode cX4_deedThere 55 = .ok (.astore 7, 2) := by decide +kernel
theorem dX4_deedThere_57 : decode cX4_deedThere 57 = .ok (.aload 7, 2) := by decide +kernel
theorem dX4_deedThere_59 : decode cX4_deedThere 59 = .ok (.ifnull 32, 3) := by decide +kernel
theorem dX4_deedThere_62 : decode cX4_deedThere 62 = .ok (.aload_n 0, 1) := by decide +kernel
theorem dX4_deedThere_63 : decode cX4_deedThere 63 = .ok (.getfield 19, 3) := by decide +kernel
theorem dX4_deedThere_66 : decode cX4_deedThere 66 = .ok (.iload 6, 2) := by decide +kernel
theorem dX4_deedThere_68 : decode cX4_deedThere 68 = .ok (.iload_n 2, 1) := by decide +kernel
theorem dX4_deedThere_69 : decode cX4_deedThere 69 = .ok (.aload 7, 2) := by decide +kernel
theorem dX4_deedThere_71 : decode cX4_deedThere 71 = .ok (.invokevirtual 99, 3) := by decide +kernel
theorem dX4_deedThere_74 : decode cX4_deedThere 74 = .ok (.aload 5, 2) := by decide +kernel
theorem dX4_deedThere_76 : decode cX4_deedThere 76 = .ok (.iload_n 1, 1) := by decide +kernel
theorem dX4_deedThere_77 : decode cX4_deedThere 77 = .ok (.bipush 21, 2) := by decide +kernel
theorem dX4_deedThere_79 : decode cX4_deedThere 79 = .ok (.imul, 1) := by decide +kernel
theorem dX4_deedThere_80 : decode cX4_deedThere 80 = .ok (.iload_n 2, 1) := by decide +kernel
theorem dX4_deedThere_81 : decode cX4_deedThere 81 = .ok (.iadd, 1) := by decide +kernel
theorem dX4_deedThere_82 : decode cX4_deedThere 82 = .ok (.invokevirtual 50, 3) := by decide +kernel
theorem dX4_deedThere_85 : decode cX4_deedThere 85 = .ok (.if_icmp .ne 6, 3) := by decide +kernel
theorem dX4_deedThere_88 : decode cX4_deedThere 88 = .ok (.iload 6, 2) := by decide +kernel
theorem dX4_deedThere_90 : decode cX4_deedThere 90 = .ok (.ireturn, 1) := by decide +kernel
theorem dX4_deedThere_91 : decode cX4_deedThere 91 = .ok (.iinc 6 1, 3) := by decide +kernel
theorem dX4_deedThere_94 : decode cX4_deedThere 94 = .ok (.goto (-56), 3) := by decide +kernel
theorem dX4_deedThere_97 : decode cX4_deedThere 97 = .ok (.bipush (-6), 2) := by decide +kernel
theorem dX4_deedThere_99 : decode cX4_deedThere 99 = .ok (.ireturn, 1) := by decide +kernel
theorem dX4_planeBehind_0 : decode cX4_planeBehind 0 = .ok (.iload 4, 2) := by decide +kernel
theorem dX4_planeBehind_2 : decode cX4_planeBehind 2 = .ok (.iconst 2, 1) := by decide +kernel
theorem dX4_planeBehind_3 : decode cX4_planeBehind 3 = .ok (.idiv, 1) := by decide +kernel
theorem dX4_planeBehind_4 : decode cX4_planeBehind 4 = .ok (.istore 5, 2) := by decide +kernel
theorem dX4_planeBehind_6 : decode cX4_planeBehind 6 = .ok (.iload 4, 2) := by decide +kernel
theorem dX4_planeBehind_8 : decode cX4_planeBehind 8 = .ok (.iconst 1, 1) := by decide +kernel
theorem dX4_planeBehind_9 : decode cX4_planeBehind 9 = .ok (.if_icmp .eq 16, 3) := by decide +kernel
theorem dX4_planeBehind_12 : decode cX4_planeBehind 12 = .ok (.aload_n 0, 1) := by decide +kernel
theorem dX4_planeBehind_13 : decode cX4_planeBehind 13 = .ok (.getfield 9, 3) := by decide +kernel
theorem dX4_planeBehind_16 : decode cX4_planeBehind 16 = .ok (.iload_n 1, 1) := by decide +kernel
theorem dX4_planeBehind_17 : decode cX4_planeBehind 17 = .ok (.iload 5, 2) := by decide +kernel
theorem dX4_planeBehind_19 : decode cX4_planeBehind 19 = .ok (.invokevirtual 107, 3) := by decide +kernel
theorem dX4_planeBehind_22 : decode cX4_planeBehind 22 = .ok (.ifCond .ne 5, 3) := by decide +kernel
theorem dX4_planeBehind_25 : decode cX4_planeBehind 25 = .ok (.aconst_null, 1) := by decide +kernel
theorem dX4_planeBehind_26 : decode cX4_planeBehind 26 = .ok (.areturn, 1) := by decide +kernel
theorem dX4_planeBehind_27 : decode cX4_planeBehind 27 = .ok (.aload_n 0, 1) := by decide +kernel
theorem dX4_planeBehind_28 : decode cX4_planeBehind 28 = .ok (.iload_n 1, 1) := by decide +kernel
theorem dX4_planeBehind_29 : decode cX4_planeBehind 29 = .ok (.iload 5, 2) := by decide +kernel
theorem dX4_planeBehind_31 : decode cX4_planeBehind 31 = .ok (.invokestatic 70, 3) := by decide +kernel
theorem dX4_planeBehind_34 : decode cX4_planeBehind 34 = .ok (.iadd, 1) := by decide +kernel
theorem dX4_planeBehind_35 : decode cX4_planeBehind 35 = .ok (.iload_n 2, 1) := by decide +kernel
theorem dX4_planeBehind_36 : decode cX4_planeBehind 36 = .ok (.iload 4, 2) := by decide +kernel
theorem dX4_planeBehind_38 : decode cX4_planeBehind 38 = .ok (.invokestatic 67, 3) := by decide +kernel
theorem dX4_planeBehind_41 : decode cX4_planeBehind 41 = .ok (.isub, 1) := by decide +kernel
theorem dX4_planeBehind_42 : decode cX4_planeBehind 42 = .ok (.iload 5, 2) := by decide +kernel
theorem dX4_planeBehind_44 : decode cX4_planeBehind 44 = .ok (.iconst 4, 1) := by decide +kernel
theorem dX4_planeBehind_45 : decode cX4_planeBehind 45 = .ok (.if_icmp .ne 9, 3) := by decide +kernel
theorem dX4_planeBehind_48 : decode cX4_planeBehind 48 = .ok (.iload_n 3, 1) := by decide +kernel
theorem dX4_planeBehind_49 : decode cX4_planeBehind 49 = .ok (.iconst 1, 1) := by decide +kernel
theorem dX4_planeBehind_50 : decode cX4_planeBehind 50 = .ok (.isub, 1) := by decide +kernel
theorem dX4_planeBehind_51 : decode cX4_planeBehind 51 = .ok (.goto 4, 3) := by decide +kernel
theorem dX4_planeBehind_54 : decode cX4_planeBehind 54 = .ok (.iload_n 3, 1) := by decide +kernel
theorem dX4_planeBehind_55 : decode cX4_planeBehind 55 = .ok (.invokevirtual 46, 3) := by decide +kernel
theorem dX4_planeBehind_58 : decode cX4_planeBehind 58 = .ok (.areturn, 1) := by decide +kernel
theorem dX4_planeOf_0 : decode cX4_planeOf 0 = .ok (.aload_n 0, 1) := by decide +kernel
theorem dX4_planeOf_1 : decode cX4_planeOf 1 = .ok (.iload_n 1, 1) := by decide +kernel
theorem dX4_planeOf_2 : decode cX4_planeOf 2 = .ok (.iload_n 2, 1) := by decide +kernel
theorem dX4_planeOf_3 : decode cX4_planeOf 3 = .ok (.iload_n 3, 1) := by decide +kernel
theorem dX4_planeOf_4 : decode cX4_planeOf 4 = .ok (.invokevirtual 79, 3) := by decide +kernel
theorem dX4_planeOf_7 : decode cX4_planeOf 7 = .ok (.istore 4, 2) := by decide +kernel
theorem dX4_planeOf_9 : decode cX4_planeOf 9 = .ok (.iload 4, 2) := by decide +kernel
theorem dX4_planeOf_11 : decode cX4_planeOf 11 = .ok (.iconst 0, 1) := by decide +kernel
theorem dX4_planeOf_12 : decode cX4_planeOf 12 = .ok (.bipush 24, 2) := by decide +kernel
theorem dX4_planeOf_14 : decode cX4_planeOf 14 = .ok (.invokestatic 38, 3) := by decide +kernel
theorem dX4_planeOf_17 : decode cX4_planeOf 17 = .ok (.ifCond .eq 12, 3) := by decide +kernel
theorem dX4_planeOf_20 : decode cX4_planeOf 20 = .ok (.iload_n 3, 1) := by decide +kernel
theorem dX4_planeOf_21 : decode cX4_planeOf 21 = .ok (.iconst 0, 1) := by decide +kernel
theorem dX4_planeOf_22 : decode cX4_planeOf 22 = .ok (.iconst 4, 1) := by decide +kernel
theorem dX4_planeOf_23 : decode cX4_planeOf 23 = .ok (.invokestatic 38, 3) := by decide +kernel
theorem dX4_planeOf_26 : decode cX4_planeOf 26 = .ok (.ifCond .ne 5, 3) := by decide +kernel
theorem dX4_planeOf_29 : decode cX4_planeOf 29 = .ok (.aconst_null, 1) := by decide +kernel
theorem dX4_planeOf_30 : decode cX4_planeOf 30 = .ok (.areturn, 1) := by decide +kernel
theorem dX4_planeOf_31 : decode cX4_planeOf 31 = .ok (.iload 4, 2) := by decide +kernel
theorem dX4_planeOf_33 : decode cX4_planeOf 33 = .ok (.iconst 5, 1) := by decide +kernel
theorem dX4_planeOf_34 : decode cX4_planeOf 34 = .ok (.imul, 1) := by decide +kernel
theorem dX4_planeOf_35 : decode cX4_planeOf 35 = .ok (.iload_n 3, 1) := by decide +kernel
theorem dX4_planeOf_36 : decode cX4_planeOf 36 = .ok (.iadd, 1) := by decide +kernel
theorem dX4_planeOf_37 : decode cX4_planeOf 37 = .ok (.istore 5, 2) := by decide +kernel
theorem dX4_planeOf_39 : decode cX4_planeOf 39 = .ok (.aload_n 0, 1) := by decide +kernel
theorem dX4_planeOf_40 : decode cX4_planeOf 40 = .ok (.getfield 25, 3) := by decide +kernel
theorem dX4_planeOf_43 : decode cX4_planeOf 43 = .ok (.iload 5, 2) := by decide +kernel
theorem dX4_planeOf_45 : decode cX4_planeOf 45 = .ok (.aaload, 1) := by decide +kernel
theorem dX4_planeOf_46 : decode cX4_planeOf 46 = .ok (.ifnonnull 17, 3) := by decide +kernel
theorem dX4_planeOf_49 : decode cX4_planeOf 49 = .ok (.aload_n 0, 1) := by decide +kernel
theorem dX4_planeOf_50 : decode cX4_planeOf 50 = .ok (.getfield 25, 3) := by decide +kernel
theorem dX4_planeOf_53 : decode cX4_planeOf 53 = .ok (.iload 5, 2) := by decide +kernel
theorem dX4_planeOf_55 : decode cX4_planeOf 55 = .ok (.new 23, 3) := by decide +kernel
theorem dX4_planeOf_58 : decode cX4_planeOf 58 = .ok (.dup, 1) := by decide +kernel
theorem dX4_planeOf_59 : decode cX4_planeOf 59 = .ok (.invokespecial 111, 3) := by decide +kernel
theorem dX4_planeOf_62 : decode cX4_planeOf 62 = .ok (.aastore, 1) := by decide +kernel
theorem dX4_planeOf_63 : decode cX4_planeOf 63 = .ok (.aload_n 0, 1) := by decide +kernel
theorem dX4_planeOf_64 : decode cX4_planeOf 64 = .ok (.getfield 25, 3) := by decide +kernel
theorem dX4_planeOf_67 : decode cX4_planeOf 67 = .ok (.iload 5, 2) := by decide +kernel
theorem dX4_planeOf_69 : decode cX4_planeOf 69 = .ok (.aaload, 1) := by decide +kernel
theorem dX4_planeOf_70 : decode cX4_planeOf 70 = .ok (.areturn, 1) := by decide +kernel
theorem dX4_spendable_0 : decode cX4_spendable 0 = .ok (.aload_n 0, 1) := by decide +kernel
theorem dX4_spendable_1 : decode cX4_spendable 1 = .ok (.getfield 9, 3) := by decide +kernel
theorem dX4_spendable_4 : decode cX4_spendable 4 = .ok (.getfield 33, 3) := by decide +kernel
theorem dX4_spendable_7 : decode cX4_spendable 7 = .ok (.iload_n 1, 1) := by decide +kernel
theorem dX4_spendable_8 : decode cX4_spendable 8 = .ok (.isub, 1) := by decide +kernel
theorem dX4_spendable_9 : decode cX4_spendable 9 = .ok (.iload_n 3, 1) := by decide +kernel
theorem dX4_spendable_10 : decode cX4_spendable 10 = .ok (.iadd, 1) := by decide +kernel
theorem dX4_spendable_11 : decode cX4_spendable 11 = .ok (.istore 4, 2) := by decide +kernel
theorem dX4_spendable_13 : decode cX4_spendable 13 = .ok (.iload_n 2, 1) := by decide +kernel
theorem dX4_spendable_14 : decode cX4_spendable 14 = .ok (.iload 4, 2) := by decide +kernel
theorem dX4_spendable_16 : decode cX4_spendable 16 = .ok (.if_icmp .ge 7, 3) := by decide +kernel
theorem dX4_spendable_19 : decode cX4_spendable 19 = .ok (.iload_n 2, 1) := by decide +kernel
theorem dX4_spendable_20 : decode cX4_spendable 20 = .ok (.goto 5, 3) := by decide +kernel
theorem dX4_spendable_23 : decode cX4_spendable 23 = .ok (.iload 4, 2) := by decide +kernel
theorem dX4_spendable_25 : decode cX4_spendable 25 = .ok (.ireturn, 1) := by decide +kernel
