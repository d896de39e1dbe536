theorem dX9_init_0 : decode cX9_init 0 = .ok (.aload_n 0, 1) := by decide +kernel
theorem dX9_init_1 : decode cX9_init 1 = .ok (.invokespecial 3, 3) := by decide +kernel
theorem dX9_init_4 : decode cX9_init 4 = .ok (.aload_n 0, 1) := by decide +kernel
theorem dX9_init_5 : decode cX9_init 5 = .ok (.new 9, 3) := by decide +kernel
theorem dX9_init_8 : decode cX9_init 8 = .ok (.dup, 1) := by decide +kernel
theorem dX9_init_9 : decode cX9_init 9 = .ok (.invokespecial 11, 3) := by decide +kernel
theorem dX9_init_12 : decode cX9_init 12 = .ok (.putfield 12, 3) := by decide +kernel
theorem dX9_init_15 : decode cX9_init 15 = .ok (.aload_n 0, 1) := by decide +kernel
theorem dX9_init_16 : decode cX9_init 16 = .ok (.iconst 2, 1) := by decide +kernel
theorem dX9_init_17 : decode cX9_init 17 = .ok (.anewarray 9, 3) := by decide +kernel
theorem dX9_init_20 : decode cX9_init 20 = .ok (.putfield 16, 3) := by decide +kernel
theorem dX9_init_23 : decode cX9_init 23 = .ok (.aload_n 0, 1) := by decide +kernel
theorem dX9_init_24 : decode cX9_init 24 = .ok (.iconst 2, 1) := by decide +kernel
theorem dX9_init_25 : decode cX9_init 25 = .ok (.newarray .boolean, 2) := by decide +kernel
theorem dX9_init_27 : decode cX9_init 27 = .ok (.putfield 20, 3) := by decide +kernel
theorem dX9_init_30 : decode cX9_init 30 = .ok (.iconst 0, 1) := by decide +kernel
theorem dX9_init_31 : decode cX9_init 31 = .ok (.istore_n 1, 1) := by decide +kernel
theorem dX9_init_32 : decode cX9_init 32 = .ok (.iload_n 1, 1) := by decide +kernel
theorem dX9_init_33 : decode cX9_init 33 = .ok (.iconst 2, 1) := by decide +kernel
theorem dX9_init_34 : decode cX9_init 34 = .ok (.if_icmp .ge 22, 3) := by decide +kernel
theorem dX9_init_37 : decode cX9_init 37 = .ok (.aload_n 0, 1) := by decide +kernel
theorem dX9_init_38 : decode cX9_init 38 = .ok (.getfield 16, 3) := by decide +kernel
theorem dX9_init_41 : decode cX9_init 41 = .ok (.iload_n 1, 1) := by decide +kernel
theorem dX9_init_42 : decode cX9_init 42 = .ok (.new 9, 3) := by decide +kernel
theorem dX9_init_45 : decode cX9_init 45 = .ok (.dup, 1) := by decide +kernel
theorem dX9_init_46 : decode cX9_init 46 = .ok (.invokespecial 11, 3) := by decide +kernel
theorem dX9_init_49 : decode cX9_init 49 = .ok (.aastore, 1) := by decide +kernel
theorem dX9_init_50 : decode cX9_init 50 = .ok (.iinc 1 1, 3) := by decide +kernel
theorem dX9_init_53 : decode cX9_init 53 = .ok (.goto (-21), 3) := by decide +kernel
theorem dX9_init_56 : decode cX9_init 56 = .ok (.aload_n 0, 1) := by decide +kernel
theorem dX9_init_57 : decode cX9_init 57 = .ok (.iconst 2, 1) := by decide +kernel
theorem dX9_init_58 : decode cX9_init 58 = .ok (.anewarray 24, 3) := by decide +kernel
theorem dX9_init_61 : decode cX9_init 61 = .ok (.putfield 26, 3) := by decide +kernel
theorem dX9_init_64 : decode cX9_init 64 = .ok (.new 30, 3) := by decide +kernel
theorem dX9_init_67 : decode cX9_init 67 = .ok (.dup, 1) := by decide +kernel
theorem dX9_init_68 : decode cX9_init 68 = .ok (.invokespecial 32, 3) := by decide +kernel
theorem dX9_init_71 : decode cX9_init 71 = .ok (.astore_n 1, 1) := by decide +kernel
theorem dX9_init_72 : decode cX9_init 72 = .ok (.iconst 0, 1) := by decide +kernel
theorem dX9_init_73 : decode cX9_init 73 = .ok (.istore_n 2, 1) := by decide +kernel
theorem dX9_init_74 : decode cX9_init 74 = .ok (.iload_n 2, 1) := by decide +kernel
theorem dX9_init_75 : decode cX9_init 75 = .ok (.iconst 2, 1) := by decide +kernel
theorem dX9_init_76 : decode cX9_init 76 = .ok (.if_icmp .ge 39, 3) := by decide +kernel
theorem dX9_init_79 : decode cX9_init 79 = .ok (.aload_n 0, 1) := by decide +kernel
theorem dX9_init_80 : decode cX9_init 80 = .ok (.getfield 26, 3) := by decide +kernel
theorem dX9_init_83 : decode cX9_init 83 = .ok (.iload_n 2, 1) := by decide +kernel
theorem dX9_init_84 : decode cX9_init 84 = .ok (.new 24, 3) := by decide +kernel
theorem dX9_init_87 : decode cX9_init 87 = .ok (.dup, 1) := by decide +kernel
theorem dX9_init_88 : decode cX9_init 88 = .ok (.aload_n 0, 1) := by decide +kernel
theorem dX9_init_89 : decode cX9_init 89 = .ok (.getfield 12, 3) := by decide +kernel
theorem dX9_init_92 : decode cX9_init 92 = .ok (.getfield 33, 3) := by decide +kernel
theorem dX9_init_95 : decode cX9_init 95 = .ok (.iload_n 2, 1) := by decide +kernel
theorem dX9_init_96 : decode cX9_init 96 = .ok (.aaload, 1) := by decide +kernel
theorem dX9_init_97 : decode cX9_init 97 = .ok (.aload_n 0, 1) := by decide +kernel
theorem dX9_init_98 : decode cX9_init 98 = .ok (.getfield 12, 3) := by decide +kernel
theorem dX9_init_101 : decode cX9_init 101 = .ok (.getfield 37, 3) := by decide +kernel
theorem dX9_init_104 : decode cX9_init 104 = .ok (.aload_n 1, 1) := by decide +kernel
theorem dX9_init_105 : decode cX9_init 105 = .ok (.invokespecial 41, 3) := by decide +kernel
theorem dX9_init_108 : decode cX9_init 108 = .ok (.aastore, 1) := by decide +kernel
theorem dX9_init_109 : decode cX9_init 109 = .ok (.iinc 2 1, 3) := by decide +kernel
theorem dX9_init_112 : decode cX9_init 112 = .ok (.goto (-38), 3) := by decide +kernel
theorem dX9_init_115 : decode cX9_init 115 = .ok (.aload_n 0, 1) := by decide +kernel
theorem dX9_init_116 : decode cX9_init 116 = .ok (.new 44, 3) := by decide +kernel
theorem dX9_init_119 : decode cX9_init 119 = .ok (.dup, 1) := by decide +kernel
theorem dX9_init_120 : decode cX9_init 120 = .ok (.invokespecial 46, 3) := by decide +kernel
theorem dX9_init_123 : decode cX9_init 123 = .ok (.putfield 47, 3) := by decide +kernel
theorem dX9_init_126 : decode cX9_init 126 = .ok (.aload_n 0, 1) := by decide +kernel
theorem dX9_init_127 : decode cX9_init 127 = .ok (.new 51, 3) := by decide +kernel
theorem dX9_init_130 : decode cX9_init 130 = .ok (.dup, 1) := by decide +kernel
theorem dX9_init_131 : decode cX9_init 131 = .ok (.aload_n 0, 1) := by decide +kernel
theorem dX9_init_132 : decode cX9_init 132 = .ok (.getfield 12, 3) := by decide +kernel
theorem dX9_init_135 : decode cX9_init 135 = .ok (.getfield 37, 3) := by decide +kernel
theorem dX9_init_138 : decode cX9_init 138 = .ok (.invokespecial 53, 3) := by decide +kernel
theorem dX9_init_141 : decode cX9_init 141 = .ok (.putfield 56, 3) := by decide +kernel
theorem dX9_init_144 : decode cX9_init 144 = .ok (.return_, 1) := by decide +kernel
theorem dX9_leg_0 : decode cX9_leg 0 = .ok (.aload_n 0, 1) := by decide +kernel
theorem dX9_leg_1 : decode cX9_leg 1 = .ok (.iload_n 1, 1) := by decide +kernel
theorem dX9_leg_2 : decode cX9_leg 2 = .ok (.invokevirtual 60, 3) := by decide +kernel
theorem dX9_leg_5 : decode cX9_leg 5 = .ok (.astore 5, 2) := by decide +kernel
theorem dX9_leg_7 : decode cX9_leg 7 = .ok (.aload 5, 2) := by decide +kernel
theorem dX9_leg_9 : decode cX9_leg 9 = .ok (.ifnonnull 5, 3) := by decide +kernel
theorem dX9_leg_12 : decode cX9_leg 12 = .ok (.iconst (-1), 1) := by decide +kernel
theorem dX9_leg_13 : decode cX9_leg 13 = .ok (.ireturn, 1) := by decide +kernel
theorem dX9_leg_14 : decode cX9_leg 14 = .ok (.iload_n 2, 1) := by decide +kernel
theorem dX9_leg_15 : decode cX9_leg 15 = .ok (.iconst 1, 1) := by decide +kernel
theorem dX9_leg_16 : decode cX9_leg 16 = .ok (.bipush 24, 2) := by decide +kernel
theorem dX9_leg_18 : decode cX9_leg 18 = .ok (.invokestatic 64, 3) := by decide +kernel
theorem dX9_leg_21 : decode cX9_leg 21 = .ok (.ifCond .eq 24, 3) := by decide +kernel
theorem dX9_leg_24 : decode cX9_leg 24 = .ok (.iload_n 3, 1) := by decide +kernel
theorem dX9_leg_25 : decode cX9_leg 25 = .ok (.iconst 0, 1) := by decide +kernel
theorem dX9_leg_26 : decode cX9_leg 26 = .ok (.sipush 500, 3) := by decide +kernel
theorem dX9_leg_29 : decode cX9_leg 29 = .ok (.invokestatic 64, 3) := by decide +kernel
theorem dX9_leg_32 : decode cX9_leg 32 = .ok (.ifCond .eq 13, 3) := by decide +kernel
theorem dX9_leg_35 : decode cX9_leg 35 = .ok (.iload 4, 2) := by decide +kernel
theorem dX9_leg_37 : decode cX9_leg 37 = .ok (.iconst 0, 1) := by decide +kernel
theorem dX9_leg_38 : decode cX9_leg 38 = .ok (.iconst 1, 1) := by decide +kernel
theorem dX9_leg_39 : decode cX9_leg 39 = .ok (.invokestatic 64, 3) := by decide +kernel
theorem dX9_leg_42 : decode cX9_leg 42 = .ok (.ifCond .ne 6, 3) := by decide +kernel
theorem dX9_leg_45 : decode cX9_leg 45 = .ok (.bipush (-2), 2) := by decide +kernel
theorem dX9_leg_47 : decode cX9_leg 47 = .ok (.ireturn, 1) := by decide +kernel
theorem dX9_leg_48 : decode cX9_leg 48 = .ok (.aload 5, 2) := by decide +kernel
theorem dX9_leg_50 : decode cX9_leg 50 = .ok (.getfield 68, 3) := by decide +kernel
theorem dX9_leg_53 : decode cX9_leg 53 = .ok (.iload_n 2, 1) := by decide +kernel
theorem dX9_leg_54 : decode cX9_leg 54 = .ok (.invokevirtual 72, 3) := by decide +kernel
theorem dX9_leg_57 : decode cX9_leg 57 = .ok (.ifCond .ne 6, 3) := by decide +kernel
theorem dX9_leg_60 : decode cX9_leg 60 = .ok (.bipush (-4), 2) := by decide +kernel
theorem dX9_leg_62 : decode cX9_leg 62 = .ok (.ireturn, 1) := by decide +kernel
theorem dX9_leg_63 : decode cX9_leg 63 = .ok (.aload 5, 2) := by decide +kernel
theorem dX9_leg_65 : decode cX9_leg 65 = .ok (.getfield 68, 3) := by decide +kernel
theorem dX9_leg_68 : decode cX9_leg 68 = .ok (.iload_n 2, 1) := by decide +kernel
theorem dX9_leg_69 : decode cX9_leg 69 = .ok (.iload_n 3, 1) := by decide +kernel
theorem dX9_leg_70 : decode cX9_leg 70 = .ok (.iload 4, 2) := by decide +kernel
theorem dX9_leg_72 : decode cX9_leg 72 = .ok (.invokevirtual 78, 3) := by decide +kernel
theorem dX9_leg_75 : decode cX9_leg 75 = .ok (.aload 5, 2) := by decide +kernel
theorem dX9_leg_77 : decode cX9_leg 77 = .ok (.invokevirtual 82, 3) := by decide +kernel
theorem dX9_leg_80 : decode cX9_leg 80 = .ok (.aload 5, 2) := by decide +kernel
theorem dX9_leg_82 : decode cX9_leg 82 = .ok (.getfield 68, 3) := by decide +kernel
theorem dX9_leg_85 : decode cX9_leg 85 = .ok (.getfield 85, 3) := by decide +kernel
theorem dX9_leg_88 : decode cX9_leg 88 = .ok (.ireturn, 1) := by decide +kernel
theorem dX9_cut_0 : decode cX9_cut 0 = .ok (.aload_n 0, 1) := by decide +kernel
theorem dX9_cut_1 : decode cX9_cut 1 = .ok (.iload_n 1, 1) := by decide +kernel
theorem dX9_cut_2 : decode cX9_cut 2 = .ok (.invokevirtual 60, 3) := by decide +kernel
theorem dX9_cut_5 : decode cX9_cut 5 = .ok (.astore_n 2, 1) := by decide +kernel
theorem dX9_cut_6 : decode cX9_cut 6 = .ok (.aload_n 2, 1) := by decide +kernel
theorem dX9_cut_7 : decode cX9_cut 7 = .ok (.ifnonnull 5, 3) := by decide +kernel
theorem dX9_cut_10 : decode cX9_cut 10 = .ok (.iconst (-1), 1) := by decide +kernel
theorem dX9_cut_11 : decode cX9_cut 11 = .ok (.ireturn, 1) := by decide +kernel
theorem dX9_cut_12 : decode cX9_cut 12 = .ok (.aload_n 2, 1) := by decide +kernel
theorem dX9_cut_13 : decode cX9_cut 13 = .ok (.getfield 68, 3) := by decide +kernel
theorem dX9_cut_16 : decode cX9_cut 16 = .ok (.getfield 89, 3) := by decide +kernel
theorem dX9_cut_19 : decode cX9_cut 19 = .ok (.ifCond .ne 6, 3) := by decide +kernel
theorem dX9_cut_22 : decode cX9_cut 22 = .ok (.bipush (-5), 2) := by decide +kernel
theorem dX9_cut_24 : decode cX9_cut 24 = .ok (.ireturn, 1) := by decide +kernel
theorem dX9_cut_25 : decode cX9_cut 25 = .ok (.aload_n 2, 1) := by decide +kernel
theorem dX9_cut_26 : decode cX9_cut 26 = .ok (.getfield 68, 3) := by decide +kernel
theorem dX9_cut_29 : decode cX9_cut 29 = .ok (.invokevirtual 92, 3) := by decide +kernel
theorem dX9_cut_32 : decode cX9_cut 32 = .ok (.aload_n 2, 1) := by decide +kernel
theorem dX9_cut_33 : decode cX9_cut 33 = .ok (.invokevirtual 82, 3) := by decide +kernel
theorem dX9_cut_36 : decode cX9_cut 36 = .ok (.aload_n 2, 1) := by decide +kernel
theorem dX9_cut_37 : decode cX9_cut 37 = .ok (.getfield 68, 3) := by decide +kernel
theorem dX9_cut_40 : decode cX9_cut 40 = .ok (.getfield 89, 3) := by decide +kernel
theorem dX9_cut_43 : decode cX9_cut 43 = .ok (.ireturn, 1) := by decide +kernel
theorem dX9_about_0 : decode cX9_about 0 = .ok (.aload_n 0, 1) := by decide +kernel
theorem dX9_about_1 : decode cX9_about 1 = .ok (.iload_n 1, 1) := by decide +kernel
theorem dX9_about_2 : decode cX9_about 2 = .ok (.invokevirtual 95, 3) := by decide +kernel
theorem dX9_about_5 : decode cX9_about 5 = .ok (.astore 4, 2) := by decide +kernel
theorem dX9_about_7 : decode cX9_about 7 = .ok (.aload 4, 2) := by decide +kernel
theorem dX9_about_9 : decode cX9_about 9 = .ok (.ifnull 12, 3) := by decide +kernel
theorem dX9_about_12 : decode cX9_about 12 = .ok (.aload 4, 2) := by decide +kernel
theorem dX9_about_14 : decode cX9_about 14 = .ok (.iload_n 2, 1) := by decide +kernel
theorem dX9_about_15 : decode cX9_about 15 = .ok (.invokevirtual 99, 3) := by decide +kernel
theorem dX9_about_18 : decode cX9_about 18 = .ok (.ifCond .ne 5, 3) := by decide +kernel
theorem dX9_about_21 : decode cX9_about 21 = .ok (.iconst (-1), 1) := by decide +kernel
theorem dX9_about_22 : decode cX9_about 22 = .ok (.ireturn, 1) := by decide +kernel
theorem dX9_about_23 : decode cX9_about 23 = .ok (.iload_n 3, 1) := by decide +kernel
theorem dX9_about_24 : decode cX9_about 24 = .ok (.tableswitch 63 0 3 #[32, 40, 48, 56], 32) := by decide +kernel
theorem dX9_about_56 : decode cX9_about 56 = .ok (.aload 4, 2) := by decide +kernel
theorem dX9_about_58 : decode cX9_about 58 = .ok (.getfield 102, 3) := by decide +kernel
theorem dX9_about_61 : decode cX9_about 61 = .ok (.iload_n 2, 1) := by decide +kernel
theorem dX9_about_62 : decode cX9_about 62 = .ok (.iaload, 1) := by decide +kernel
theorem dX9_about_63 : decode cX9_about 63 = .ok (.ireturn, 1) := by decide +kernel
theorem dX9_about_64 : decode cX9_about 64 = .ok (.aload 4, 2) := by decide +kernel
theorem dX9_about_66 : decode cX9_about 66 = .ok (.getfield 106, 3) := by decide +kernel
theorem dX9_about_69 : decode cX9_about 69 = .ok (.iload_n 2, 1) := by decide +kernel
theorem dX9_about_70 : decode cX9_about 70 = .ok (.iaload, 1) := by decide +kernel
theorem dX9_about_71 : decode cX9_about 71 = .ok (.ireturn, 1) := by decide +kernel
theorem dX9_about_72 : decode cX9_about 72 = .ok (.aload 4, 2) := by decide +kernel
theorem dX9_about_74 : decode cX9_about 74 = .ok (.getfield 109, 3) := by decide +kernel
theorem dX9_about_77 : decode cX9_about 77 = .ok (.iload_n 2, 1) := by decide +kernel
theorem dX9_about_78 : decode cX9_about 78 = .ok (.iaload, 1) := by decide +kernel
theorem dX9_about_79 : decode cX9_about 79 = .ok (.ireturn, 1) := by decide +kernel
theorem dX9_about_80 : decode cX9_about 80 = .ok (.aload 4, 2) := by decide +kernel
theorem dX9_about_82 : decode cX9_about 82 = .ok (.iload_n 2, 1) := by decide +kernel
theorem dX9_about_83 : decode cX9_about 83 = .ok (.invokevirtual 112, 3) := by decide +kernel
theorem dX9_about_86 : decode cX9_about 86 = .ok (.ireturn, 1) := by decide +kernel
theorem dX9_about_87 : decode cX9_about 87 = .ok (.bipush (-2), 2) := by decide +kernel
theorem dX9_about_89 : decode cX9_about 89 = .ok (.ireturn, 1) := by decide +kernel
theorem dX9_nap_0 : decode cX9_nap 0 = .ok (.iload_n 1, 1) := by decide +kernel
theorem dX9_nap_1 : decode cX9_nap 1 = .ok (.iconst 1, 1) := by decide +kernel
theorem dX9_nap_2 : decode cX9_nap 2 = .ok (.iconst 3, 1) := by decide +kernel
theorem dX9_nap_3 : decode cX9_nap 3 = .ok (.invokestatic 64, 3) := by decide +kernel
theorem dX9_nap_6 : decode cX9_nap 6 = .ok (.ifCond .eq 12, 3) := by decide +kernel
theorem dX9_nap_9 : decode cX9_nap 9 = .ok (.iload_n 2, 1) := by decide +kernel
theorem dX9_nap_10 : decode cX9_nap 10 = .ok (.iconst 0, 1) := by decide +kernel
theorem dX9_nap_11 : decode cX9_nap 11 = .ok (.iconst 1, 1) := by decide +kernel
theorem dX9_nap_12 : decode cX9_nap 12 = .ok (.invokestatic 64, 3) := by decide +kernel
theorem dX9_nap_15 : decode cX9_nap 15 = .ok (.ifCond .ne 6, 3) := by decide +kernel
theorem dX9_nap_18 : decode cX9_nap 18 = .ok (.bipush (-2), 2) := by decide +kernel
theorem dX9_nap_20 : decode cX9_nap 20 = .ok (.ireturn, 1) := by decide +kernel
theorem dX9_nap_21 : decode cX9_nap 21 = .ok (.iload_n 3, 1) := by decide +kernel
theorem dX9_nap_22 : decode cX9_nap 22 = .ok (.iconst 0, 1) := by decide +kernel
theorem dX9_nap_23 : decode cX9_nap 23 = .ok (.iload_n 2, 1) := by decide +kernel
theorem dX9_nap_24 : decode cX9_nap 24 = .ok (.ifCond .ne 8, 3) := by decide +kernel
theorem dX9_nap_27 : decode cX9_nap 27 = .ok (.bipush 9, 2) := by decide +kernel
theorem dX9_nap_29 : decode cX9_nap 29 = .ok (.goto 6, 3) := by decide +kernel
theorem dX9_nap_32 : decode cX9_nap 32 = .ok (.sipush 1000, 3) := by decide +kernel
theorem dX9_nap_35 : decode cX9_nap 35 = .ok (.invokestatic 64, 3) := by decide +kernel
theorem dX9_nap_38 : decode cX9_nap 38 = .ok (.ifCond .ne 6, 3) := by decide +kernel
theorem dX9_nap_41 : decode cX9_nap 41 = .ok (.bipush (-2), 2) := by decide +kernel
theorem dX9_nap_43 : decode cX9_nap 43 = .ok (.ireturn, 1) := by decide +kernel
theorem dX9_nap_44 : decode cX9_nap 44 = .ok (.iload_n 2, 1) := by decide +kernel
theorem dX9_nap_45 : decode cX9_nap 45 = .ok (.ifCond .ne 18, 3) := by decide +kernel
theorem dX9_nap_48 : decode cX9_nap 48 = .ok (.aload_n 0, 1) := by decide +kernel
theorem dX9_nap_49 : decode cX9_nap 49 = .ok (.getfield 12, 3) := by decide +kernel
theorem dX9_nap_52 : decode cX9_nap 52 = .ok (.getfield 37, 3) := by decide +kernel
theorem dX9_nap_55 : decode cX9_nap 55 = .ok (.iload_n 1, 1) := by decide +kernel
theorem dX9_nap_56 : decode cX9_nap 56 = .ok (.iload_n 3, 1) := by decide +kernel
theorem dX9_nap_57 : decode cX9_nap 57 = .ok (.invokevirtual 116, 3) := by decide +kernel
theorem dX9_nap_60 : decode cX9_nap 60 = .ok (.goto 15, 3) := by decide +kernel
theorem dX9_nap_63 : decode cX9_nap 63 = .ok (.aload_n 0, 1) := by decide +kernel
theorem dX9_nap_64 : decode cX9_nap 64 = .ok (.getfield 12, 3) := by decide +kernel
theorem dX9_nap_67 : decode cX9_nap 67 = .ok (.getfield 37, 3) := by decide +kernel
theorem dX9_nap_70 : decode cX9_nap 70 = .ok (.iload_n 1, 1) := by decide +kernel
theorem dX9_nap_71 : decode cX9_nap 71 = .ok (.iload_n 3, 1) := by decide +kernel
theorem dX9_nap_72 : decode cX9_nap 72 = .ok (.invokevirtual 122, 3) := by decide +kernel
theorem dX9_nap_75 : decode cX9_nap 75 = .ok (.istore 4, 2) := by decide +kernel
theorem dX9_nap_77 : decode cX9_nap 77 = .ok (.aload_n 0, 1) := by decide +kernel
theorem dX9_nap_78 : decode cX9_nap 78 = .ok (.invokevirtual 125, 3) := by decide +kernel
theorem dX9_nap_81 : decode cX9_nap 81 = .ok (.iload 4, 2) := by decide +kernel
theorem dX9_nap_83 : decode cX9_nap 83 = .ok (.ireturn, 1) := by decide +kernel
theorem dX9_owed_0 : decode cX9_owed 0 = .ok (.aload_n 0, 1) := by decide +kernel
theorem dX9_owed_1 : decode cX9_owed 1 = .ok (.iload_n 1, 1) := by decide +kernel
theorem dX9_owed_2 : decode cX9_owed 2 = .ok (.invokevirtual 95, 3) := by decide +kernel
theorem dX9_owed_5 : decode cX9_owed 5 = .ok (.astore 5, 2) := by decide +kernel
theorem dX9_owed_7 : decode cX9_owed 7 = .ok (.aload 5, 2) := by decide +kernel
theorem dX9_owed_9 : decode cX9_owed 9 = .ok (.ifnonnull 5, 3) := by decide +kernel
theorem dX9_owed_12 : decode cX9_owed 12 = .ok (.iconst (-1), 1) := by decide +kernel
theorem dX9_owed_13 : decode cX9_owed 13 = .ok (.ireturn, 1) := by decide +kernel
theorem dX9_owed_14 : decode cX9_owed 14 = .ok (.aload 5, 2) := by decide +kernel
theorem dX9_owed_16 : decode cX9_owed 16 = .ok (.iload_n 2, 1) := by decide +kernel
theorem dX9_owed_17 : decode cX9_owed 17 = .ok (.invokevirtual 128, 3) := by decide +kernel
theorem dX9_owed_20 : decode cX9_owed 20 = .ok (.ifCond .eq 18, 3) := by decide +kernel
theorem dX9_owed_23 : decode cX9_owed 23 = .ok (.iload_n 3, 1) := by decide +kernel
theorem dX9_owed_24 : decode cX9_owed 24 = .ok (.invokestatic 131, 3) := by decide +kernel
theorem dX9_owed_27 : decode cX9_owed 27 = .ok (.ifCond .eq 11, 3) := by decide +kernel
theorem dX9_owed_30 : decode cX9_owed 30 = .ok (.iload 4, 2) := by decide +kernel
theorem dX9_owed_32 : decode cX9_owed 32 = .ok (.invokestatic 134, 3) := by decide +kernel
theorem dX9_owed_35 : decode cX9_owed 35 = .ok (.ifCond .ne 6, 3) := by decide +kernel
theorem dX9_owed_38 : decode cX9_owed 38 = .ok (.bipush (-2), 2) := by decide +kernel
theorem dX9_owed_40 : decode cX9_owed 40 = .ok (.ireturn, 1) := by decide +kernel
theorem dX9_owed_41 : decode cX9_owed 41 = .ok (.aload 5, 2) := by decide +kernel
theorem dX9_owed_43 : decode cX9_owed 43 = .ok (.iload_n 2, 1) := by decide +kernel
theorem dX9_owed_44 : decode cX9_owed 44 = .ok (.iload 4, 2) := by decide +kernel
theorem dX9_owed_46 : decode cX9_owed 46 = .ok (.invokevirtual 137, 3) := by decide +kernel
theorem dX9_owed_49 : decode cX9_owed 49 = .ok (.ifCond .ne 6, 3) := by decide +kernel
theorem dX9_owed_52 : decode cX9_owed 52 = .ok (.bipush (-5), 2) := by decide +kernel
theorem dX9_owed_54 : decode cX9_owed 54 = .ok (.ireturn, 1) := by decide +kernel
theorem dX9_owed_55 : decode cX9_owed 55 = .ok (.aload_n 0, 1) := by decide +kernel
theorem dX9_owed_56 : decode cX9_owed 56 = .ok (.getfield 12, 3) := by decide +kernel
theorem dX9_owed_59 : decode cX9_owed 59 = .ok (.getfield 37, 3) := by decide +kernel
theorem dX9_owed_62 : decode cX9_owed 62 = .ok (.aload 5, 2) := by decide +kernel
theorem dX9_owed_64 : decode cX9_owed 64 = .ok (.iload_n 2, 1) := by decide +kernel
theorem dX9_owed_65 : decode cX9_owed 65 = .ok (.iload_n 3, 1) := by decide +kernel
theorem dX9_owed_66 : decode cX9_owed 66 = .ok (.iload 4, 2) := by decide +kernel
theorem dX9_owed_68 : decode cX9_owed 68 = .ok (.invokevirtual 141, 3) := by decide +kernel
theorem dX9_owed_71 : decode cX9_owed 71 = .ok (.ireturn, 1) := by decide +kernel
theorem dX9_risk_0 : decode cX9_risk 0 = .ok (.aload_n 0, 1) := by decide +kernel
theorem dX9_risk_1 : decode cX9_risk 1 = .ok (.iload_n 1, 1) := by decide +kernel
theorem dX9_risk_2 : decode cX9_risk 2 = .ok (.invokevirtual 95, 3) := by decide +kernel
theorem dX9_risk_5 : decode cX9_risk 5 = .ok (.astore 6, 2) := by decide +kernel
theorem dX9_risk_7 : decode cX9_risk 7 = .ok (.aload 6, 2) := by decide +kernel
theorem dX9_risk_9 : decode cX9_risk 9 = .ok (.ifnonnull 5, 3) := by decide +kernel
theorem dX9_risk_12 : decode cX9_risk 12 = .ok (.iconst (-1), 1) := by decide +kernel
theorem dX9_risk_13 : decode cX9_risk 13 = .ok (.ireturn, 1) := by decide +kernel
theorem dX9_risk_14 : decode cX9_risk 14 = .ok (.aload 6, 2) := by decide +kernel
theorem dX9_risk_16 : decode cX9_risk 16 = .ok (.iload_n 2, 1) := by decide +kernel
theorem dX9_risk_17 : decode cX9_risk 17 = .ok (.invokevirtual 128, 3) := by decide +kernel
theorem dX9_risk_20 : decode cX9_risk 20 = .ok (.ifCond .eq 28, 3) := by decide +kernel
theorem dX9_risk_23 : decode cX9_risk 23 = .ok (.iload_n 3, 1) := by decide +kernel
theorem dX9_risk_24 : decode cX9_risk 24 = .ok (.invokestatic 131, 3) := by decide +kernel
theorem dX9_risk_27 : decode cX9_risk 27 = .ok (.ifCond .eq 21, 3) := by decide +kernel
theorem dX9_risk_30 : decode cX9_risk 30 = .ok (.iload 4, 2) := by decide +kernel
theorem dX9_risk_32 : decode cX9_risk 32 = .ok (.invokestatic 134, 3) := by decide +kernel
theorem dX9_risk_35 : decode cX9_risk 35 = .ok (.ifCond .eq 13, 3) := by decide +kernel
theorem dX9_risk_38 : decode cX9_risk 38 = .ok (.iload 5, 2) := by decide +kernel
theorem dX9_risk_40 : decode cX9_risk 40 = .ok (.iconst 0, 1) := by decide +kernel
theorem dX9_risk_41 : decode cX9_risk 41 = .ok (.iconst 1, 1) := by decide +kernel
theorem dX9_risk_42 : decode cX9_risk 42 = .ok (.invokestatic 64, 3) := by decide +kernel
theorem dX9_risk_45 : decode cX9_risk 45 = .ok (.ifCond .ne 6, 3) := by decide +kernel
theorem dX9_risk_48 : decode cX9_risk 48 = .ok (.bipush (-2), 2) := by decide +kernel
theorem dX9_risk_50 : decode cX9_risk 50 = .ok (.ireturn, 1) := by decide +kernel
theorem dX9_risk_51 : decode cX9_risk 51 = .ok (.iconst 2, 1) := by decide +kernel
theorem dX9_risk_52 : decode cX9_risk 52 = .ok (.iload 4, 2) := by decide +kernel
theorem dX9_risk_54 : decode cX9_risk 54 = .ok (.imul, 1) := by decide +kernel
theorem dX9_risk_55 : decode cX9_risk 55 = .ok (.iload 5, 2) := by decide +kernel
theorem dX9_risk_57 : decode cX9_risk 57 = .ok (.iadd, 1) := by decide +kernel
theorem dX9_risk_58 : decode cX9_risk 58 = .ok (.istore 7, 2) := by decide +kernel
theorem dX9_risk_60 : decode cX9_risk 60 = .ok (.iload 7, 2) := by decide +kernel
theorem dX9_risk_62 : decode cX9_risk 62 = .ok (.iconst 1, 1) := by decide +kernel
theorem dX9_risk_63 : decode cX9_risk 63 = .ok (.if_icmp .eq 14, 3) := by decide +kernel
theorem dX9_risk_66 : decode cX9_risk 66 = .ok (.aload 6, 2) := by decide +kernel
theorem dX9_risk_68 : decode cX9_risk 68 = .ok (.iload_n 2, 1) := by decide +kernel
theorem dX9_risk_69 : decode cX9_risk 69 = .ok (.iload 4, 2) := by decide +kernel
theorem dX9_risk_71 : decode cX9_risk 71 = .ok (.invokevirtual 137, 3) := by decide +kernel
theorem dX9_risk_74 : decode cX9_risk 74 = .ok (.ifCond .ne 6, 3) := by decide +kernel
theorem dX9_risk_77 : decode cX9_risk 77 = .ok (.bipush (-5), 2) := by decide +kernel
theorem dX9_risk_79 : decode cX9_risk 79 = .ok (.ireturn, 1) := by decide +kernel
theorem dX9_risk_80 : decode cX9_risk 80 = .ok (.aload 6, 2) := by decide +kernel
theorem dX9_risk_82 : decode cX9_risk 82 = .ok (.iload_n 2, 1) := by decide +kernel
theorem dX9_risk_83 : decode cX9_risk 83 = .ok (.invokevirtual 145, 3) := by decide +kernel
theorem dX9_risk_86 : decode cX9_risk 86 = .ok (.aload_n 0, 1) := by decide +kernel
theorem dX9_risk_87 : decode cX9_risk 87 = .ok (.getfield 12, 3) := by decide +kernel
theorem dX9_risk_90 : decode cX9_risk 90 = .ok (.getfield 37, 3) := by decide +kernel
theorem dX9_risk_93 : decode cX9_risk 93 = .ok (.iload 7, 2) := by decide +kernel
theorem dX9_risk_95 : decode cX9_risk 95 = .ok (.iload_n 3, 1) := by decide +kernel
theorem dX9_risk_96 : decode cX9_risk 96 = .ok (.invokevirtual 148, 3) := by decide +kernel
theorem dX9_risk_99 : decode cX9_risk 99 = .ok (.imul, 1) := by decide +kernel
theorem dX9_risk_100 : decode cX9_risk 100 = .ok (.ireturn, 1) := by decide +kernel
theorem dX9_say_0 : decode cX9_say 0 = .ok (.iload_n 1, 1) := by decide +kernel
theorem dX9_say_1 : decode cX9_say 1 = .ok (.bipush 33, 2) := by decide +kernel
theorem dX9_say_3 : decode cX9_say 3 = .ok (.bipush 126, 2) := by decide +kernel
theorem dX9_say_5 : decode cX9_say 5 = .ok (.invokestatic 64, 3) := by decide +kernel
theorem dX9_say_8 : decode cX9_say 8 = .ok (.ifCond .ne 6, 3) := by decide +kernel
theorem dX9_say_11 : decode cX9_say 11 = .ok (.bipush (-2), 2) := by decide +kernel
theorem dX9_say_13 : decode cX9_say 13 = .ok (.ireturn, 1) := by decide +kernel
theorem dX9_say_14 : decode cX9_say 14 = .ok (.aload_n 0, 1) := by decide +kernel
theorem dX9_say_15 : decode cX9_say 15 = .ok (.getfield 47, 3) := by decide +kernel
theorem dX9_say_18 : decode cX9_say 18 = .ok (.iload_n 1, 1) := by decide +kernel
theorem dX9_say_19 : decode cX9_say 19 = .ok (.invokevirtual 151, 3) := by decide +kernel
theorem dX9_say_22 : decode cX9_say 22 = .ok (.ifCond .eq 13, 3) := by decide +kernel
theorem dX9_say_25 : decode cX9_say 25 = .ok (.aload_n 0, 1) := by decide +kernel
theorem dX9_say_26 : decode cX9_say 26 = .ok (.getfield 47, 3) := by decide +kernel
theorem dX9_say_29 : decode cX9_say 29 = .ok (.getfield 154, 3) := by decide +kernel
theorem dX9_say_32 : decode cX9_say 32 = .ok (.goto 5, 3) := by decide +kernel
theorem dX9_say_35 : decode cX9_say 35 = .ok (.bipush (-4), 2) := by decide +kernel
theorem dX9_say_37 : decode cX9_say 37 = .ok (.ireturn, 1) := by decide +kernel
theorem dX9_wipe_0 : decode cX9_wipe 0 = .ok (.aload_n 0, 1) := by decide +kernel
theorem dX9_wipe_1 : decode cX9_wipe 1 = .ok (.getfield 47, 3) := by decide +kernel
theorem dX9_wipe_4 : decode cX9_wipe 4 = .ok (.getfield 154, 3) := by decide +kernel
theorem dX9_wipe_7 : decode cX9_wipe 7 = .ok (.istore_n 1, 1) := by decide +kernel
theorem dX9_wipe_8 : decode cX9_wipe 8 = .ok (.aload_n 0, 1) := by decide +kernel
theorem dX9_wipe_9 : decode cX9_wipe 9 = .ok (.getfield 47, 3) := by decide +kernel
theorem dX9_wipe_12 : decode cX9_wipe 12 = .ok (.iconst 0, 1) := by decide +kernel
theorem dX9_wipe_13 : decode cX9_wipe 13 = .ok (.putfield 154, 3) := by decide +kernel
theorem dX9_wipe_16 : decode cX9_wipe 16 = .ok (.iload_n 1, 1) := by decide +kernel
theorem dX9_wipe_17 : decode cX9_wipe 17 = .ok (.ireturn, 1) := by decide +kernel
theorem dX9_fault_0 : decode cX9_fault 0 = .ok (.aload_n 0, 1) := by decide +kernel
theorem dX9_fault_1 : decode cX9_fault 1 = .ok (.getfield 47, 3) := by decide +kernel
theorem dX9_fault_4 : decode cX9_fault 4 = .ok (.invokevirtual 157, 3) := by decide +kernel
theorem dX9_fault_7 : decode cX9_fault 7 = .ok (.ireturn, 1) := by decide +kernel
theorem dX9_judge_0 : decode cX9_judge 0 = .ok (.aload_n 0, 1) := by decide +kernel
theorem dX9_judge_1 : decode cX9_judge 1 = .ok (.iload_n 1, 1) := by decide +kernel
theorem dX9_judge_2 : decode cX9_judge 2 = .ok (.invokevirtual 95, 3) := by decide +kernel
theorem dX9_judge_5 : decode cX9_judge 5 = .ok (.astore 5, 2) := by decide +kernel
theorem dX9_judge_7 : decode cX9_judge 7 = .ok (.aload 5, 2) := by decide +kernel
theorem dX9_judge_9 : decode cX9_judge 9 = .ok (.ifnonnull 5, 3) := by decide +kernel
theorem dX9_judge_12 : decode cX9_judge 12 = .ok (.iconst (-1), 1) := by decide +kernel
theorem dX9_judge_13 : decode cX9_judge 13 = .ok (.ireturn, 1) := by decide +kernel
theorem dX9_judge_14 : decode cX9_judge 14 = .ok (.iload_n 2, 1) := by decide +kernel
theorem dX9_judge_15 : decode cX9_judge 15 = .ok (.invokestatic 131, 3) := by decide +kernel
theorem dX9_judge_18 : decode cX9_judge 18 = .ok (.ifCond .eq 21, 3) := by decide +kernel
theorem dX9_judge_21 : decode cX9_judge 21 = .ok (.iload_n 3, 1) := by decide +kernel
theorem dX9_judge_22 : decode cX9_judge 22 = .ok (.invokestatic 161, 3) := by decide +kernel
theorem dX9_judge_25 : decode cX9_judge 25 = .ok (.ifCond .eq 14, 3) := by decide +kernel
theorem dX9_judge_28 : decode cX9_judge 28 = .ok (.iload 4, 2) := by decide +kernel
theorem dX9_judge_30 : decode cX9_judge 30 = .ok (.iconst 0, 1) := by decide +kernel
theorem dX9_judge_31 : decode cX9_judge 31 = .ok (.bipush 6, 2) := by decide +kernel
theorem dX9_judge_33 : decode cX9_judge 33 = .ok (.invokestatic 64, 3) := by decide +kernel
theorem dX9_judge_36 : decode cX9_judge 36 = .ok (.ifCond .ne 6, 3) := by decide +kernel
theorem dX9_judge_39 : decode cX9_judge 39 = .ok (.bipush (-2), 2) := by decide +kernel
theorem dX9_judge_41 : decode cX9_judge 41 = .ok (.ireturn, 1) := by decide +kernel
theorem dX9_judge_42 : decode cX9_judge 42 = .ok (.aload_n 0, 1) := by decide +kernel
theorem dX9_judge_43 : decode cX9_judge 43 = .ok (.getfield 47, 3) := by decide +kernel
theorem dX9_judge_46 : decode cX9_judge 46 = .ok (.invokevirtual 157, 3) := by decide +kernel
theorem dX9_judge_49 : decode cX9_judge 49 = .ok (.bipush (-6), 2) := by decide +kernel
theorem dX9_judge_51 : decode cX9_judge 51 = .ok (.if_icmp .eq 6, 3) := by decide +kernel
theorem dX9_judge_54 : decode cX9_judge 54 = .ok (.bipush (-5), 2) := by decide +kernel
theorem dX9_judge_56 : decode cX9_judge 56 = .ok (.ireturn, 1) := by decide +kernel
theorem dX9_judge_57 : decode cX9_judge 57 = .ok (.aload_n 0, 1) := by decide +kernel
theorem dX9_judge_58 : decode cX9_judge 58 = .ok (.getfield 56, 3) := by decide +kernel
theorem dX9_judge_61 : decode cX9_judge 61 = .ok (.aload 5, 2) := by decide +kernel
theorem dX9_judge_63 : decode cX9_judge 63 = .ok (.iload_n 2, 1) := by decide +kernel
theorem dX9_judge_64 : decode cX9_judge 64 = .ok (.iload_n 3, 1) := by decide +kernel
theorem dX9_judge_65 : decode cX9_judge 65 = .ok (.invokevirtual 164, 3) := by decide +kernel
theorem dX9_judge_68 : decode cX9_judge 68 = .ok (.aload_n 0, 1) := by decide +kernel
theorem dX9_judge_69 : decode cX9_judge 69 = .ok (.getfield 56, 3) := by decide +kernel
theorem dX9_judge_72 : decode cX9_judge 72 = .ok (.aload_n 0, 1) := by decide +kernel
theorem dX9_judge_73 : decode cX9_judge 73 = .ok (.getfield 47, 3) := by decide +kernel
theorem dX9_judge_76 : decode cX9_judge 76 = .ok (.invokevirtual 168, 3) := by decide +kernel
theorem dX9_judge_79 : decode cX9_judge 79 = .ok (.istore 6, 2) := by decide +kernel
theorem dX9_judge_81 : decode cX9_judge 81 = .ok (.iload 4, 2) := by decide +kernel
theorem dX9_judge_83 : decode cX9_judge 83 = .ok (.tableswitch 89 0 5 #[37, 40, 51, 59, 70, 81], 37) := by decide +kernel
theorem dX9_judge_120 : decode cX9_judge 120 = .ok (.iload 6, 2) := by decide +kernel
theorem dX9_judge_122 : decode cX9_judge 122 = .ok (.ireturn, 1) := by decide +kernel
theorem dX9_judge_123 : decode cX9_judge 123 = .ok (.aload_n 0, 1) := by decide +kernel
theorem dX9_judge_124 : decode cX9_judge 124 = .ok (.getfield 56, 3) := by decide +kernel
theorem dX9_judge_127 : decode cX9_judge 127 = .ok (.getfield 172, 3) := by decide +kernel
theorem dX9_judge_130 : decode cX9_judge 130 = .ok (.getfield 176, 3) := by decide +kernel
theorem dX9_judge_133 : decode cX9_judge 133 = .ok (.ireturn, 1) := by decide +kernel
theorem dX9_judge_134 : decode cX9_judge 134 = .ok (.aload_n 0, 1) := by decide +kernel
theorem dX9_judge_135 : decode cX9_judge 135 = .ok (.getfield 56, 3) := by decide +kernel
theorem dX9_judge_138 : decode cX9_judge 138 = .ok (.getfield 181, 3) := by decide +kernel
theorem dX9_judge_141 : decode cX9_judge 141 = .ok (.ireturn, 1) := by decide +kernel
theorem dX9_judge_142 : decode cX9_judge 142 = .ok (.aload_n 0, 1) := by decide +kernel
theorem dX9_judge_143 : decode cX9_judge 143 = .ok (.getfield 56, 3) := by decide +kernel
theorem dX9_judge_146 : decode cX9_judge 146 = .ok (.getfield 172, 3) := by decide +kernel
theorem dX9_judge_149 : decode cX9_judge 149 = .ok (.invokevirtual 184, 3) := by decide +kernel
theorem dX9_judge_152 : decode cX9_judge 152 = .ok (.ireturn, 1) := by decide +kernel
theorem dX9_judge_153 : decode cX9_judge 153 = .ok (.aload_n 0, 1) := by decide +kernel
theorem dX9_judge_154 : decode cX9_judge 154 = .ok (.getfield 56, 3) := by decide +kernel
theorem dX9_judge_157 : decode cX9_judge 157 = .ok (.getfield 172, 3) := by decide +kernel
theorem dX9_judge_160 : decode cX9_judge 160 = .ok (.invokevirtual 187, 3) := by decide +kernel
theorem dX9_judge_163 : decode cX9_judge 163 = .ok (.ireturn, 1) := by decide +kernel
theorem dX9_judge_164 : decode cX9_judge 164 = .ok (.aload_n 0, 1) := by decide +kernel
theorem dX9_judge_165 : decode cX9_judge 165 = .ok (.getfield 56, 3) := by decide +kernel
theorem dX9_judge_168 : decode cX9_judge 168 = .ok (.getfield 190, 3) := by decide +kernel
theorem dX9_judge_171 : decode cX9_judge 171 = .ok (.ireturn, 1) := by decide +kernel
theorem dX9_judge_172 : decode cX9_judge 172 = .ok (.aload_n 0, 1) := by decide +kernel
theorem dX9_judge_173 : decode cX9_judge 173 = .ok (.getfield 56, 3) := by decide +kernel
theorem dX9_judge_176 : decode cX9_judge 176 = .ok (.getfield 193, 3) := by decide +kernel
theorem dX9_judge_179 : decode cX9_judge 179 = .ok (.ireturn, 1) := by decide +kernel
theorem dX9_best_0 : decode cX9_best 0 = .ok (.aload_n 0, 1) := by decide +kernel
theorem dX9_best_1 : decode cX9_best 1 = .ok (.iload_n 1, 1) := by decide +kernel
theorem dX9_best_2 : decode cX9_best 2 = .ok (.invokevirtual 60, 3) := by decide +kernel
theorem dX9_best_5 : decode cX9_best 5 = .ok (.astore 6, 2) := by decide +kernel
theorem dX9_best_7 : decode cX9_best 7 = .ok (.aload 6, 2) := by decide +kernel
theorem dX9_best_9 : decode cX9_best 9 = .ok (.ifnonnull 5, 3) := by decide +kernel
theorem dX9_best_12 : decode cX9_best 12 = .ok (.iconst (-1), 1) := by decide +kernel
theorem dX9_best_13 : decode cX9_best 13 = .ok (.ireturn, 1) := by decide +kernel
theorem dX9_best_14 : decode cX9_best 14 = .ok (.aload 6, 2) := by decide +kernel
theorem dX9_best_16 : decode cX9_best 16 = .ok (.iload_n 2, 1) := by decide +kernel
theorem dX9_best_17 : decode cX9_best 17 = .ok (.iload 5, 2) := by decide +kernel
theorem dX9_best_19 : decode cX9_best 19 = .ok (.invokevirtual 196, 3) := by decide +kernel
theorem dX9_best_22 : decode cX9_best 22 = .ok (.ifCond .eq 18, 3) := by decide +kernel
theorem dX9_best_25 : decode cX9_best 25 = .ok (.iload_n 3, 1) := by decide +kernel
theorem dX9_best_26 : decode cX9_best 26 = .ok (.invokestatic 131, 3) := by decide +kernel
theorem dX9_best_29 : decode cX9_best 29 = .ok (.ifCond .eq 11, 3) := by decide +kernel
theorem dX9_best_32 : decode cX9_best 32 = .ok (.iload 4, 2) := by decide +kernel
theorem dX9_best_34 : decode cX9_best 34 = .ok (.invokestatic 161, 3) := by decide +kernel
theorem dX9_best_37 : decode cX9_best 37 = .ok (.ifCond .ne 6, 3) := by decide +kernel
theorem dX9_best_40 : decode cX9_best 40 = .ok (.bipush (-2), 2) := by decide +kernel
theorem dX9_best_42 : decode cX9_best 42 = .ok (.ireturn, 1) := by decide +kernel
theorem dX9_best_43 : decode cX9_best 43 = .ok (.aload 6, 2) := by decide +kernel
theorem dX9_best_45 : decode cX9_best 45 = .ok (.iload_n 2, 1) := by decide +kernel
theorem dX9_best_46 : decode cX9_best 46 = .ok (.iload_n 3, 1) := by decide +kernel
theorem dX9_best_47 : decode cX9_best 47 = .ok (.iload 4, 2) := by decide +kernel
theorem dX9_best_49 : decode cX9_best 49 = .ok (.iload 5, 2) := by decide +kernel
theorem dX9_best_51 : decode cX9_best 51 = .ok (.invokevirtual 199, 3) := by decide +kernel
theorem dX9_best_54 : decode cX9_best 54 = .ok (.ireturn, 1) := by decide +kernel
theorem dX9_does_0 : decode cX9_does 0 = .ok (.aload_n 0, 1) := by decide +kernel
theorem dX9_does_1 : decode cX9_does 1 = .ok (.iload_n 1, 1) := by decide +kernel
theorem dX9_does_2 : decode cX9_does 2 = .ok (.invokevirtual 60, 3) := by decide +kernel
theorem dX9_does_5 : decode cX9_does 5 = .ok (.astore 6, 2) := by decide +kernel
theorem dX9_does_7 : decode cX9_does 7 = .ok (.aload 6, 2) := by decide +kernel
theorem dX9_does_9 : decode cX9_does 9 = .ok (.ifnonnull 5, 3) := by decide +kernel
theorem dX9_does_12 : decode cX9_does 12 = .ok (.iconst (-1), 1) := by decide +kernel
theorem dX9_does_13 : decode cX9_does 13 = .ok (.ireturn, 1) := by decide +kernel
theorem dX9_does_14 : decode cX9_does 14 = .ok (.aload 6, 2) := by decide +kernel
theorem dX9_does_16 : decode cX9_does 16 = .ok (.iload_n 2, 1) := by decide +kernel
theorem dX9_does_17 : decode cX9_does 17 = .ok (.iload 5, 2) := by decide +kernel
theorem dX9_does_19 : decode cX9_does 19 = .ok (.invokevirtual 196, 3) := by decide +kernel
theorem dX9_does_22 : decode cX9_does 22 = .ok (.ifCond .eq 18, 3) := by decide +kernel
theorem dX9_does_25 : decode cX9_does 25 = .ok (.iload_n 3, 1) := by decide +kernel
theorem dX9_does_26 : decode cX9_does 26 = .ok (.invokestatic 131, 3) := by decide +kernel
theorem dX9_does_29 : decode cX9_does 29 = .ok (.ifCond .eq 11, 3) := by decide +kernel
theorem dX9_does_32 : decode cX9_does 32 = .ok (.iload 4, 2) := by decide +kernel
theorem dX9_does_34 : decode cX9_does 34 = .ok (.invokestatic 161, 3) := by decide +kernel
theorem dX9_does_37 : decode cX9_does 37 = .ok (.ifCond .ne 6, 3) := by decide +kernel
theorem dX9_does_40 : decode cX9_does 40 = .ok (.bipush (-2), 2) := by decide +kernel
theorem dX9_does_42 : decode cX9_does 42 = .ok (.ireturn, 1) := by decide +kernel
theorem dX9_does_43 : decode cX9_does 43 = .ok (.aload 6, 2) := by decide +kernel
theorem dX9_does_45 : decode cX9_does 45 = .ok (.iload_n 2, 1) := by decide +kernel
theorem dX9_does_46 : decode cX9_does 46 = .ok (.iload_n 3, 1) := by decide +kernel
theorem dX9_does_47 : decode cX9_does 47 = .ok (.iload 4, 2) := by decide +kernel
theorem dX9_does_49 : decode cX9_does 49 = .ok (.iload 5, 2) := by decide +kernel
theorem dX9_does_51 : decode cX9_does 51 = .ok (.invokevirtual 203, 3) := by decide +kernel
theorem dX9_does_54 : decode cX9_does 54 = .ok (.invokestatic 206, 3) := by decide +kernel
theorem dX9_does_57 : decode cX9_does 57 = .ok (.ireturn, 1) := by decide +kernel
theorem dX9_logged_0 : decode cX9_logged 0 = .ok (.aload_n 0, 1) := by decide +kernel
theorem dX9_logged_1 : decode cX9_logged 1 = .ok (.iload_n 1, 1) := by decide +kernel
theorem dX9_logged_2 : decode cX9_logged 2 = .ok (.invokevirtual 60, 3) := by decide +kernel
theorem dX9_logged_5 : decode cX9_logged 5 = .ok (.astore 5, 2) := by decide +kernel
theorem dX9_logged_7 : decode cX9_logged 7 = .ok (.aload 5, 2) := by decide +kernel
theorem dX9_logged_9 : decode cX9_logged 9 = .ok (.ifnonnull 5, 3) := by decide +kernel
theorem dX9_logged_12 : decode cX9_logged 12 = .ok (.iconst (-1), 1) := by decide +kernel
theorem dX9_logged_13 : decode cX9_logged 13 = .ok (.ireturn, 1) := by decide +kernel
theorem dX9_logged_14 : decode cX9_logged 14 = .ok (.iload_n 2, 1) := by decide +kernel
theorem dX9_logged_15 : decode cX9_logged 15 = .ok (.invokestatic 131, 3) := by decide +kernel
theorem dX9_logged_18 : decode cX9_logged 18 = .ok (.ifCond .eq 10, 3) := by decide +kernel
theorem dX9_logged_21 : decode cX9_logged 21 = .ok (.iload_n 3, 1) := by decide +kernel
theorem dX9_logged_22 : decode cX9_logged 22 = .ok (.invokestatic 161, 3) := by decide +kernel
theorem dX9_logged_25 : decode cX9_logged 25 = .ok (.ifCond .ne 6, 3) := by decide +kernel
theorem dX9_logged_28 : decode cX9_logged 28 = .ok (.bipush (-2), 2) := by decide +kernel
theorem dX9_logged_30 : decode cX9_logged 30 = .ok (.ireturn, 1) := by decide +kernel
theorem dX9_logged_31 : decode cX9_logged 31 = .ok (.aload 5, 2) := by decide +kernel
theorem dX9_logged_33 : decode cX9_logged 33 = .ok (.iload_n 2, 1) := by decide +kernel
theorem dX9_logged_34 : decode cX9_logged 34 = .ok (.iload_n 3, 1) := by decide +kernel
theorem dX9_logged_35 : decode cX9_logged 35 = .ok (.iload 4, 2) := by decide +kernel
theorem dX9_logged_37 : decode cX9_logged 37 = .ok (.invokevirtual 209, 3) := by decide +kernel
theorem dX9_logged_40 : decode cX9_logged 40 = .ok (.ireturn, 1) := by decide +kernel
theorem dX9_thumb_0 : decode cX9_thumb 0 = .ok (.aload_n 0, 1) := by decide +kernel
theorem dX9_thumb_1 : decode cX9_thumb 1 = .ok (.iload_n 1, 1) := by decide +kernel
theorem dX9_thumb_2 : decode cX9_thumb 2 = .ok (.invokevirtual 60, 3) := by decide +kernel
theorem dX9_thumb_5 : decode cX9_thumb 5 = .ok (.astore 5, 2) := by decide +kernel
theorem dX9_thumb_7 : decode cX9_thumb 7 = .ok (.aload 5, 2) := by decide +kernel
theorem dX9_thumb_9 : decode cX9_thumb 9 = .ok (.ifnonnull 5, 3) := by decide +kernel
theorem dX9_thumb_12 : decode cX9_thumb 12 = .ok (.iconst (-1), 1) := by decide +kernel
theorem dX9_thumb_13 : decode cX9_thumb 13 = .ok (.ireturn, 1) := by decide +kernel
theorem dX9_thumb_14 : decode cX9_thumb 14 = .ok (.iload_n 2, 1) := by decide +kernel
theorem dX9_thumb_15 : decode cX9_thumb 15 = .ok (.iconst 0, 1) := by decide +kernel
theorem dX9_thumb_16 : decode cX9_thumb 16 = .ok (.iconst 3, 1) := by decide +kernel
theorem dX9_thumb_17 : decode cX9_thumb 17 = .ok (.invokestatic 64, 3) := by decide +kernel
theorem dX9_thumb_20 : decode cX9_thumb 20 = .ok (.ifCond .eq 20, 3) := by decide +kernel
theorem dX9_thumb_23 : decode cX9_thumb 23 = .ok (.iload_n 3, 1) := by decide +kernel
theorem dX9_thumb_24 : decode cX9_thumb 24 = .ok (.invokestatic 131, 3) := by decide +kernel
theorem dX9_thumb_27 : decode cX9_thumb 27 = .ok (.ifCond .eq 13, 3) := by decide +kernel
theorem dX9_thumb_30 : decode cX9_thumb 30 = .ok (.iload 4, 2) := by decide +kernel
theorem dX9_thumb_32 : decode cX9_thumb 32 = .ok (.iconst 0, 1) := by decide +kernel
theorem dX9_thumb_33 : decode cX9_thumb 33 = .ok (.iconst 2, 1) := by decide +kernel
theorem dX9_thumb_34 : decode cX9_thumb 34 = .ok (.invokestatic 64, 3) := by decide +kernel
theorem dX9_thumb_37 : decode cX9_thumb 37 = .ok (.ifCond .ne 6, 3) := by decide +kernel
theorem dX9_thumb_40 : decode cX9_thumb 40 = .ok (.bipush (-2), 2) := by decide +kernel
theorem dX9_thumb_42 : decode cX9_thumb 42 = .ok (.ireturn, 1) := by decide +kernel
theorem dX9_thumb_43 : decode cX9_thumb 43 = .ok (.aload_n 0, 1) := by decide +kernel
theorem dX9_thumb_44 : decode cX9_thumb 44 = .ok (.getfield 56, 3) := by decide +kernel
theorem dX9_thumb_47 : decode cX9_thumb 47 = .ok (.aload 5, 2) := by decide +kernel
theorem dX9_thumb_49 : decode cX9_thumb 49 = .ok (.getfield 68, 3) := by decide +kernel
theorem dX9_thumb_52 : decode cX9_thumb 52 = .ok (.iload_n 3, 1) := by decide +kernel
theorem dX9_thumb_53 : decode cX9_thumb 53 = .ok (.iconst 0, 1) := by decide +kernel
theorem dX9_thumb_54 : decode cX9_thumb 54 = .ok (.invokevirtual 164, 3) := by decide +kernel
theorem dX9_thumb_57 : decode cX9_thumb 57 = .ok (.aload_n 0, 1) := by decide +kernel
theorem dX9_thumb_58 : decode cX9_thumb 58 = .ok (.getfield 56, 3) := by decide +kernel
theorem dX9_thumb_61 : decode cX9_thumb 61 = .ok (.iload_n 2, 1) := by decide +kernel
theorem dX9_thumb_62 : decode cX9_thumb 62 = .ok (.invokevirtual 213, 3) := by decide +kernel
theorem dX9_thumb_65 : decode cX9_thumb 65 = .ok (.iload 4, 2) := by decide +kernel
theorem dX9_thumb_67 : decode cX9_thumb 67 = .ok (.lookupswitch 57 #[(0, 25), (1, 36)], 25) := by decide +kernel
theorem dX9_thumb_92 : decode cX9_thumb 92 = .ok (.aload_n 0, 1) := by decide +kernel
theorem dX9_thumb_93 : decode cX9_thumb 93 = .ok (.getfield 56, 3) := by decide +kernel
theorem dX9_thumb_96 : decode cX9_thumb 96 = .ok (.getfield 172, 3) := by decide +kernel
theorem dX9_thumb_99 : decode cX9_thumb 99 = .ok (.invokevirtual 184, 3) := by decide +kernel
theorem dX9_thumb_102 : decode cX9_thumb 102 = .ok (.ireturn, 1) := by decide +kernel
theorem dX9_thumb_103 : decode cX9_thumb 103 = .ok (.aload 5, 2) := by decide +kernel
theorem dX9_thumb_105 : decode cX9_thumb 105 = .ok (.iconst 0, 1) := by decide +kernel
theorem dX9_thumb_106 : decode cX9_thumb 106 = .ok (.iload_n 3, 1) := by decide +kernel
theorem dX9_thumb_107 : decode cX9_thumb 107 = .ok (.iconst 0, 1) := by decide +kernel
theorem dX9_thumb_108 : decode cX9_thumb 108 = .ok (.iconst 4, 1) := by decide +kernel
theorem dX9_thumb_109 : decode cX9_thumb 109 = .ok (.invokevirtual 199, 3) := by decide +kernel
theorem dX9_thumb_112 : decode cX9_thumb 112 = .ok (.aload_n 0, 1) := by decide +kernel
theorem dX9_thumb_113 : decode cX9_thumb 113 = .ok (.getfield 56, 3) := by decide +kernel
theorem dX9_thumb_116 : decode cX9_thumb 116 = .ok (.getfield 172, 3) := by decide +kernel
theorem dX9_thumb_119 : decode cX9_thumb 119 = .ok (.invokevirtual 184, 3) := by decide +kernel
theorem dX9_thumb_122 : decode cX9_thumb 122 = .ok (.isub, 1) := by decide +kernel
theorem dX9_thumb_123 : decode cX9_thumb 123 = .ok (.ireturn, 1) := by decide +kernel
theorem dX9_thumb_124 : decode cX9_thumb 124 = .ok (.aload_n 0, 1) := by decide +kernel
theorem dX9_thumb_125 : decode cX9_thumb 125 = .ok (.getfield 56, 3) := by decide +kernel
theorem dX9_thumb_128 : decode cX9_thumb 128 = .ok (.getfield 181, 3) := by decide +kernel
theorem dX9_thumb_131 : decode cX9_thumb 131 = .ok (.ireturn, 1) := by decide +kernel
theorem dX9_worth_0 : decode cX9_worth 0 = .ok (.aload_n 0, 1) := by decide +kernel
theorem dX9_worth_1 : decode cX9_worth 1 = .ok (.iload_n 1, 1) := by decide +kernel
theorem dX9_worth_2 : decode cX9_worth 2 = .ok (.invokevirtual 60, 3) := by decide +kernel
theorem dX9_worth_5 : decode cX9_worth 5 = .ok (.astore 5, 2) := by decide +kernel
theorem dX9_worth_7 : decode cX9_worth 7 = .ok (.aload 5, 2) := by decide +kernel
theorem dX9_worth_9 : decode cX9_worth 9 = .ok (.ifnonnull 5, 3) := by decide +kernel
theorem dX9_worth_12 : decode cX9_worth 12 = .ok (.iconst (-1), 1) := by decide +kernel
theorem dX9_worth_13 : decode cX9_worth 13 = .ok (.ireturn, 1) := by decide +kernel
theorem dX9_worth_14 : decode cX9_worth 14 = .ok (.iload_n 2, 1) := by decide +kernel
theorem dX9_worth_15 : decode cX9_worth 15 = .ok (.invokestatic 131, 3) := by decide +kernel
theorem dX9_worth_18 : decode cX9_worth 18 = .ok (.ifCond .eq 23, 3) := by decide +kernel
theorem dX9_worth_21 : decode cX9_worth 21 = .ok (.iload_n 3, 1) := by decide +kernel
theorem dX9_worth_22 : decode cX9_worth 22 = .ok (.invokestatic 161, 3) := by decide +kernel
theorem dX9_worth_25 : decode cX9_worth 25 = .ok (.ifCond .eq 16, 3) := by decide +kernel
theorem dX9_worth_28 : decode cX9_worth 28 = .ok (.iload 4, 2) := by decide +kernel
theorem dX9_worth_30 : decode cX9_worth 30 = .ok (.iconst 0, 1) := by decide +kernel
theorem dX9_worth_31 : decode cX9_worth 31 = .ok (.bipush 24, 2) := by decide +kernel
theorem dX9_worth_33 : decode cX9_worth 33 = .ok (.iload_n 3, 1) := by decide +kernel
theorem dX9_worth_34 : decode cX9_worth 34 = .ok (.isub, 1) := by decide +kernel
theorem dX9_worth_35 : decode cX9_worth 35 = .ok (.invokestatic 64, 3) := by decide +kernel
theorem dX9_worth_38 : decode cX9_worth 38 = .ok (.ifCond .ne 6, 3) := by decide +kernel
theorem dX9_worth_41 : decode cX9_worth 41 = .ok (.bipush (-2), 2) := by decide +kernel
theorem dX9_worth_43 : decode cX9_worth 43 = .ok (.ireturn, 1) := by decide +kernel
theorem dX9_worth_44 : decode cX9_worth 44 = .ok (.aload 5, 2) := by decide +kernel
theorem dX9_worth_46 : decode cX9_worth 46 = .ok (.iconst 0, 1) := by decide +kernel
theorem dX9_worth_47 : decode cX9_worth 47 = .ok (.iload_n 2, 1) := by decide +kernel
theorem dX9_worth_48 : decode cX9_worth 48 = .ok (.iload_n 3, 1) := by decide +kernel
theorem dX9_worth_49 : decode cX9_worth 49 = .ok (.iload 4, 2) := by decide +kernel
theorem dX9_worth_51 : decode cX9_worth 51 = .ok (.iadd, 1) := by decide +kernel
theorem dX9_worth_52 : decode cX9_worth 52 = .ok (.iconst 4, 1) := by decide +kernel
theorem dX9_worth_53 : decode cX9_worth 53 = .ok (.invokevirtual 199, 3) := by decide +kernel
theorem dX9_worth_56 : decode cX9_worth 56 = .ok (.aload 5, 2) := by decide +kernel
theorem dX9_worth_58 : decode cX9_worth 58 = .ok (.iconst 0, 1) := by decide +kernel
theorem dX9_worth_59 : decode cX9_worth 59 = .ok (.iload_n 2, 1) := by decide +kernel
theorem dX9_worth_60 : decode cX9_worth 60 = .ok (.iload_n 3, 1) := by decide +kernel
theorem dX9_worth_61 : decode cX9_worth 61 = .ok (.iconst 4, 1) := by decide +kernel
theorem dX9_worth_62 : decode cX9_worth 62 = .ok (.invokevirtual 199, 3) := by decide +kernel
theorem dX9_worth_65 : decode cX9_worth 65 = .ok (.isub, 1) := by decide +kernel
theorem dX9_worth_66 : decode cX9_worth 66 = .ok (.ireturn, 1) := by decide +kernel
theorem dX9_round_0 : decode cX9_round 0 = .ok (.iload_n 1, 1) := by decide +kernel
theorem dX9_round_1 : decode cX9_round 1 = .ok (.invokestatic 131, 3) := by decide +kernel
theorem dX9_round_4 : decode cX9_round 4 = .ok (.ifCond .eq 10, 3) := by decide +kernel
theorem dX9_round_7 : decode cX9_round 7 = .ok (.iload_n 2, 1) := by decide +kernel
theorem dX9_round_8 : decode cX9_round 8 = .ok (.invokestatic 161, 3) := by decide +kernel
theorem dX9_round_11 : decode cX9_round 11 = .ok (.ifCond .ne 6, 3) := by decide +kernel
theorem dX9_round_14 : decode cX9_round 14 = .ok (.bipush (-2), 2) := by decide +kernel
theorem dX9_round_16 : decode cX9_round 16 = .ok (.ireturn, 1) := by decide +kernel
theorem dX9_round_17 : decode cX9_round 17 = .ok (.aload_n 0, 1) := by decide +kernel
theorem dX9_round_18 : decode cX9_round 18 = .ok (.getfield 26, 3) := by decide +kernel
theorem dX9_round_21 : decode cX9_round 21 = .ok (.iconst 0, 1) := by decide +kernel
theorem dX9_round_22 : decode cX9_round 22 = .ok (.aaload, 1) := by decide +kernel
theorem dX9_round_23 : decode cX9_round 23 = .ok (.iconst 0, 1) := by decide +kernel
theorem dX9_round_24 : decode cX9_round 24 = .ok (.iload_n 1, 1) := by decide +kernel
theorem dX9_round_25 : decode cX9_round 25 = .ok (.iload_n 2, 1) := by decide +kernel
theorem dX9_round_26 : decode cX9_round 26 = .ok (.iconst 4, 1) := by decide +kernel
theorem dX9_round_27 : decode cX9_round 27 = .ok (.invokevirtual 199, 3) := by decide +kernel
theorem dX9_round_30 : decode cX9_round 30 = .ok (.istore_n 3, 1) := by decide +kernel
theorem dX9_round_31 : decode cX9_round 31 = .ok (.aload_n 0, 1) := by decide +kernel
theorem dX9_round_32 : decode cX9_round 32 = .ok (.getfield 26, 3) := by decide +kernel
theorem dX9_round_35 : decode cX9_round 35 = .ok (.iconst 1, 1) := by decide +kernel
theorem dX9_round_36 : decode cX9_round 36 = .ok (.aaload, 1) := by decide +kernel
theorem dX9_round_37 : decode cX9_round 37 = .ok (.iconst 0, 1) := by decide +kernel
theorem dX9_round_38 : decode cX9_round 38 = .ok (.iload_n 1, 1) := by decide +kernel
theorem dX9_round_39 : decode cX9_round 39 = .ok (.iload_n 2, 1) := by decide +kernel
theorem dX9_round_40 : decode cX9_round 40 = .ok (.iconst 4, 1) := by decide +kernel
theorem dX9_round_41 : decode cX9_round 41 = .ok (.invokevirtual 199, 3) := by decide +kernel
theorem dX9_round_44 : decode cX9_round 44 = .ok (.istore 4, 2) := by decide +kernel
theorem dX9_round_46 : decode cX9_round 46 = .ok (.iload 4, 2) := by decide +kernel
theorem dX9_round_48 : decode cX9_round 48 = .ok (.iload_n 3, 1) := by decide +kernel
theorem dX9_round_49 : decode cX9_round 49 = .ok (.if_icmp .le 7, 3) := by decide +kernel
theorem dX9_round_52 : decode cX9_round 52 = .ok (.iconst 1, 1) := by decide +kernel
theorem dX9_round_53 : decode cX9_round 53 = .ok (.goto 4, 3) := by decide +kernel
theorem dX9_round_56 : decode cX9_round 56 = .ok (.iconst 0, 1) := by decide +kernel
theorem dX9_round_57 : decode cX9_round 57 = .ok (.ireturn, 1) := by decide +kernel
theorem dX9_soonest_0 : decode cX9_soonest 0 = .ok (.aload_n 0, 1) := by decide +kernel
theorem dX9_soonest_1 : decode cX9_soonest 1 = .ok (.iload_n 1, 1) := by decide +kernel
theorem dX9_soonest_2 : decode cX9_soonest 2 = .ok (.invokevirtual 60, 3) := by decide +kernel
theorem dX9_soonest_5 : decode cX9_soonest 5 = .ok (.astore 5, 2) := by decide +kernel
theorem dX9_soonest_7 : decode cX9_soonest 7 = .ok (.aload 5, 2) := by decide +kernel
theorem dX9_soonest_9 : decode cX9_soonest 9 = .ok (.ifnonnull 5, 3) := by decide +kernel
theorem dX9_soonest_12 : decode cX9_soonest 12 = .ok (.iconst (-1), 1) := by decide +kernel
theorem dX9_soonest_13 : decode cX9_soonest 13 = .ok (.ireturn, 1) := by decide +kernel
theorem dX9_soonest_14 : decode cX9_soonest 14 = .ok (.iload_n 2, 1) := by decide +kernel
theorem dX9_soonest_15 : decode cX9_soonest 15 = .ok (.invokestatic 131, 3) := by decide +kernel
theorem dX9_soonest_18 : decode cX9_soonest 18 = .ok (.ifCond .eq 21, 3) := by decide +kernel
theorem dX9_soonest_21 : decode cX9_soonest 21 = .ok (.iload_n 3, 1) := by decide +kernel
theorem dX9_soonest_22 : decode cX9_soonest 22 = .ok (.invokestatic 161, 3) := by decide +kernel
theorem dX9_soonest_25 : decode cX9_soonest 25 = .ok (.ifCond .eq 14, 3) := by decide +kernel
theorem dX9_soonest_28 : decode cX9_soonest 28 = .ok (.iload 4, 2) := by decide +kernel
theorem dX9_soonest_30 : decode cX9_soonest 30 = .ok (.iconst 0, 1) := by decide +kernel
theorem dX9_soonest_31 : decode cX9_soonest 31 = .ok (.ldc 217, 2) := by decide +kernel
theorem dX9_soonest_33 : decode cX9_soonest 33 = .ok (.invokestatic 64, 3) := by decide +kernel
theorem dX9_soonest_36 : decode cX9_soonest 36 = .ok (.ifCond .ne 6, 3) := by decide +kernel
theorem dX9_soonest_39 : decode cX9_soonest 39 = .ok (.bipush (-2), 2) := by decide +kernel
theorem dX9_soonest_41 : decode cX9_soonest 41 = .ok (.ireturn, 1) := by decide +kernel
theorem dX9_soonest_42 : decode cX9_soonest 42 = .ok (.iconst 0, 1) := by decide +kernel
theorem dX9_soonest_43 : decode cX9_soonest 43 = .ok (.istore 6, 2) := by decide +kernel
theorem dX9_soonest_45 : decode cX9_soonest 45 = .ok (.iload 6, 2) := by decide +kernel
theorem dX9_soonest_47 : decode cX9_soonest 47 = .ok (.iconst 4, 1) := by decide +kernel
theorem dX9_soonest_48 : decode cX9_soonest 48 = .ok (.if_icmp .gt 36, 3) := by decide +kernel
theorem dX9_soonest_51 : decode cX9_soonest 51 = .ok (.aload 5, 2) := by decide +kernel
theorem dX9_soonest_53 : decode cX9_soonest 53 = .ok (.iconst 0, 1) := by decide +kernel
theorem dX9_soonest_54 : decode cX9_soonest 54 = .ok (.iload_n 2, 1) := by decide +kernel
theorem dX9_soonest_55 : decode cX9_soonest 55 = .ok (.iload_n 3, 1) := by decide +kernel
theorem dX9_soonest_56 : decode cX9_soonest 56 = .ok (.iload 6, 2) := by decide +kernel
theorem dX9_soonest_58 : decode cX9_soonest 58 = .ok (.invokevirtual 199, 3) := by decide +kernel
theorem dX9_soonest_61 : decode cX9_soonest 61 = .ok (.iload 4, 2) := by decide +kernel
theorem dX9_soonest_63 : decode cX9_soonest 63 = .ok (.if_icmp .lt 15, 3) := by decide +kernel
theorem dX9_soonest_66 : decode cX9_soonest 66 = .ok (.aload 5, 2) := by decide +kernel
theorem dX9_soonest_68 : decode cX9_soonest 68 = .ok (.getfield 68, 3) := by decide +kernel
theorem dX9_soonest_71 : decode cX9_soonest 71 = .ok (.getfield 85, 3) := by decide +kernel
theorem dX9_soonest_74 : decode cX9_soonest 74 = .ok (.iload 6, 2) := by decide +kernel
theorem dX9_soonest_76 : decode cX9_soonest 76 = .ok (.iadd, 1) := by decide +kernel
theorem dX9_soonest_77 : decode cX9_soonest 77 = .ok (.ireturn, 1) := by decide +kernel
theorem dX9_soonest_78 : decode cX9_soonest 78 = .ok (.iinc 6 1, 3) := by decide +kernel
theorem dX9_soonest_81 : decode cX9_soonest 81 = .ok (.goto (-36), 3) := by decide +kernel
theorem dX9_soonest_84 : decode cX9_soonest 84 = .ok (.bipush (-6), 2) := by decide +kernel
theorem dX9_soonest_86 : decode cX9_soonest 86 = .ok (.ireturn, 1) := by decide +kernel
theorem dX9_two_0 : decode cX9_two 0 = .ok (.aload_n 0, 1) := by decide +kernel
theorem dX9_two_1 : decode cX9_two 1 = .ok (.iload_n 1, 1) := by decide +kernel
theorem dX9_two_2 : decode cX9_two 2 = .ok (.invokevirtual 95, 3) := by decide +kernel
theorem dX9_two_5 : decode cX9_two 5 = .ok (.astore 4, 2) := by decide +kernel
theorem dX9_two_7 : decode cX9_two 7 = .ok (.aload 4, 2) := by decide +kernel
theorem dX9_two_9 : decode cX9_two 9 = .ok (.ifnonnull 5, 3) := by decide +kernel
theorem dX9_two_12 : decode cX9_two 12 = .ok (.iconst (-1), 1) := by decide +kernel
theorem dX9_two_13 : decode cX9_two 13 = .ok (.ireturn, 1) := by decide +kernel
theorem dX9_two_14 : decode cX9_two 14 = .ok (.iload_n 2, 1) := by decide +kernel
theorem dX9_two_15 : decode cX9_two 15 = .ok (.invokestatic 131, 3) := by decide +kernel
theorem dX9_two_18 : decode cX9_two 18 = .ok (.ifCond .eq 13, 3) := by decide +kernel
theorem dX9_two_21 : decode cX9_two 21 = .ok (.iload_n 3, 1) := by decide +kernel
theorem dX9_two_22 : decode cX9_two 22 = .ok (.iconst 1, 1) := by decide +kernel
theorem dX9_two_23 : decode cX9_two 23 = .ok (.bipush 6, 2) := by decide +kernel
theorem dX9_two_25 : decode cX9_two 25 = .ok (.invokestatic 64, 3) := by decide +kernel
theorem dX9_two_28 : decode cX9_two 28 = .ok (.ifCond .ne 6, 3) := by decide +kernel
theorem dX9_two_31 : decode cX9_two 31 = .ok (.bipush (-2), 2) := by decide +kernel
theorem dX9_two_33 : decode cX9_two 33 = .ok (.ireturn, 1) := by decide +kernel
theorem dX9_two_34 : decode cX9_two 34 = .ok (.aload_n 0, 1) := by decide +kernel
theorem dX9_two_35 : decode cX9_two 35 = .ok (.getfield 56, 3) := by decide +kernel
theorem dX9_two_38 : decode cX9_two 38 = .ok (.aload 4, 2) := by decide +kernel
theorem dX9_two_40 : decode cX9_two 40 = .ok (.iload_n 2, 1) := by decide +kernel
theorem dX9_two_41 : decode cX9_two 41 = .ok (.iload_n 3, 1) := by decide +kernel
theorem dX9_two_42 : decode cX9_two 42 = .ok (.invokevirtual 218, 3) := by decide +kernel
theorem dX9_two_45 : decode cX9_two 45 = .ok (.ireturn, 1) := by decide +kernel
theorem dX9_share_0 : decode cX9_share 0 = .ok (.aload_n 0, 1) := by decide +kernel
theorem dX9_share_1 : decode cX9_share 1 = .ok (.iload_n 1, 1) := by decide +kernel
theorem dX9_share_2 : decode cX9_share 2 = .ok (.invokevirtual 95, 3) := by decide +kernel
theorem dX9_share_5 : decode cX9_share 5 = .ok (.astore_n 3, 1) := by decide +kernel
theorem dX9_share_6 : decode cX9_share 6 = .ok (.aload_n 3, 1) := by decide +kernel
theorem dX9_share_7 : decode cX9_share 7 = .ok (.ifnonnull 5, 3) := by decide +kernel
theorem dX9_share_10 : decode cX9_share 10 = .ok (.iconst (-1), 1) := by decide +kernel
theorem dX9_share_11 : decode cX9_share 11 = .ok (.ireturn, 1) := by decide +kernel
theorem dX9_share_12 : decode cX9_share 12 = .ok (.iload_n 2, 1) := by decide +kernel
theorem dX9_share_13 : decode cX9_share 13 = .ok (.invokestatic 131, 3) := by decide +kernel
theorem dX9_share_16 : decode cX9_share 16 = .ok (.ifCond .ne 6, 3) := by decide +kernel
theorem dX9_share_19 : decode cX9_share 19 = .ok (.bipush (-2), 2) := by decide +kernel
theorem dX9_share_21 : decode cX9_share 21 = .ok (.ireturn, 1) := by decide +kernel
theorem dX9_share_22 : decode cX9_share 22 = .ok (.iconst 1, 1) := by decide +kernel
theorem dX9_share_23 : decode cX9_share 23 = .ok (.istore 4, 2) := by decide +kernel
theorem dX9_share_25 : decode cX9_share 25 = .ok (.aload_n 0, 1) := by decide +kernel
theorem dX9_share_26 : decode cX9_share 26 = .ok (.getfield 56, 3) := by decide +kernel
theorem dX9_share_29 : decode cX9_share 29 = .ok (.aload_n 3, 1) := by decide +kernel
theorem dX9_share_30 : decode cX9_share 30 = .ok (.iload_n 2, 1) := by decide +kernel
theorem dX9_share_31 : decode cX9_share 31 = .ok (.iconst 1, 1) := by decide +kernel
theorem dX9_share_32 : decode cX9_share 32 = .ok (.invokevirtual 218, 3) := by decide +kernel
theorem dX9_share_35 : decode cX9_share 35 = .ok (.istore 5, 2) := by decide +kernel
theorem dX9_share_37 : decode cX9_share 37 = .ok (.iconst 2, 1) := by decide +kernel
theorem dX9_share_38 : decode cX9_share 38 = .ok (.istore 6, 2) := by decide +kernel
theorem dX9_share_40 : decode cX9_share 40 = .ok (.iload 6, 2) := by decide +kernel
theorem dX9_share_42 : decode cX9_share 42 = .ok (.bipush 6, 2) := by decide +kernel
theorem dX9_share_44 : decode cX9_share 44 = .ok (.if_icmp .gt 37, 3) := by decide +kernel
theorem dX9_share_47 : decode cX9_share 47 = .ok (.aload_n 0, 1) := by decide +kernel
theorem dX9_share_48 : decode cX9_share 48 = .ok (.getfield 56, 3) := by decide +kernel
theorem dX9_share_51 : decode cX9_share 51 = .ok (.aload_n 3, 1) := by decide +kernel
theorem dX9_share_52 : decode cX9_share 52 = .ok (.iload_n 2, 1) := by decide +kernel
theorem dX9_share_53 : decode cX9_share 53 = .ok (.iload 6, 2) := by decide +kernel
theorem dX9_share_55 : decode cX9_share 55 = .ok (.invokevirtual 218, 3) := by decide +kernel
theorem dX9_share_58 : decode cX9_share 58 = .ok (.istore 7, 2) := by decide +kernel
theorem dX9_share_60 : decode cX9_share 60 = .ok (.iload 7, 2) := by decide +kernel
theorem dX9_share_62 : decode cX9_share 62 = .ok (.iload 5, 2) := by decide +kernel
theorem dX9_share_64 : decode cX9_share 64 = .ok (.if_icmp .le 11, 3) := by decide +kernel
theorem dX9_share_67 : decode cX9_share 67 = .ok (.iload 7, 2) := by decide +kernel
theorem dX9_share_69 : decode cX9_share 69 = .ok (.istore 5, 2) := by decide +kernel
theorem dX9_share_71 : decode cX9_share 71 = .ok (.iload 6, 2) := by decide +kernel
theorem dX9_share_73 : decode cX9_share 73 = .ok (.istore 4, 2) := by decide +kernel
theorem dX9_share_75 : decode cX9_share 75 = .ok (.iinc 6 1, 3) := by decide +kernel
theorem dX9_share_78 : decode cX9_share 78 = .ok (.goto (-38), 3) := by decide +kernel
theorem dX9_share_81 : decode cX9_share 81 = .ok (.iload 4, 2) := by decide +kernel
theorem dX9_share_83 : decode cX9_share 83 = .ok (.ireturn, 1) := by decide +kernel
theorem dX9_up_0 : decode cX9_up 0 = .ok (.iload_n 1, 1) := by decide +kernel
theorem dX9_up_1 : decode cX9_up 1 = .ok (.iconst 0, 1) := by decide +kernel
theorem dX9_up_2 : decode cX9_up 2 = .ok (.sipush 1000, 3) := by decide +kernel
theorem dX9_up_5 : decode cX9_up 5 = .ok (.invokestatic 64, 3) := by decide +kernel
theorem dX9_up_8 : decode cX9_up 8 = .ok (.ifCond .eq 21, 3) := by decide +kernel
theorem dX9_up_11 : decode cX9_up 11 = .ok (.iload_n 2, 1) := by decide +kernel
theorem dX9_up_12 : decode cX9_up 12 = .ok (.iconst 0, 1) := by decide +kernel
theorem dX9_up_13 : decode cX9_up 13 = .ok (.sipush 10000, 3) := by decide +kernel
theorem dX9_up_16 : decode cX9_up 16 = .ok (.invokestatic 64, 3) := by decide +kernel
theorem dX9_up_19 : decode cX9_up 19 = .ok (.ifCond .eq 10, 3) := by decide +kernel
theorem dX9_up_22 : decode cX9_up 22 = .ok (.iload_n 3, 1) := by decide +kernel
theorem dX9_up_23 : decode cX9_up 23 = .ok (.invokestatic 131, 3) := by decide +kernel
theorem dX9_up_26 : decode cX9_up 26 = .ok (.ifCond .ne 6, 3) := by decide +kernel
theorem dX9_up_29 : decode cX9_up 29 = .ok (.bipush (-2), 2) := by decide +kernel
theorem dX9_up_31 : decode cX9_up 31 = .ok (.ireturn, 1) := by decide +kernel
theorem dX9_up_32 : decode cX9_up 32 = .ok (.iload_n 1, 1) := by decide +kernel
theorem dX9_up_33 : decode cX9_up 33 = .ok (.iload_n 2, 1) := by decide +kernel
theorem dX9_up_34 : decode cX9_up 34 = .ok (.iload_n 3, 1) := by decide +kernel
theorem dX9_up_35 : decode cX9_up 35 = .ok (.invokestatic 222, 3) := by decide +kernel
theorem dX9_up_38 : decode cX9_up 38 = .ok (.ifCond .eq 7, 3) := by decide +kernel
theorem dX9_up_41 : decode cX9_up 41 = .ok (.iconst 1, 1) := by decide +kernel
theorem dX9_up_42 : decode cX9_up 42 = .ok (.goto 4, 3) := by decide +kernel
theorem dX9_up_45 : decode cX9_up 45 = .ok (.iconst 0, 1) := by decide +kernel
theorem dX9_up_46 : decode cX9_up 46 = .ok (.ireturn, 1) := by decide +kernel
theorem dX9_trust_0 : decode cX9_trust 0 = .ok (.iload_n 1, 1) := by decide +kernel
theorem dX9_trust_1 : decode cX9_trust 1 = .ok (.iconst 0, 1) := by decide +kernel
theorem dX9_trust_2 : decode cX9_trust 2 = .ok (.sipush 10000, 3) := by decide +kernel
theorem dX9_trust_5 : decode cX9_trust 5 = .ok (.invokestatic 64, 3) := by decide +kernel
theorem dX9_trust_8 : decode cX9_trust 8 = .ok (.ifCond .eq 10, 3) := by decide +kernel
theorem dX9_trust_11 : decode cX9_trust 11 = .ok (.iload_n 2, 1) := by decide +kernel
theorem dX9_trust_12 : decode cX9_trust 12 = .ok (.invokestatic 131, 3) := by decide +kernel
theorem dX9_trust_15 : decode cX9_trust 15 = .ok (.ifCond .ne 6, 3) := by decide +kernel
theorem dX9_trust_18 : decode cX9_trust 18 = .ok (.bipush (-2), 2) := by decide +kernel
theorem dX9_trust_20 : decode cX9_trust 20 = .ok (.ireturn, 1) := by decide +kernel
theorem dX9_trust_21 : decode cX9_trust 21 = .ok (.iconst 0, 1) := by decide +kernel
theorem dX9_trust_22 : decode cX9_trust 22 = .ok (.istore_n 3, 1) := by decide +kernel
theorem dX9_trust_23 : decode cX9_trust 23 = .ok (.iload_n 3, 1) := by decide +kernel
theorem dX9_trust_24 : decode cX9_trust 24 = .ok (.sipush 1000, 3) := by decide +kernel
theorem dX9_trust_27 : decode cX9_trust 27 = .ok (.if_icmp .gt 20, 3) := by decide +kernel
theorem dX9_trust_30 : decode cX9_trust 30 = .ok (.iload_n 3, 1) := by decide +kernel
theorem dX9_trust_31 : decode cX9_trust 31 = .ok (.iload_n 1, 1) := by decide +kernel
theorem dX9_trust_32 : decode cX9_trust 32 = .ok (.iload_n 2, 1) := by decide +kernel
theorem dX9_trust_33 : decode cX9_trust 33 = .ok (.invokestatic 222, 3) := by decide +kernel
theorem dX9_trust_36 : decode cX9_trust 36 = .ok (.ifCond .eq 5, 3) := by decide +kernel
theorem dX9_trust_39 : decode cX9_trust 39 = .ok (.iload_n 3, 1) := by decide +kernel
theorem dX9_trust_40 : decode cX9_trust 40 = .ok (.ireturn, 1) := by decide +kernel
theorem dX9_trust_41 : decode cX9_trust 41 = .ok (.iinc 3 1, 3) := by decide +kernel
theorem dX9_trust_44 : decode cX9_trust 44 = .ok (.goto (-21), 3) := by decide +kernel
theorem dX9_trust_47 : decode cX9_trust 47 = .ok (.sipush 1001, 3) := by decide +kernel
theorem dX9_trust_50 : decode cX9_trust 50 = .ok (.ireturn, 1) := by decide +kernel
theorem dX9_draw_0 : decode cX9_draw 0 = .ok (.aload_n 0, 1) := by decide +kernel
theorem dX9_draw_1 : decode cX9_draw 1 = .ok (.iload_n 1, 1) := by decide +kernel
theorem dX9_draw_2 : decode cX9_draw 2 = .ok (.invokevirtual 95, 3) := by decide +kernel
theorem dX9_draw_5 : decode cX9_draw 5 = .ok (.astore 5, 2) := by decide +kernel
theorem dX9_draw_7 : decode cX9_draw 7 = .ok (.aload 5, 2) := by decide +kernel
theorem dX9_draw_9 : decode cX9_draw 9 = .ok (.ifnonnull 5, 3) := by decide +kernel
theorem dX9_draw_12 : decode cX9_draw 12 = .ok (.iconst (-1), 1) := by decide +kernel
theorem dX9_draw_13 : decode cX9_draw 13 = .ok (.ireturn, 1) := by decide +kernel
theorem dX9_draw_14 : decode cX9_draw 14 = .ok (.iload_n 2, 1) := by decide +kernel
theorem dX9_draw_15 : decode cX9_draw 15 = .ok (.invokestatic 131, 3) := by decide +kernel
theorem dX9_draw_18 : decode cX9_draw 18 = .ok (.ifCond .eq 22, 3) := by decide +kernel
theorem dX9_draw_21 : decode cX9_draw 21 = .ok (.iload_n 3, 1) := by decide +kernel
theorem dX9_draw_22 : decode cX9_draw 22 = .ok (.invokestatic 161, 3) := by decide +kernel
theorem dX9_draw_25 : decode cX9_draw 25 = .ok (.ifCond .eq 15, 3) := by decide +kernel
theorem dX9_draw_28 : decode cX9_draw 28 = .ok (.iload 4, 2) := by decide +kernel
theorem dX9_draw_30 : decode cX9_draw 30 = .ok (.iconst 0, 1) := by decide +kernel
theorem dX9_draw_31 : decode cX9_draw 31 = .ok (.sipush 9999, 3) := by decide +kernel
theorem dX9_draw_34 : decode cX9_draw 34 = .ok (.invokestatic 64, 3) := by decide +kernel
theorem dX9_draw_37 : decode cX9_draw 37 = .ok (.ifCond .ne 6, 3) := by decide +kernel
theorem dX9_draw_40 : decode cX9_draw 40 = .ok (.bipush (-2), 2) := by decide +kernel
theorem dX9_draw_42 : decode cX9_draw 42 = .ok (.ireturn, 1) := by decide +kernel
theorem dX9_draw_43 : decode cX9_draw 43 = .ok (.aload_n 0, 1) := by decide +kernel
theorem dX9_draw_44 : decode cX9_draw 44 = .ok (.getfield 47, 3) := by decide +kernel
theorem dX9_draw_47 : decode cX9_draw 47 = .ok (.invokevirtual 157, 3) := by decide +kernel
theorem dX9_draw_50 : decode cX9_draw 50 = .ok (.bipush (-6), 2) := by decide +kernel
theorem dX9_draw_52 : decode cX9_draw 52 = .ok (.if_icmp .eq 6, 3) := by decide +kernel
theorem dX9_draw_55 : decode cX9_draw 55 = .ok (.bipush (-5), 2) := by decide +kernel
theorem dX9_draw_57 : decode cX9_draw 57 = .ok (.ireturn, 1) := by decide +kernel
theorem dX9_draw_58 : decode cX9_draw 58 = .ok (.aload_n 0, 1) := by decide +kernel
theorem dX9_draw_59 : decode cX9_draw 59 = .ok (.getfield 56, 3) := by decide +kernel
theorem dX9_draw_62 : decode cX9_draw 62 = .ok (.aload 5, 2) := by decide +kernel
theorem dX9_draw_64 : decode cX9_draw 64 = .ok (.iload_n 2, 1) := by decide +kernel
theorem dX9_draw_65 : decode cX9_draw 65 = .ok (.iload_n 3, 1) := by decide +kernel
theorem dX9_draw_66 : decode cX9_draw 66 = .ok (.invokevirtual 164, 3) := by decide +kernel
theorem dX9_draw_69 : decode cX9_draw 69 = .ok (.aload_n 0, 1) := by decide +kernel
theorem dX9_draw_70 : decode cX9_draw 70 = .ok (.getfield 56, 3) := by decide +kernel
theorem dX9_draw_73 : decode cX9_draw 73 = .ok (.aload_n 0, 1) := by decide +kernel
theorem dX9_draw_74 : decode cX9_draw 74 = .ok (.getfield 47, 3) := by decide +kernel
theorem dX9_draw_77 : decode cX9_draw 77 = .ok (.invokevirtual 168, 3) := by decide +kernel
theorem dX9_draw_80 : decode cX9_draw 80 = .ok (.pop, 1) := by decide +kernel
theorem dX9_draw_81 : decode cX9_draw 81 = .ok (.aload_n 0, 1) := by decide +kernel
theorem dX9_draw_82 : decode cX9_draw 82 = .ok (.getfield 56, 3) := by decide +kernel
theorem dX9_draw_85 : decode cX9_draw 85 = .ok (.getfield 172, 3) := by decide +kernel
theorem dX9_draw_88 : decode cX9_draw 88 = .ok (.iload 4, 2) := by decide +kernel
theorem dX9_draw_90 : decode cX9_draw 90 = .ok (.invokevirtual 225, 3) := by decide +kernel
theorem dX9_draw_93 : decode cX9_draw 93 = .ok (.ireturn, 1) := by decide +kernel
theorem dX9_image_0 : decode cX9_image 0 = .ok (.iload_n 1, 1) := by decide +kernel
theorem dX9_image_1 : decode cX9_image 1 = .ok (.iconst 0, 1) := by decide +kernel
theorem dX9_image_2 : decode cX9_image 2 = .ok (.iconst 1, 1) := by decide +kernel
theorem dX9_image_3 : decode cX9_image 3 = .ok (.invokestatic 64, 3) := by decide +kernel
theorem dX9_image_6 : decode cX9_image 6 = .ok (.ifCond .ne 6, 3) := by decide +kernel
theorem dX9_image_9 : decode cX9_image 9 = .ok (.bipush (-2), 2) := by decide +kernel
theorem dX9_image_11 : decode cX9_image 11 = .ok (.ireturn, 1) := by decide +kernel
theorem dX9_image_12 : decode cX9_image 12 = .ok (.aload_n 0, 1) := by decide +kernel
theorem dX9_image_13 : decode cX9_image 13 = .ok (.getfield 16, 3) := by decide +kernel
theorem dX9_image_16 : decode cX9_image 16 = .ok (.iload_n 1, 1) := by decide +kernel
theorem dX9_image_17 : decode cX9_image 17 = .ok (.aaload, 1) := by decide +kernel
theorem dX9_image_18 : decode cX9_image 18 = .ok (.aload_n 0, 1) := by decide +kernel
theorem dX9_image_19 : decode cX9_image 19 = .ok (.getfield 12, 3) := by decide +kernel
theorem dX9_image_22 : decode cX9_image 22 = .ok (.invokevirtual 228, 3) := by decide +kernel
theorem dX9_image_25 : decode cX9_image 25 = .ok (.aload_n 0, 1) := by decide +kernel
theorem dX9_image_26 : decode cX9_image 26 = .ok (.getfield 20, 3) := by decide +kernel
theorem dX9_image_29 : decode cX9_image 29 = .ok (.iload_n 1, 1) := by decide +kernel
theorem dX9_image_30 : decode cX9_image 30 = .ok (.iconst 1, 1) := by decide +kernel
theorem dX9_image_31 : decode cX9_image 31 = .ok (.bastore, 1) := by decide +kernel
theorem dX9_image_32 : decode cX9_image 32 = .ok (.iconst 1, 1) := by decide +kernel
theorem dX9_image_33 : decode cX9_image 33 = .ok (.ireturn, 1) := by decide +kernel
theorem dX9_restore_0 : decode cX9_restore 0 = .ok (.iload_n 1, 1) := by decide +kernel
theorem dX9_restore_1 : decode cX9_restore 1 = .ok (.iconst 0, 1) := by decide +kernel
theorem dX9_restore_2 : decode cX9_restore 2 = .ok (.iconst 1, 1) := by decide +kernel
theorem dX9_restore_3 : decode cX9_restore 3 = .ok (.invokestatic 64, 3) := by decide +kernel
theorem dX9_restore_6 : decode cX9_restore 6 = .ok (.ifCond .ne 6, 3) := by decide +kernel
theorem dX9_restore_9 : decode cX9_restore 9 = .ok (.bipush (-2), 2) := by decide +kernel
theorem dX9_restore_11 : decode cX9_restore 11 = .ok (.ireturn, 1) := by decide +kernel
theorem dX9_restore_12 : decode cX9_restore 12 = .ok (.aload_n 0, 1) := by decide +kernel
theorem dX9_restore_13 : decode cX9_restore 13 = .ok (.getfield 20, 3) := by decide +kernel
theorem dX9_restore_16 : decode cX9_restore 16 = .ok (.iload_n 1, 1) := by decide +kernel
theorem dX9_restore_17 : decode cX9_restore 17 = .ok (.baload, 1) := by decide +kernel
theorem dX9_restore_18 : decode cX9_restore 18 = .ok (.ifCond .ne 6, 3) := by decide +kernel
theorem dX9_restore_21 : decode cX9_restore 21 = .ok (.bipush (-3), 2) := by decide +kernel
theorem dX9_restore_23 : decode cX9_restore 23 = .ok (.ireturn, 1) := by decide +kernel
theorem dX9_restore_24 : decode cX9_restore 24 = .ok (.aload_n 0, 1) := by decide +kernel
theorem dX9_restore_25 : decode cX9_restore 25 = .ok (.getfield 12, 3) := by decide +kernel
theorem dX9_restore_28 : decode cX9_restore 28 = .ok (.aload_n 0, 1) := by decide +kernel
theorem dX9_restore_29 : decode cX9_restore 29 = .ok (.getfield 16, 3) := by decide +kernel
theorem dX9_restore_32 : decode cX9_restore 32 = .ok (.iload_n 1, 1) := by decide +kernel
theorem dX9_restore_33 : decode cX9_restore 33 = .ok (.aaload, 1) := by decide +kernel
theorem dX9_restore_34 : decode cX9_restore 34 = .ok (.invokevirtual 228, 3) := by decide +kernel
theorem dX9_restore_37 : decode cX9_restore 37 = .ok (.aload_n 0, 1) := by decide +kernel
theorem dX9_restore_38 : decode cX9_restore 38 = .ok (.invokevirtual 125, 3) := by decide +kernel
theorem dX9_restore_41 : decode cX9_restore 41 = .ok (.iconst 1, 1) := by decide +kernel
theorem dX9_restore_42 : decode cX9_restore 42 = .ok (.ireturn, 1) := by decide +kernel
theorem dX9_told_0 : decode cX9_told 0 = .ok (.iload_n 1, 1) := by decide +kernel
theorem dX9_told_1 : decode cX9_told 1 = .ok (.iconst 0, 1) := by decide +kernel
theorem dX9_told_2 : decode cX9_told 2 = .ok (.bipush 10, 2) := by decide +kernel
theorem dX9_told_4 : decode cX9_told 4 = .ok (.invokestatic 64, 3) := by decide +kernel
theorem dX9_told_7 : decode cX9_told 7 = .ok (.ifCond .ne 6, 3) := by decide +kernel
theorem dX9_told_10 : decode cX9_told 10 = .ok (.bipush (-2), 2) := by decide +kernel
theorem dX9_told_12 : decode cX9_told 12 = .ok (.ireturn, 1) := by decide +kernel
theorem dX9_told_13 : decode cX9_told 13 = .ok (.iload_n 1, 1) := by decide +kernel
theorem dX9_told_14 : decode cX9_told 14 = .ok (.ifCond .ne 11, 3) := by decide +kernel
theorem dX9_told_17 : decode cX9_told 17 = .ok (.aload_n 0, 1) := by decide +kernel
theorem dX9_told_18 : decode cX9_told 18 = .ok (.getfield 47, 3) := by decide +kernel
theorem dX9_told_21 : decode cX9_told 21 = .ok (.getfield 154, 3) := by decide +kernel
theorem dX9_told_24 : decode cX9_told 24 = .ok (.ireturn, 1) := by decide +kernel
theorem dX9_told_25 : decode cX9_told 25 = .ok (.iload_n 1, 1) := by decide +kernel
theorem dX9_told_26 : decode cX9_told 26 = .ok (.iconst 2, 1) := by decide +kernel
theorem dX9_told_27 : decode cX9_told 27 = .ok (.if_icmp .gt 18, 3) := by decide +kernel
theorem dX9_told_30 : decode cX9_told 30 = .ok (.aload_n 0, 1) := by decide +kernel
theorem dX9_told_31 : decode cX9_told 31 = .ok (.getfield 12, 3) := by decide +kernel
theorem dX9_told_34 : decode cX9_told 34 = .ok (.getfield 33, 3) := by decide +kernel
theorem dX9_told_37 : decode cX9_told 37 = .ok (.iload_n 1, 1) := by decide +kernel
theorem dX9_told_38 : decode cX9_told 38 = .ok (.iconst 1, 1) := by decide +kernel
theorem dX9_told_39 : decode cX9_told 39 = .ok (.isub, 1) := by decide +kernel
theorem dX9_told_40 : decode cX9_told 40 = .ok (.aaload, 1) := by decide +kernel
theorem dX9_told_41 : decode cX9_told 41 = .ok (.getfield 89, 3) := by decide +kernel
theorem dX9_told_44 : decode cX9_told 44 = .ok (.ireturn, 1) := by decide +kernel
theorem dX9_told_45 : decode cX9_told 45 = .ok (.iload_n 1, 1) := by decide +kernel
theorem dX9_told_46 : decode cX9_told 46 = .ok (.iconst 4, 1) := by decide +kernel
theorem dX9_told_47 : decode cX9_told 47 = .ok (.if_icmp .gt 18, 3) := by decide +kernel
theorem dX9_told_50 : decode cX9_told 50 = .ok (.aload_n 0, 1) := by decide +kernel
theorem dX9_told_51 : decode cX9_told 51 = .ok (.getfield 12, 3) := by decide +kernel
theorem dX9_told_54 : decode cX9_told 54 = .ok (.getfield 33, 3) := by decide +kernel
theorem dX9_told_57 : decode cX9_told 57 = .ok (.iload_n 1, 1) := by decide +kernel
theorem dX9_told_58 : decode cX9_told 58 = .ok (.iconst 3, 1) := by decide +kernel
theorem dX9_told_59 : decode cX9_told 59 = .ok (.isub, 1) := by decide +kernel
theorem dX9_told_60 : decode cX9_told 60 = .ok (.aaload, 1) := by decide +kernel
theorem dX9_told_61 : decode cX9_told 61 = .ok (.getfield 85, 3) := by decide +kernel
theorem dX9_told_64 : decode cX9_told 64 = .ok (.ireturn, 1) := by decide +kernel
theorem dX9_told_65 : decode cX9_told 65 = .ok (.iload_n 1, 1) := by decide +kernel
theorem dX9_told_66 : decode cX9_told 66 = .ok (.bipush 7, 2) := by decide +kernel
theorem dX9_told_68 : decode cX9_told 68 = .ok (.if_icmp .gt 20, 3) := by decide +kernel
theorem dX9_told_71 : decode cX9_told 71 = .ok (.aload_n 0, 1) := by decide +kernel
theorem dX9_told_72 : decode cX9_told 72 = .ok (.getfield 12, 3) := by decide +kernel
theorem dX9_told_75 : decode cX9_told 75 = .ok (.getfield 37, 3) := by decide +kernel
theorem dX9_told_78 : decode cX9_told 78 = .ok (.getfield 232, 3) := by decide +kernel
theorem dX9_told_81 : decode cX9_told 81 = .ok (.iload_n 1, 1) := by decide +kernel
theorem dX9_told_82 : decode cX9_told 82 = .ok (.iconst 4, 1) := by decide +kernel
theorem dX9_told_83 : decode cX9_told 83 = .ok (.isub, 1) := by decide +kernel
theorem dX9_told_84 : decode cX9_told 84 = .ok (.iaload, 1) := by decide +kernel
theorem dX9_told_85 : decode cX9_told 85 = .ok (.goto 18, 3) := by decide +kernel
theorem dX9_told_88 : decode cX9_told 88 = .ok (.aload_n 0, 1) := by decide +kernel
theorem dX9_told_89 : decode cX9_told 89 = .ok (.getfield 12, 3) := by decide +kernel
theorem dX9_told_92 : decode cX9_told 92 = .ok (.getfield 37, 3) := by decide +kernel
theorem dX9_told_95 : decode cX9_told 95 = .ok (.getfield 235, 3) := by decide +kernel
theorem dX9_told_98 : decode cX9_told 98 = .ok (.iload_n 1, 1) := by decide +kernel
theorem dX9_told_99 : decode cX9_told 99 = .ok (.bipush 7, 2) := by decide +kernel
theorem dX9_told_101 : decode cX9_told 101 = .ok (.isub, 1) := by decide +kernel
theorem dX9_told_102 : decode cX9_told 102 = .ok (.iaload, 1) := by decide +kernel
theorem dX9_told_103 : decode cX9_told 103 = .ok (.ireturn, 1) := by decide +kernel
theorem dX9_within_0 : decode cX9_within 0 = .ok (.iload_n 0, 1) := by decide +kernel
theorem dX9_within_1 : decode cX9_within 1 = .ok (.iload_n 1, 1) := by decide +kernel
theorem dX9_within_2 : decode cX9_within 2 = .ok (.if_icmp .lt 12, 3) := by decide +kernel
theorem dX9_within_5 : decode cX9_within 5 = .ok (.iload_n 0, 1) := by decide +kernel
theorem dX9_within_6 : decode cX9_within 6 = .ok (.iload_n 2, 1) := by decide +kernel
theorem dX9_within_7 : decode cX9_within 7 = .ok (.if_icmp .gt 7, 3) := by decide +kernel
theorem dX9_within_10 : decode cX9_within 10 = .ok (.iconst 1, 1) := by decide +kernel
theorem dX9_within_11 : decode cX9_within 11 = .ok (.goto 4, 3) := by decide +kernel
theorem dX9_within_14 : decode cX9_within 14 = .ok (.iconst 0, 1) := by decide +kernel
theorem dX9_within_15 : decode cX9_within 15 = .ok (.ireturn, 1) := by decide +kernel
theorem dX9_isOwed_0 : decode cX9_isOwed 0 = .ok (.iload_n 0, 1) := by decide +kernel
theorem dX9_isOwed_1 : decode cX9_isOwed 1 = .ok (.iconst 0, 1) := by decide +kernel
theorem dX9_isOwed_2 : decode cX9_isOwed 2 = .ok (.bipush 20, 2) := by decide +kernel
theorem dX9_isOwed_4 : decode cX9_isOwed 4 = .ok (.invokestatic 64, 3) := by decide +kernel
theorem dX9_isOwed_7 : decode cX9_isOwed 7 = .ok (.ireturn, 1) := by decide +kernel
theorem dX9_isBattery_0 : decode cX9_isBattery 0 = .ok (.iload_n 0, 1) := by decide +kernel
theorem dX9_isBattery_1 : decode cX9_isBattery 1 = .ok (.iconst 0, 1) := by decide +kernel
theorem dX9_isBattery_2 : decode cX9_isBattery 2 = .ok (.bipush 24, 2) := by decide +kernel
theorem dX9_isBattery_4 : decode cX9_isBattery 4 = .ok (.invokestatic 64, 3) := by decide +kernel
theorem dX9_isBattery_7 : decode cX9_isBattery 7 = .ok (.ireturn, 1) := by decide +kernel
theorem dX9_isThing_0 : decode cX9_isThing 0 = .ok (.iload_n 0, 1) := by decide +kernel
theorem dX9_isThing_1 : decode cX9_isThing 1 = .ok (.iconst 0, 1) := by decide +kernel
theorem dX9_isThing_2 : decode cX9_isThing 2 = .ok (.iconst 4, 1) := by decide +kernel
theorem dX9_isThing_3 : decode cX9_isThing 3 = .ok (.invokestatic 64, 3) := by decide +kernel
theorem dX9_isThing_6 : decode cX9_isThing 6 = .ok (.ireturn, 1) := by decide +kernel
theorem dX9_wayOf_0 : decode cX9_wayOf 0 = .ok (.iload_n 1, 1) := by decide +kernel
theorem dX9_wayOf_1 : decode cX9_wayOf 1 = .ok (.iconst 0, 1) := by decide +kernel
theorem dX9_wayOf_2 : decode cX9_wayOf 2 = .ok (.iconst 1, 1) := by decide +kernel
theorem dX9_wayOf_3 : decode cX9_wayOf 3 = .ok (.invokestatic 64, 3) := by decide +kernel
theorem dX9_wayOf_6 : decode cX9_wayOf 6 = .ok (.ifCond .eq 15, 3) := by decide +kernel
theorem dX9_wayOf_9 : decode cX9_wayOf 9 = .ok (.aload_n 0, 1) := by decide +kernel
theorem dX9_wayOf_10 : decode cX9_wayOf 10 = .ok (.getfield 12, 3) := by decide +kernel
theorem dX9_wayOf_13 : decode cX9_wayOf 13 = .ok (.getfield 33, 3) := by decide +kernel
theorem dX9_wayOf_16 : decode cX9_wayOf 16 = .ok (.iload_n 1, 1) := by decide +kernel
theorem dX9_wayOf_17 : decode cX9_wayOf 17 = .ok (.aaload, 1) := by decide +kernel
theorem dX9_wayOf_18 : decode cX9_wayOf 18 = .ok (.goto 4, 3) := by decide +kernel
theorem dX9_wayOf_21 : decode cX9_wayOf 21 = .ok (.aconst_null, 1) := by decide +kernel
theorem dX9_wayOf_22 : decode cX9_wayOf 22 = .ok (.areturn, 1) := by decide +kernel
theorem dX9_planOf_0 : decode cX9_planOf 0 = .ok (.iload_n 1, 1) := by decide +kernel
theorem dX9_planOf_1 : decode cX9_planOf 1 = .ok (.iconst 0, 1) := by decide +kernel
theorem dX9_planOf_2 : decode cX9_planOf 2 = .ok (.iconst 1, 1) := by decide +kernel
theorem dX9_planOf_3 : decode cX9_planOf 3 = .ok (.invokestatic 64, 3) := by decide +kernel
theorem dX9_planOf_6 : decode cX9_planOf 6 = .ok (.ifCond .eq 12, 3) := by decide +kernel
theorem dX9_planOf_9 : decode cX9_planOf 9 = .ok (.aload_n 0, 1) := by decide +kernel
theorem dX9_planOf_10 : decode cX9_planOf 10 = .ok (.getfield 26, 3) := by decide +kernel
theorem dX9_planOf_13 : decode cX9_planOf 13 = .ok (.iload_n 1, 1) := by decide +kernel
theorem dX9_planOf_14 : decode cX9_planOf 14 = .ok (.aaload, 1) := by decide +kernel
theorem dX9_planOf_15 : decode cX9_planOf 15 = .ok (.goto 4, 3) := by decide +kernel
theorem dX9_planOf_18 : decode cX9_planOf 18 = .ok (.aconst_null, 1) := by decide +kernel
theorem dX9_planOf_19 : decode cX9_planOf 19 = .ok (.areturn, 1) := by decide +kernel
theorem dX9_forgetPlans_0 : decode cX9_forgetPlans 0 = .ok (.iconst 0, 1) := by decide +kernel
theorem dX9_forgetPlans_1 : decode cX9_forgetPlans 1 = .ok (.istore_n 1, 1) := by decide +kernel
theorem dX9_forgetPlans_2 : decode cX9_forgetPlans 2 = .ok (.iload_n 1, 1) := by decide +kernel
theorem dX9_forgetPlans_3 : decode cX9_forgetPlans 3 = .ok (.iconst 2, 1) := by decide +kernel
theorem dX9_forgetPlans_4 : decode cX9_forgetPlans 4 = .ok (.if_icmp .ge 18, 3) := by decide +kernel
theorem dX9_forgetPlans_7 : decode cX9_forgetPlans 7 = .ok (.aload_n 0, 1) := by decide +kernel
theorem dX9_forgetPlans_8 : decode cX9_forgetPlans 8 = .ok (.getfield 26, 3) := by decide +kernel
theorem dX9_forgetPlans_11 : decode cX9_forgetPlans 11 = .ok (.iload_n 1, 1) := by decide +kernel
theorem dX9_forgetPlans_12 : decode cX9_forgetPlans 12 = .ok (.aaload, 1) := by decide +kernel
theorem dX9_forgetPlans_13 : decode cX9_forgetPlans 13 = .ok (.invokevirtual 82, 3) := by decide +kernel
theorem dX9_forgetPlans_16 : decode cX9_forgetPlans 16 = .ok (.iinc 1 1, 3) := by decide +kernel
theorem dX9_forgetPlans_19 : decode cX9_forgetPlans 19 = .ok (.goto (-17), 3) := by decide +kernel
theorem dX9_forgetPlans_22 : decode cX9_forgetPlans 22 = .ok (.return_, 1) := by decide +kernel
theorem dX9_getsUp_0 : decode cX9_getsUp 0 = .ok (.sipush 1000, 3) := by decide +kernel
theorem dX9_getsUp_3 : decode cX9_getsUp 3 = .ok (.iconst 1, 1) := by decide +kernel
theorem dX9_getsUp_4 : decode cX9_getsUp 4 = .ok (.bipush 10, 2) := by decide +kernel
theorem dX9_getsUp_6 : decode cX9_getsUp 6 = .ok (.iload_n 2, 1) := by decide +kernel
theorem dX9_getsUp_7 : decode cX9_getsUp 7 = .ok (.imul, 1) := by decide +kernel
theorem dX9_getsUp_8 : decode cX9_getsUp 8 = .ok (.iadd, 1) := by decide +kernel
theorem dX9_getsUp_9 : decode cX9_getsUp 9 = .ok (.imul, 1) := by decide +kernel
theorem dX9_getsUp_10 : decode cX9_getsUp 10 = .ok (.iload_n 0, 1) := by decide +kernel
theorem dX9_getsUp_11 : decode cX9_getsUp 11 = .ok (.iload_n 1, 1) := by decide +kernel
theorem dX9_getsUp_12 : decode cX9_getsUp 12 = .ok (.imul, 1) := by decide +kernel
theorem dX9_getsUp_13 : decode cX9_getsUp 13 = .ok (.if_icmp .gt 7, 3) := by decide +kernel
theorem dX9_getsUp_16 : decode cX9_getsUp 16 = .ok (.iconst 1, 1) := by decide +kernel
theorem dX9_getsUp_17 : decode cX9_getsUp 17 = .ok (.goto 4, 3) := by decide +kernel
theorem dX9_getsUp_20 : decode cX9_getsUp 20 = .ok (.iconst 0, 1) := by decide +kernel
theorem dX9_getsUp_21 : decode cX9_getsUp 21 = .ok (.ireturn, 1) := by decide +kernel
theorem dX9_isNight_0 : decode cX9_isNight 0 = .ok (.iload_n 0, 1) := by decide +kernel
theorem dX9_isNight_1 : decode cX9_isNight 1 = .ok (.bipush 24, 2) := by decide +kernel
theorem dX9_isNight_3 : decode cX9_isNight 3 = .ok (.irem, 1) := by decide +kernel
theorem dX9_isNight_4 : decode cX9_isNight 4 = .ok (.bipush 12, 2) := by decide +kernel
theorem dX9_isNight_6 : decode cX9_isNight 6 = .ok (.if_icmp .lt 7, 3) := by decide +kernel
theorem dX9_isNight_9 : decode cX9_isNight 9 = .ok (.iconst 1, 1) := by decide +kernel
theorem dX9_isNight_10 : decode cX9_isNight 10 = .ok (.goto 4, 3) := by decide +kernel
theorem dX9_isNight_13 : decode cX9_isNight 13 = .ok (.iconst 0, 1) := by decide +kernel
theorem dX9_isNight_14 : decode cX9_isNight 14 = .ok (.ireturn, 1) := by decide +kernel
theorem dX9_hoursOf_0 : decode cX9_hoursOf 0 = .ok (.iload_n 0, 1) := by decide +kernel
theorem dX9_hoursOf_1 : decode cX9_hoursOf 1 = .ok (.iconst 4, 1) := by decide +kernel
theorem dX9_hoursOf_2 : decode cX9_hoursOf 2 = .ok (.if_icmp .ne 5, 3) := by decide +kernel
theorem dX9_hoursOf_5 : decode cX9_hoursOf 5 = .ok (.iconst 0, 1) := by decide +kernel
theorem dX9_hoursOf_6 : decode cX9_hoursOf 6 = .ok (.ireturn, 1) := by decide +kernel
theorem dX9_hoursOf_7 : decode cX9_hoursOf 7 = .ok (.iload_n 0, 1) := by decide +kernel
theorem dX9_hoursOf_8 : decode cX9_hoursOf 8 = .ok (.iconst 3, 1) := by decide +kernel
theorem dX9_hoursOf_9 : decode cX9_hoursOf 9 = .ok (.if_icmp .ne 7, 3) := by decide +kernel
theorem dX9_hoursOf_12 : decode cX9_hoursOf 12 = .ok (.iconst 2, 1) := by decide +kernel
theorem dX9_hoursOf_13 : decode cX9_hoursOf 13 = .ok (.goto 4, 3) := by decide +kernel
theorem dX9_hoursOf_16 : decode cX9_hoursOf 16 = .ok (.iconst 1, 1) := by decide +kernel
theorem dX9_hoursOf_17 : decode cX9_hoursOf 17 = .ok (.ireturn, 1) := by decide +kernel
theorem dX9_batteryOf_0 : decode cX9_batteryOf 0 = .ok (.iload_n 0, 1) := by decide +kernel
theorem dX9_batteryOf_1 : decode cX9_batteryOf 1 = .ok (.iconst 2, 1) := by decide +kernel
theorem dX9_batteryOf_2 : decode cX9_batteryOf 2 = .ok (.irem, 1) := by decide +kernel
theorem dX9_batteryOf_3 : decode cX9_batteryOf 3 = .ok (.ifCond .ne 5, 3) := by decide +kernel
theorem dX9_batteryOf_6 : decode cX9_batteryOf 6 = .ok (.iconst 0, 1) := by decide +kernel
theorem dX9_batteryOf_7 : decode cX9_batteryOf 7 = .ok (.ireturn, 1) := by decide +kernel
theorem dX9_batteryOf_8 : decode cX9_batteryOf 8 = .ok (.iload_n 0, 1) := by decide +kernel
theorem dX9_batteryOf_9 : decode cX9_batteryOf 9 = .ok (.iconst 2, 1) := by decide +kernel
theorem dX9_batteryOf_10 : decode cX9_batteryOf 10 = .ok (.idiv, 1) := by decide +kernel
theorem dX9_batteryOf_11 : decode cX9_batteryOf 11 = .ok (.iconst 3, 1) := by decide +kernel
theorem dX9_batteryOf_12 : decode cX9_batteryOf 12 = .ok (.if_icmp .ne 7, 3) := by decide +kernel
theorem dX9_batteryOf_15 : decode cX9_batteryOf 15 = .ok (.iconst 2, 1) := by decide +kernel
theorem dX9_batteryOf_16 : decode cX9_batteryOf 16 = .ok (.goto 4, 3) := by decide +kernel
theorem dX9_batteryOf_19 : decode cX9_batteryOf 19 = .ok (.iconst 1, 1) := by decide +kernel
theorem dX9_batteryOf_20 : decode cX9_batteryOf 20 = .ok (.ireturn, 1) := by decide +kernel
theorem dX9_codeOf_0 : decode cX9_codeOf 0 = .ok (.iload_n 0, 1) := by decide +kernel
theorem dX9_codeOf_1 : decode cX9_codeOf 1 = .ok (.ifCond .ge 8, 3) := by decide +kernel
theorem dX9_codeOf_4 : decode cX9_codeOf 4 = .ok (.bipush (-6), 2) := by decide +kernel
theorem dX9_codeOf_6 : decode cX9_codeOf 6 = .ok (.goto 13, 3) := by decide +kernel
theorem dX9_codeOf_9 : decode cX9_codeOf 9 = .ok (.iload_n 0, 1) := by decide +kernel
theorem dX9_codeOf_10 : decode cX9_codeOf 10 = .ok (.iconst 2, 1) := by decide +kernel
theorem dX9_codeOf_11 : decode cX9_codeOf 11 = .ok (.idiv, 1) := by decide +kernel
theorem dX9_codeOf_12 : decode cX9_codeOf 12 = .ok (.bipush 10, 2) := by decide +kernel
theorem dX9_codeOf_14 : decode cX9_codeOf 14 = .ok (.iload_n 0, 1) := by decide +kernel
theorem dX9_codeOf_15 : decode cX9_codeOf 15 = .ok (.iconst 2, 1) := by decide +kernel
theorem dX9_codeOf_16 : decode cX9_codeOf 16 = .ok (.irem, 1) := by decide +kernel
theorem dX9_codeOf_17 : decode cX9_codeOf 17 = .ok (.imul, 1) := by decide +kernel
theorem dX9_codeOf_18 : decode cX9_codeOf 18 = .ok (.iadd, 1) := by decide +kernel
theorem dX9_codeOf_19 : decode cX9_codeOf 19 = .ok (.ireturn, 1) := by decide +kernel
theorem dX9_lessened_0 : decode cX9_lessened 0 = .ok (.iload_n 0, 1) := by decide +kernel
theorem dX9_lessened_1 : decode cX9_lessened 1 = .ok (.i2l, 1) := by decide +kernel
theorem dX9_lessened_2 : decode cX9_lessened 2 = .ok (.ldc 217, 2) := by decide +kernel
theorem dX9_lessened_4 : decode cX9_lessened 4 = .ok (.iload_n 1, 1) := by decide +kernel
theorem dX9_lessened_5 : decode cX9_lessened 5 = .ok (.isub, 1) := by decide +kernel
theorem dX9_lessened_6 : decode cX9_lessened 6 = .ok (.i2l, 1) := by decide +kernel
theorem dX9_lessened_7 : decode cX9_lessened 7 = .ok (.lmul, 1) := by decide +kernel
theorem dX9_lessened_8 : decode cX9_lessened 8 = .ok (.ldc2_w 238, 3) := by decide +kernel
theorem dX9_lessened_11 : decode cX9_lessened 11 = .ok (.ldiv, 1) := by decide +kernel
theorem dX9_lessened_12 : decode cX9_lessened 12 = .ok (.l2i, 1) := by decide +kernel
theorem dX9_lessened_13 : decode cX9_lessened 13 = .ok (.ireturn, 1) := by decide +kernel
