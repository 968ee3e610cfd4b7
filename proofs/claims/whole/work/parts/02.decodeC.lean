theorem d_A_fill_0 : decode b_A_fill 0 = .ok (.iconst 0, 1) := by decide +kernel
theorem d_A_fill_1 : decode b_A_fill 1 = .ok (.istore_n 2, 1) := by decide +kernel
theorem d_A_fill_2 : decode b_A_fill 2 = .ok (.aload_n 0, 1) := by decide +kernel
theorem d_A_fill_3 : decode b_A_fill 3 = .ok (.arraylength, 1) := by decide +kernel
theorem d_A_fill_4 : decode b_A_fill 4 = .ok (.istore_n 3, 1) := by decide +kernel
theorem d_A_fill_5 : decode b_A_fill 5 = .ok (.iload_n 2, 1) := by decide +kernel
theorem d_A_fill_6 : decode b_A_fill 6 = .ok (.iload_n 3, 1) := by decide +kernel
theorem d_A_fill_7 : decode b_A_fill 7 = .ok (.if_icmp .ge 13, 3) := by decide +kernel
theorem d_A_fill_10 : decode b_A_fill 10 = .ok (.aload_n 0, 1) := by decide +kernel
theorem d_A_fill_11 : decode b_A_fill 11 = .ok (.iload_n 2, 1) := by decide +kernel
theorem d_A_fill_12 : decode b_A_fill 12 = .ok (.iload_n 1, 1) := by decide +kernel
theorem d_A_fill_13 : decode b_A_fill 13 = .ok (.iastore, 1) := by decide +kernel
theorem d_A_fill_14 : decode b_A_fill 14 = .ok (.iinc 2 1, 3) := by decide +kernel
theorem d_A_fill_17 : decode b_A_fill 17 = .ok (.goto (-12), 3) := by decide +kernel
theorem d_A_fill_20 : decode b_A_fill 20 = .ok (.return_, 1) := by decide +kernel
theorem d_C_init_0 : decode b_C_init 0 = .ok (.aload_n 0, 1) := by decide +kernel
theorem d_C_init_1 : decode b_C_init 1 = .ok (.invokespecial 1, 3) := by decide +kernel
theorem d_C_init_4 : decode b_C_init 4 = .ok (.aload_n 0, 1) := by decide +kernel
theorem d_C_init_5 : decode b_C_init 5 = .ok (.iconst 0, 1) := by decide +kernel
theorem d_C_init_6 : decode b_C_init 6 = .ok (.putfield 7, 3) := by decide +kernel
theorem d_C_init_9 : decode b_C_init 9 = .ok (.aload_n 0, 1) := by decide +kernel
theorem d_C_init_10 : decode b_C_init 10 = .ok (.bipush 30, 2) := by decide +kernel
theorem d_C_init_12 : decode b_C_init 12 = .ok (.newarray .int, 2) := by decide +kernel
theorem d_C_init_14 : decode b_C_init 14 = .ok (.putfield 13, 3) := by decide +kernel
theorem d_C_init_17 : decode b_C_init 17 = .ok (.aload_n 0, 1) := by decide +kernel
theorem d_C_init_18 : decode b_C_init 18 = .ok (.bipush 30, 2) := by decide +kernel
theorem d_C_init_20 : decode b_C_init 20 = .ok (.newarray .int, 2) := by decide +kernel
theorem d_C_init_22 : decode b_C_init 22 = .ok (.putfield 17, 3) := by decide +kernel
theorem d_C_init_25 : decode b_C_init 25 = .ok (.aload_n 0, 1) := by decide +kernel
theorem d_C_init_26 : decode b_C_init 26 = .ok (.iconst 4, 1) := by decide +kernel
theorem d_C_init_27 : decode b_C_init 27 = .ok (.bipush 30, 2) := by decide +kernel
theorem d_C_init_29 : decode b_C_init 29 = .ok (.multianewarray 20 2, 4) := by decide +kernel
theorem d_C_init_33 : decode b_C_init 33 = .ok (.putfield 22, 3) := by decide +kernel
theorem d_C_init_36 : decode b_C_init 36 = .ok (.aload_n 0, 1) := by decide +kernel
theorem d_C_init_37 : decode b_C_init 37 = .ok (.iconst 0, 1) := by decide +kernel
theorem d_C_init_38 : decode b_C_init 38 = .ok (.putfield 25, 3) := by decide +kernel
theorem d_C_init_41 : decode b_C_init 41 = .ok (.aload_n 0, 1) := by decide +kernel
theorem d_C_init_42 : decode b_C_init 42 = .ok (.bipush 10, 2) := by decide +kernel
theorem d_C_init_44 : decode b_C_init 44 = .ok (.newarray .int, 2) := by decide +kernel
theorem d_C_init_46 : decode b_C_init 46 = .ok (.putfield 28, 3) := by decide +kernel
theorem d_C_init_49 : decode b_C_init 49 = .ok (.aload_n 0, 1) := by decide +kernel
theorem d_C_init_50 : decode b_C_init 50 = .ok (.bipush 10, 2) := by decide +kernel
theorem d_C_init_52 : decode b_C_init 52 = .ok (.newarray .int, 2) := by decide +kernel
theorem d_C_init_54 : decode b_C_init 54 = .ok (.putfield 31, 3) := by decide +kernel
theorem d_C_init_57 : decode b_C_init 57 = .ok (.aload_n 0, 1) := by decide +kernel
theorem d_C_init_58 : decode b_C_init 58 = .ok (.iconst 2, 1) := by decide +kernel
theorem d_C_init_59 : decode b_C_init 59 = .ok (.bipush 10, 2) := by decide +kernel
theorem d_C_init_61 : decode b_C_init 61 = .ok (.multianewarray 20 2, 4) := by decide +kernel
theorem d_C_init_65 : decode b_C_init 65 = .ok (.putfield 34, 3) := by decide +kernel
theorem d_C_init_68 : decode b_C_init 68 = .ok (.aload_n 0, 1) := by decide +kernel
theorem d_C_init_69 : decode b_C_init 69 = .ok (.bipush 30, 2) := by decide +kernel
theorem d_C_init_71 : decode b_C_init 71 = .ok (.newarray .int, 2) := by decide +kernel
theorem d_C_init_73 : decode b_C_init 73 = .ok (.putfield 37, 3) := by decide +kernel
theorem d_C_init_76 : decode b_C_init 76 = .ok (.return_, 1) := by decide +kernel
theorem d_C_thing_0 : decode b_C_thing 0 = .ok (.iload_n 1, 1) := by decide +kernel
theorem d_C_thing_1 : decode b_C_thing 1 = .ok (.ifCond .lt 8, 3) := by decide +kernel
theorem d_C_thing_4 : decode b_C_thing 4 = .ok (.iload_n 1, 1) := by decide +kernel
theorem d_C_thing_5 : decode b_C_thing 5 = .ok (.iconst 4, 1) := by decide +kernel
theorem d_C_thing_6 : decode b_C_thing 6 = .ok (.if_icmp .le 6, 3) := by decide +kernel
theorem d_C_thing_9 : decode b_C_thing 9 = .ok (.bipush (-3), 2) := by decide +kernel
theorem d_C_thing_11 : decode b_C_thing 11 = .ok (.ireturn, 1) := by decide +kernel
theorem d_C_thing_12 : decode b_C_thing 12 = .ok (.aload_n 0, 1) := by decide +kernel
theorem d_C_thing_13 : decode b_C_thing 13 = .ok (.getfield 7, 3) := by decide +kernel
theorem d_C_thing_16 : decode b_C_thing 16 = .ok (.bipush 30, 2) := by decide +kernel
theorem d_C_thing_18 : decode b_C_thing 18 = .ok (.if_icmp .lt 6, 3) := by decide +kernel
theorem d_C_thing_21 : decode b_C_thing 21 = .ok (.bipush (-7), 2) := by decide +kernel
theorem d_C_thing_23 : decode b_C_thing 23 = .ok (.ireturn, 1) := by decide +kernel
theorem d_C_thing_24 : decode b_C_thing 24 = .ok (.aload_n 0, 1) := by decide +kernel
theorem d_C_thing_25 : decode b_C_thing 25 = .ok (.getfield 7, 3) := by decide +kernel
theorem d_C_thing_28 : decode b_C_thing 28 = .ok (.istore_n 2, 1) := by decide +kernel
theorem d_C_thing_29 : decode b_C_thing 29 = .ok (.aload_n 0, 1) := by decide +kernel
theorem d_C_thing_30 : decode b_C_thing 30 = .ok (.dup, 1) := by decide +kernel
theorem d_C_thing_31 : decode b_C_thing 31 = .ok (.getfield 7, 3) := by decide +kernel
theorem d_C_thing_34 : decode b_C_thing 34 = .ok (.iconst 1, 1) := by decide +kernel
theorem d_C_thing_35 : decode b_C_thing 35 = .ok (.iadd, 1) := by decide +kernel
theorem d_C_thing_36 : decode b_C_thing 36 = .ok (.putfield 7, 3) := by decide +kernel
theorem d_C_thing_39 : decode b_C_thing 39 = .ok (.aload_n 0, 1) := by decide +kernel
theorem d_C_thing_40 : decode b_C_thing 40 = .ok (.getfield 13, 3) := by decide +kernel
theorem d_C_thing_43 : decode b_C_thing 43 = .ok (.iload_n 2, 1) := by decide +kernel
theorem d_C_thing_44 : decode b_C_thing 44 = .ok (.iload_n 1, 1) := by decide +kernel
theorem d_C_thing_45 : decode b_C_thing 45 = .ok (.iastore, 1) := by decide +kernel
theorem d_C_thing_46 : decode b_C_thing 46 = .ok (.aload_n 0, 1) := by decide +kernel
theorem d_C_thing_47 : decode b_C_thing 47 = .ok (.getfield 17, 3) := by decide +kernel
theorem d_C_thing_50 : decode b_C_thing 50 = .ok (.iload_n 2, 1) := by decide +kernel
theorem d_C_thing_51 : decode b_C_thing 51 = .ok (.iconst (-1), 1) := by decide +kernel
theorem d_C_thing_52 : decode b_C_thing 52 = .ok (.iastore, 1) := by decide +kernel
theorem d_C_thing_53 : decode b_C_thing 53 = .ok (.iconst 0, 1) := by decide +kernel
theorem d_C_thing_54 : decode b_C_thing 54 = .ok (.istore_n 3, 1) := by decide +kernel
theorem d_C_thing_55 : decode b_C_thing 55 = .ok (.iload_n 3, 1) := by decide +kernel
theorem d_C_thing_56 : decode b_C_thing 56 = .ok (.iconst 4, 1) := by decide +kernel
theorem d_C_thing_57 : decode b_C_thing 57 = .ok (.if_icmp .ge 18, 3) := by decide +kernel
theorem d_C_thing_60 : decode b_C_thing 60 = .ok (.aload_n 0, 1) := by decide +kernel
theorem d_C_thing_61 : decode b_C_thing 61 = .ok (.getfield 22, 3) := by decide +kernel
theorem d_C_thing_64 : decode b_C_thing 64 = .ok (.iload_n 3, 1) := by decide +kernel
theorem d_C_thing_65 : decode b_C_thing 65 = .ok (.aaload, 1) := by decide +kernel
theorem d_C_thing_66 : decode b_C_thing 66 = .ok (.iload_n 2, 1) := by decide +kernel
theorem d_C_thing_67 : decode b_C_thing 67 = .ok (.iconst 0, 1) := by decide +kernel
theorem d_C_thing_68 : decode b_C_thing 68 = .ok (.iastore, 1) := by decide +kernel
theorem d_C_thing_69 : decode b_C_thing 69 = .ok (.iinc 3 1, 3) := by decide +kernel
theorem d_C_thing_72 : decode b_C_thing 72 = .ok (.goto (-17), 3) := by decide +kernel
theorem d_C_thing_75 : decode b_C_thing 75 = .ok (.iload_n 2, 1) := by decide +kernel
theorem d_C_thing_76 : decode b_C_thing 76 = .ok (.ireturn, 1) := by decide +kernel
theorem d_C_clear_0 : decode b_C_clear 0 = .ok (.aload_n 0, 1) := by decide +kernel
theorem d_C_clear_1 : decode b_C_clear 1 = .ok (.getfield 7, 3) := by decide +kernel
theorem d_C_clear_4 : decode b_C_clear 4 = .ok (.istore_n 1, 1) := by decide +kernel
theorem d_C_clear_5 : decode b_C_clear 5 = .ok (.aload_n 0, 1) := by decide +kernel
theorem d_C_clear_6 : decode b_C_clear 6 = .ok (.iconst 0, 1) := by decide +kernel
theorem d_C_clear_7 : decode b_C_clear 7 = .ok (.putfield 7, 3) := by decide +kernel
theorem d_C_clear_10 : decode b_C_clear 10 = .ok (.aload_n 0, 1) := by decide +kernel
theorem d_C_clear_11 : decode b_C_clear 11 = .ok (.iconst 0, 1) := by decide +kernel
theorem d_C_clear_12 : decode b_C_clear 12 = .ok (.putfield 25, 3) := by decide +kernel
theorem d_C_clear_15 : decode b_C_clear 15 = .ok (.iload_n 1, 1) := by decide +kernel
theorem d_C_clear_16 : decode b_C_clear 16 = .ok (.ireturn, 1) := by decide +kernel
theorem d_C_put_0 : decode b_C_put 0 = .ok (.aload_n 0, 1) := by decide +kernel
theorem d_C_put_1 : decode b_C_put 1 = .ok (.iload_n 1, 1) := by decide +kernel
theorem d_C_put_2 : decode b_C_put 2 = .ok (.invokevirtual 40, 3) := by decide +kernel
theorem d_C_put_5 : decode b_C_put 5 = .ok (.ifCond .eq 11, 3) := by decide +kernel
theorem d_C_put_8 : decode b_C_put 8 = .ok (.aload_n 0, 1) := by decide +kernel
theorem d_C_put_9 : decode b_C_put 9 = .ok (.iload_n 1, 1) := by decide +kernel
theorem d_C_put_10 : decode b_C_put 10 = .ok (.invokevirtual 44, 3) := by decide +kernel
theorem d_C_put_13 : decode b_C_put 13 = .ok (.ifCond .ne 6, 3) := by decide +kernel
theorem d_C_put_16 : decode b_C_put 16 = .ok (.bipush (-2), 2) := by decide +kernel
theorem d_C_put_18 : decode b_C_put 18 = .ok (.ireturn, 1) := by decide +kernel
theorem d_C_put_19 : decode b_C_put 19 = .ok (.aload_n 0, 1) := by decide +kernel
theorem d_C_put_20 : decode b_C_put 20 = .ok (.getfield 17, 3) := by decide +kernel
theorem d_C_put_23 : decode b_C_put 23 = .ok (.iload_n 1, 1) := by decide +kernel
theorem d_C_put_24 : decode b_C_put 24 = .ok (.iaload, 1) := by decide +kernel
theorem d_C_put_25 : decode b_C_put 25 = .ok (.istore_n 3, 1) := by decide +kernel
theorem d_C_put_26 : decode b_C_put 26 = .ok (.iload_n 2, 1) := by decide +kernel
theorem d_C_put_27 : decode b_C_put 27 = .ok (.iconst (-1), 1) := by decide +kernel
theorem d_C_put_28 : decode b_C_put 28 = .ok (.if_icmp .ne 12, 3) := by decide +kernel
theorem d_C_put_31 : decode b_C_put 31 = .ok (.aload_n 0, 1) := by decide +kernel
theorem d_C_put_32 : decode b_C_put 32 = .ok (.getfield 17, 3) := by decide +kernel
theorem d_C_put_35 : decode b_C_put 35 = .ok (.iload_n 1, 1) := by decide +kernel
theorem d_C_put_36 : decode b_C_put 36 = .ok (.iconst (-1), 1) := by decide +kernel
theorem d_C_put_37 : decode b_C_put 37 = .ok (.iastore, 1) := by decide +kernel
theorem d_C_put_38 : decode b_C_put 38 = .ok (.iload_n 3, 1) := by decide +kernel
theorem d_C_put_39 : decode b_C_put 39 = .ok (.ireturn, 1) := by decide +kernel
theorem d_C_put_40 : decode b_C_put 40 = .ok (.aload_n 0, 1) := by decide +kernel
theorem d_C_put_41 : decode b_C_put 41 = .ok (.iload_n 2, 1) := by decide +kernel
theorem d_C_put_42 : decode b_C_put 42 = .ok (.invokevirtual 40, 3) := by decide +kernel
theorem d_C_put_45 : decode b_C_put 45 = .ok (.ifCond .eq 12, 3) := by decide +kernel
theorem d_C_put_48 : decode b_C_put 48 = .ok (.aload_n 0, 1) := by decide +kernel
theorem d_C_put_49 : decode b_C_put 49 = .ok (.iload_n 2, 1) := by decide +kernel
theorem d_C_put_50 : decode b_C_put 50 = .ok (.invokevirtual 44, 3) := by decide +kernel
theorem d_C_put_53 : decode b_C_put 53 = .ok (.iconst 4, 1) := by decide +kernel
theorem d_C_put_54 : decode b_C_put 54 = .ok (.if_icmp .ne 6, 3) := by decide +kernel
theorem d_C_put_57 : decode b_C_put 57 = .ok (.bipush (-2), 2) := by decide +kernel
theorem d_C_put_59 : decode b_C_put 59 = .ok (.ireturn, 1) := by decide +kernel
theorem d_C_put_60 : decode b_C_put 60 = .ok (.iload_n 2, 1) := by decide +kernel
theorem d_C_put_61 : decode b_C_put 61 = .ok (.iload_n 1, 1) := by decide +kernel
theorem d_C_put_62 : decode b_C_put 62 = .ok (.if_icmp .eq 12, 3) := by decide +kernel
theorem d_C_put_65 : decode b_C_put 65 = .ok (.aload_n 0, 1) := by decide +kernel
theorem d_C_put_66 : decode b_C_put 66 = .ok (.iload_n 2, 1) := by decide +kernel
theorem d_C_put_67 : decode b_C_put 67 = .ok (.iload_n 1, 1) := by decide +kernel
theorem d_C_put_68 : decode b_C_put 68 = .ok (.invokevirtual 48, 3) := by decide +kernel
theorem d_C_put_71 : decode b_C_put 71 = .ok (.ifCond .eq 6, 3) := by decide +kernel
theorem d_C_put_74 : decode b_C_put 74 = .ok (.bipush (-4), 2) := by decide +kernel
theorem d_C_put_76 : decode b_C_put 76 = .ok (.ireturn, 1) := by decide +kernel
theorem d_C_put_77 : decode b_C_put 77 = .ok (.iload_n 2, 1) := by decide +kernel
theorem d_C_put_78 : decode b_C_put 78 = .ok (.iload_n 3, 1) := by decide +kernel
theorem d_C_put_79 : decode b_C_put 79 = .ok (.if_icmp .eq 14, 3) := by decide +kernel
theorem d_C_put_82 : decode b_C_put 82 = .ok (.aload_n 0, 1) := by decide +kernel
theorem d_C_put_83 : decode b_C_put 83 = .ok (.iload_n 2, 1) := by decide +kernel
theorem d_C_put_84 : decode b_C_put 84 = .ok (.invokevirtual 52, 3) := by decide +kernel
theorem d_C_put_87 : decode b_C_put 87 = .ok (.ifCond .eq 6, 3) := by decide +kernel
theorem d_C_put_90 : decode b_C_put 90 = .ok (.bipush (-7), 2) := by decide +kernel
theorem d_C_put_92 : decode b_C_put 92 = .ok (.ireturn, 1) := by decide +kernel
theorem d_C_put_93 : decode b_C_put 93 = .ok (.aload_n 0, 1) := by decide +kernel
theorem d_C_put_94 : decode b_C_put 94 = .ok (.getfield 17, 3) := by decide +kernel
theorem d_C_put_97 : decode b_C_put 97 = .ok (.iload_n 1, 1) := by decide +kernel
theorem d_C_put_98 : decode b_C_put 98 = .ok (.iload_n 2, 1) := by decide +kernel
theorem d_C_put_99 : decode b_C_put 99 = .ok (.iastore, 1) := by decide +kernel
theorem d_C_put_100 : decode b_C_put 100 = .ok (.iload_n 3, 1) := by decide +kernel
theorem d_C_put_101 : decode b_C_put 101 = .ok (.ireturn, 1) := by decide +kernel
theorem d_C_set_0 : decode b_C_set 0 = .ok (.aload_n 0, 1) := by decide +kernel
theorem d_C_set_1 : decode b_C_set 1 = .ok (.iload_n 1, 1) := by decide +kernel
theorem d_C_set_2 : decode b_C_set 2 = .ok (.invokevirtual 40, 3) := by decide +kernel
theorem d_C_set_5 : decode b_C_set 5 = .ok (.ifCond .ne 6, 3) := by decide +kernel
theorem d_C_set_8 : decode b_C_set 8 = .ok (.bipush (-2), 2) := by decide +kernel
theorem d_C_set_10 : decode b_C_set 10 = .ok (.ireturn, 1) := by decide +kernel
theorem d_C_set_11 : decode b_C_set 11 = .ok (.iload_n 2, 1) := by decide +kernel
theorem d_C_set_12 : decode b_C_set 12 = .ok (.ifCond .eq 8, 3) := by decide +kernel
theorem d_C_set_15 : decode b_C_set 15 = .ok (.iload_n 2, 1) := by decide +kernel
theorem d_C_set_16 : decode b_C_set 16 = .ok (.iconst 1, 1) := by decide +kernel
theorem d_C_set_17 : decode b_C_set 17 = .ok (.if_icmp .ne 7, 3) := by decide +kernel
theorem d_C_set_20 : decode b_C_set 20 = .ok (.iconst 1, 1) := by decide +kernel
theorem d_C_set_21 : decode b_C_set 21 = .ok (.goto 4, 3) := by decide +kernel
theorem d_C_set_24 : decode b_C_set 24 = .ok (.iconst 0, 1) := by decide +kernel
theorem d_C_set_25 : decode b_C_set 25 = .ok (.istore 4, 2) := by decide +kernel
theorem d_C_set_27 : decode b_C_set 27 = .ok (.iload 4, 2) := by decide +kernel
theorem d_C_set_29 : decode b_C_set 29 = .ok (.ifCond .eq 15, 3) := by decide +kernel
theorem d_C_set_32 : decode b_C_set 32 = .ok (.aload_n 0, 1) := by decide +kernel
theorem d_C_set_33 : decode b_C_set 33 = .ok (.iload_n 1, 1) := by decide +kernel
theorem d_C_set_34 : decode b_C_set 34 = .ok (.invokevirtual 44, 3) := by decide +kernel
theorem d_C_set_37 : decode b_C_set 37 = .ok (.iconst 1, 1) := by decide +kernel
theorem d_C_set_38 : decode b_C_set 38 = .ok (.if_icmp .eq 6, 3) := by decide +kernel
theorem d_C_set_41 : decode b_C_set 41 = .ok (.bipush (-2), 2) := by decide +kernel
theorem d_C_set_43 : decode b_C_set 43 = .ok (.ireturn, 1) := by decide +kernel
theorem d_C_set_44 : decode b_C_set 44 = .ok (.iload_n 2, 1) := by decide +kernel
theorem d_C_set_45 : decode b_C_set 45 = .ok (.ifCond .lt 27, 3) := by decide +kernel
theorem d_C_set_48 : decode b_C_set 48 = .ok (.iload_n 2, 1) := by decide +kernel
theorem d_C_set_49 : decode b_C_set 49 = .ok (.iconst 4, 1) := by decide +kernel
theorem d_C_set_50 : decode b_C_set 50 = .ok (.if_icmp .ge 22, 3) := by decide +kernel
theorem d_C_set_53 : decode b_C_set 53 = .ok (.iload_n 3, 1) := by decide +kernel
theorem d_C_set_54 : decode b_C_set 54 = .ok (.ifCond .lt 18, 3) := by decide +kernel
theorem d_C_set_57 : decode b_C_set 57 = .ok (.iload_n 3, 1) := by decide +kernel
theorem d_C_set_58 : decode b_C_set 58 = .ok (.iload 4, 2) := by decide +kernel
theorem d_C_set_60 : decode b_C_set 60 = .ok (.ifCond .eq 7, 3) := by decide +kernel
theorem d_C_set_63 : decode b_C_set 63 = .ok (.iconst 1, 1) := by decide +kernel
theorem d_C_set_64 : decode b_C_set 64 = .ok (.goto 5, 3) := by decide +kernel
theorem d_C_set_67 : decode b_C_set 67 = .ok (.bipush 9, 2) := by decide +kernel
theorem d_C_set_69 : decode b_C_set 69 = .ok (.if_icmp .le 6, 3) := by decide +kernel
theorem d_C_set_72 : decode b_C_set 72 = .ok (.bipush (-3), 2) := by decide +kernel
theorem d_C_set_74 : decode b_C_set 74 = .ok (.ireturn, 1) := by decide +kernel
theorem d_C_set_75 : decode b_C_set 75 = .ok (.aload_n 0, 1) := by decide +kernel
theorem d_C_set_76 : decode b_C_set 76 = .ok (.getfield 22, 3) := by decide +kernel
theorem d_C_set_79 : decode b_C_set 79 = .ok (.iload_n 2, 1) := by decide +kernel
theorem d_C_set_80 : decode b_C_set 80 = .ok (.aaload, 1) := by decide +kernel
theorem d_C_set_81 : decode b_C_set 81 = .ok (.iload_n 1, 1) := by decide +kernel
theorem d_C_set_82 : decode b_C_set 82 = .ok (.iaload, 1) := by decide +kernel
theorem d_C_set_83 : decode b_C_set 83 = .ok (.istore 5, 2) := by decide +kernel
theorem d_C_set_85 : decode b_C_set 85 = .ok (.aload_n 0, 1) := by decide +kernel
theorem d_C_set_86 : decode b_C_set 86 = .ok (.getfield 22, 3) := by decide +kernel
theorem d_C_set_89 : decode b_C_set 89 = .ok (.iload_n 2, 1) := by decide +kernel
theorem d_C_set_90 : decode b_C_set 90 = .ok (.aaload, 1) := by decide +kernel
theorem d_C_set_91 : decode b_C_set 91 = .ok (.iload_n 1, 1) := by decide +kernel
theorem d_C_set_92 : decode b_C_set 92 = .ok (.iload_n 3, 1) := by decide +kernel
theorem d_C_set_93 : decode b_C_set 93 = .ok (.iastore, 1) := by decide +kernel
theorem d_C_set_94 : decode b_C_set 94 = .ok (.iload 5, 2) := by decide +kernel
theorem d_C_set_96 : decode b_C_set 96 = .ok (.ireturn, 1) := by decide +kernel
theorem d_C_door_0 : decode b_C_door 0 = .ok (.aload_n 0, 1) := by decide +kernel
theorem d_C_door_1 : decode b_C_door 1 = .ok (.iload_n 1, 1) := by decide +kernel
theorem d_C_door_2 : decode b_C_door 2 = .ok (.invokevirtual 44, 3) := by decide +kernel
theorem d_C_door_5 : decode b_C_door 5 = .ok (.ifCond .ne 11, 3) := by decide +kernel
theorem d_C_door_8 : decode b_C_door 8 = .ok (.aload_n 0, 1) := by decide +kernel
theorem d_C_door_9 : decode b_C_door 9 = .ok (.iload_n 2, 1) := by decide +kernel
theorem d_C_door_10 : decode b_C_door 10 = .ok (.invokevirtual 44, 3) := by decide +kernel
theorem d_C_door_13 : decode b_C_door 13 = .ok (.ifCond .eq 6, 3) := by decide +kernel
theorem d_C_door_16 : decode b_C_door 16 = .ok (.bipush (-2), 2) := by decide +kernel
theorem d_C_door_18 : decode b_C_door 18 = .ok (.ireturn, 1) := by decide +kernel
theorem d_C_door_19 : decode b_C_door 19 = .ok (.iload_n 1, 1) := by decide +kernel
theorem d_C_door_20 : decode b_C_door 20 = .ok (.iload_n 2, 1) := by decide +kernel
theorem d_C_door_21 : decode b_C_door 21 = .ok (.if_icmp .ne 6, 3) := by decide +kernel
theorem d_C_door_24 : decode b_C_door 24 = .ok (.bipush (-3), 2) := by decide +kernel
theorem d_C_door_26 : decode b_C_door 26 = .ok (.ireturn, 1) := by decide +kernel
theorem d_C_door_27 : decode b_C_door 27 = .ok (.aload_n 0, 1) := by decide +kernel
theorem d_C_door_28 : decode b_C_door 28 = .ok (.getfield 25, 3) := by decide +kernel
theorem d_C_door_31 : decode b_C_door 31 = .ok (.bipush 10, 2) := by decide +kernel
theorem d_C_door_33 : decode b_C_door 33 = .ok (.if_icmp .lt 6, 3) := by decide +kernel
theorem d_C_door_36 : decode b_C_door 36 = .ok (.bipush (-7), 2) := by decide +kernel
theorem d_C_door_38 : decode b_C_door 38 = .ok (.ireturn, 1) := by decide +kernel
theorem d_C_door_39 : decode b_C_door 39 = .ok (.aload_n 0, 1) := by decide +kernel
theorem d_C_door_40 : decode b_C_door 40 = .ok (.getfield 25, 3) := by decide +kernel
theorem d_C_door_43 : decode b_C_door 43 = .ok (.istore_n 3, 1) := by decide +kernel
theorem d_C_door_44 : decode b_C_door 44 = .ok (.aload_n 0, 1) := by decide +kernel
theorem d_C_door_45 : decode b_C_door 45 = .ok (.dup, 1) := by decide +kernel
theorem d_C_door_46 : decode b_C_door 46 = .ok (.getfield 25, 3) := by decide +kernel
theorem d_C_door_49 : decode b_C_door 49 = .ok (.iconst 1, 1) := by decide +kernel
theorem d_C_door_50 : decode b_C_door 50 = .ok (.iadd, 1) := by decide +kernel
theorem d_C_door_51 : decode b_C_door 51 = .ok (.putfield 25, 3) := by decide +kernel
theorem d_C_door_54 : decode b_C_door 54 = .ok (.aload_n 0, 1) := by decide +kernel
theorem d_C_door_55 : decode b_C_door 55 = .ok (.getfield 28, 3) := by decide +kernel
theorem d_C_door_58 : decode b_C_door 58 = .ok (.iload_n 3, 1) := by decide +kernel
theorem d_C_door_59 : decode b_C_door 59 = .ok (.iload_n 1, 1) := by decide +kernel
theorem d_C_door_60 : decode b_C_door 60 = .ok (.iastore, 1) := by decide +kernel
theorem d_C_door_61 : decode b_C_door 61 = .ok (.aload_n 0, 1) := by decide +kernel
theorem d_C_door_62 : decode b_C_door 62 = .ok (.getfield 31, 3) := by decide +kernel
theorem d_C_door_65 : decode b_C_door 65 = .ok (.iload_n 3, 1) := by decide +kernel
theorem d_C_door_66 : decode b_C_door 66 = .ok (.iload_n 2, 1) := by decide +kernel
theorem d_C_door_67 : decode b_C_door 67 = .ok (.iastore, 1) := by decide +kernel
theorem d_C_door_68 : decode b_C_door 68 = .ok (.iconst 0, 1) := by decide +kernel
theorem d_C_door_69 : decode b_C_door 69 = .ok (.istore 4, 2) := by decide +kernel
theorem d_C_door_71 : decode b_C_door 71 = .ok (.iload 4, 2) := by decide +kernel
theorem d_C_door_73 : decode b_C_door 73 = .ok (.iconst 2, 1) := by decide +kernel
theorem d_C_door_74 : decode b_C_door 74 = .ok (.if_icmp .ge 19, 3) := by decide +kernel
theorem d_C_door_77 : decode b_C_door 77 = .ok (.aload_n 0, 1) := by decide +kernel
theorem d_C_door_78 : decode b_C_door 78 = .ok (.getfield 34, 3) := by decide +kernel
theorem d_C_door_81 : decode b_C_door 81 = .ok (.iload 4, 2) := by decide +kernel
theorem d_C_door_83 : decode b_C_door 83 = .ok (.aaload, 1) := by decide +kernel
theorem d_C_door_84 : decode b_C_door 84 = .ok (.iload_n 3, 1) := by decide +kernel
theorem d_C_door_85 : decode b_C_door 85 = .ok (.iconst 0, 1) := by decide +kernel
theorem d_C_door_86 : decode b_C_door 86 = .ok (.iastore, 1) := by decide +kernel
theorem d_C_door_87 : decode b_C_door 87 = .ok (.iinc 4 1, 3) := by decide +kernel
theorem d_C_door_90 : decode b_C_door 90 = .ok (.goto (-19), 3) := by decide +kernel
theorem d_C_door_93 : decode b_C_door 93 = .ok (.iload_n 3, 1) := by decide +kernel
theorem d_C_door_94 : decode b_C_door 94 = .ok (.ireturn, 1) := by decide +kernel
theorem d_C_turn_0 : decode b_C_turn 0 = .ok (.aload_n 0, 1) := by decide +kernel
theorem d_C_turn_1 : decode b_C_turn 1 = .ok (.iload_n 1, 1) := by decide +kernel
theorem d_C_turn_2 : decode b_C_turn 2 = .ok (.invokevirtual 55, 3) := by decide +kernel
theorem d_C_turn_5 : decode b_C_turn 5 = .ok (.ifCond .ne 6, 3) := by decide +kernel
theorem d_C_turn_8 : decode b_C_turn 8 = .ok (.bipush (-2), 2) := by decide +kernel
theorem d_C_turn_10 : decode b_C_turn 10 = .ok (.ireturn, 1) := by decide +kernel
theorem d_C_turn_11 : decode b_C_turn 11 = .ok (.iload_n 2, 1) := by decide +kernel
theorem d_C_turn_12 : decode b_C_turn 12 = .ok (.ifCond .lt 17, 3) := by decide +kernel
theorem d_C_turn_15 : decode b_C_turn 15 = .ok (.iload_n 2, 1) := by decide +kernel
theorem d_C_turn_16 : decode b_C_turn 16 = .ok (.iconst 2, 1) := by decide +kernel
theorem d_C_turn_17 : decode b_C_turn 17 = .ok (.if_icmp .ge 12, 3) := by decide +kernel
theorem d_C_turn_20 : decode b_C_turn 20 = .ok (.iload_n 3, 1) := by decide +kernel
theorem d_C_turn_21 : decode b_C_turn 21 = .ok (.ifCond .lt 8, 3) := by decide +kernel
theorem d_C_turn_24 : decode b_C_turn 24 = .ok (.iload_n 3, 1) := by decide +kernel
theorem d_C_turn_25 : decode b_C_turn 25 = .ok (.iconst 1, 1) := by decide +kernel
theorem d_C_turn_26 : decode b_C_turn 26 = .ok (.if_icmp .le 6, 3) := by decide +kernel
theorem d_C_turn_29 : decode b_C_turn 29 = .ok (.bipush (-3), 2) := by decide +kernel
theorem d_C_turn_31 : decode b_C_turn 31 = .ok (.ireturn, 1) := by decide +kernel
theorem d_C_turn_32 : decode b_C_turn 32 = .ok (.aload_n 0, 1) := by decide +kernel
theorem d_C_turn_33 : decode b_C_turn 33 = .ok (.getfield 34, 3) := by decide +kernel
theorem d_C_turn_36 : decode b_C_turn 36 = .ok (.iload_n 2, 1) := by decide +kernel
theorem d_C_turn_37 : decode b_C_turn 37 = .ok (.aaload, 1) := by decide +kernel
theorem d_C_turn_38 : decode b_C_turn 38 = .ok (.iload_n 1, 1) := by decide +kernel
theorem d_C_turn_39 : decode b_C_turn 39 = .ok (.iaload, 1) := by decide +kernel
theorem d_C_turn_40 : decode b_C_turn 40 = .ok (.istore 4, 2) := by decide +kernel
theorem d_C_turn_42 : decode b_C_turn 42 = .ok (.aload_n 0, 1) := by decide +kernel
theorem d_C_turn_43 : decode b_C_turn 43 = .ok (.getfield 34, 3) := by decide +kernel
theorem d_C_turn_46 : decode b_C_turn 46 = .ok (.iload_n 2, 1) := by decide +kernel
theorem d_C_turn_47 : decode b_C_turn 47 = .ok (.aaload, 1) := by decide +kernel
theorem d_C_turn_48 : decode b_C_turn 48 = .ok (.iload_n 1, 1) := by decide +kernel
theorem d_C_turn_49 : decode b_C_turn 49 = .ok (.iload_n 3, 1) := by decide +kernel
theorem d_C_turn_50 : decode b_C_turn 50 = .ok (.iastore, 1) := by decide +kernel
theorem d_C_turn_51 : decode b_C_turn 51 = .ok (.iload 4, 2) := by decide +kernel
theorem d_C_turn_53 : decode b_C_turn 53 = .ok (.ireturn, 1) := by decide +kernel
theorem d_C_take_0 : decode b_C_take 0 = .ok (.aload_n 0, 1) := by decide +kernel
theorem d_C_take_1 : decode b_C_take 1 = .ok (.iload_n 1, 1) := by decide +kernel
theorem d_C_take_2 : decode b_C_take 2 = .ok (.invokevirtual 58, 3) := by decide +kernel
theorem d_C_take_5 : decode b_C_take 5 = .ok (.ifCond .eq 27, 3) := by decide +kernel
theorem d_C_take_8 : decode b_C_take 8 = .ok (.aload_n 0, 1) := by decide +kernel
theorem d_C_take_9 : decode b_C_take 9 = .ok (.iload_n 2, 1) := by decide +kernel
theorem d_C_take_10 : decode b_C_take 10 = .ok (.invokevirtual 40, 3) := by decide +kernel
theorem d_C_take_13 : decode b_C_take 13 = .ok (.ifCond .eq 19, 3) := by decide +kernel
theorem d_C_take_16 : decode b_C_take 16 = .ok (.aload_n 0, 1) := by decide +kernel
theorem d_C_take_17 : decode b_C_take 17 = .ok (.iload_n 2, 1) := by decide +kernel
theorem d_C_take_18 : decode b_C_take 18 = .ok (.invokevirtual 44, 3) := by decide +kernel
theorem d_C_take_21 : decode b_C_take 21 = .ok (.ifCond .eq 11, 3) := by decide +kernel
theorem d_C_take_24 : decode b_C_take 24 = .ok (.aload_n 0, 1) := by decide +kernel
theorem d_C_take_25 : decode b_C_take 25 = .ok (.iload_n 2, 1) := by decide +kernel
theorem d_C_take_26 : decode b_C_take 26 = .ok (.invokevirtual 58, 3) := by decide +kernel
theorem d_C_take_29 : decode b_C_take 29 = .ok (.ifCond .eq 6, 3) := by decide +kernel
theorem d_C_take_32 : decode b_C_take 32 = .ok (.bipush (-2), 2) := by decide +kernel
theorem d_C_take_34 : decode b_C_take 34 = .ok (.ireturn, 1) := by decide +kernel
theorem d_C_take_35 : decode b_C_take 35 = .ok (.aload_n 0, 1) := by decide +kernel
theorem d_C_take_36 : decode b_C_take 36 = .ok (.iload_n 1, 1) := by decide +kernel
theorem d_C_take_37 : decode b_C_take 37 = .ok (.iload_n 2, 1) := by decide +kernel
theorem d_C_take_38 : decode b_C_take 38 = .ok (.invokevirtual 48, 3) := by decide +kernel
theorem d_C_take_41 : decode b_C_take 41 = .ok (.ifCond .eq 6, 3) := by decide +kernel
theorem d_C_take_44 : decode b_C_take 44 = .ok (.bipush (-4), 2) := by decide +kernel
theorem d_C_take_46 : decode b_C_take 46 = .ok (.ireturn, 1) := by decide +kernel
theorem d_C_take_47 : decode b_C_take 47 = .ok (.aload_n 0, 1) := by decide +kernel
theorem d_C_take_48 : decode b_C_take 48 = .ok (.iload_n 1, 1) := by decide +kernel
theorem d_C_take_49 : decode b_C_take 49 = .ok (.iload_n 2, 1) := by decide +kernel
theorem d_C_take_50 : decode b_C_take 50 = .ok (.invokevirtual 61, 3) := by decide +kernel
theorem d_C_take_53 : decode b_C_take 53 = .ok (.istore_n 3, 1) := by decide +kernel
theorem d_C_take_54 : decode b_C_take 54 = .ok (.iload_n 3, 1) := by decide +kernel
theorem d_C_take_55 : decode b_C_take 55 = .ok (.bipush (-5), 2) := by decide +kernel
theorem d_C_take_57 : decode b_C_take 57 = .ok (.if_icmp .ne 6, 3) := by decide +kernel
theorem d_C_take_60 : decode b_C_take 60 = .ok (.bipush (-5), 2) := by decide +kernel
theorem d_C_take_62 : decode b_C_take 62 = .ok (.ireturn, 1) := by decide +kernel
theorem d_C_take_63 : decode b_C_take 63 = .ok (.iload_n 3, 1) := by decide +kernel
theorem d_C_take_64 : decode b_C_take 64 = .ok (.iconst (-1), 1) := by decide +kernel
theorem d_C_take_65 : decode b_C_take 65 = .ok (.if_icmp .eq 6, 3) := by decide +kernel
theorem d_C_take_68 : decode b_C_take 68 = .ok (.bipush (-6), 2) := by decide +kernel
theorem d_C_take_70 : decode b_C_take 70 = .ok (.ireturn, 1) := by decide +kernel
theorem d_C_take_71 : decode b_C_take 71 = .ok (.aload_n 0, 1) := by decide +kernel
theorem d_C_take_72 : decode b_C_take 72 = .ok (.getfield 17, 3) := by decide +kernel
theorem d_C_take_75 : decode b_C_take 75 = .ok (.iload_n 2, 1) := by decide +kernel
theorem d_C_take_76 : decode b_C_take 76 = .ok (.iaload, 1) := by decide +kernel
theorem d_C_take_77 : decode b_C_take 77 = .ok (.iload_n 1, 1) := by decide +kernel
theorem d_C_take_78 : decode b_C_take 78 = .ok (.if_icmp .ne 5, 3) := by decide +kernel
theorem d_C_take_81 : decode b_C_take 81 = .ok (.iconst 0, 1) := by decide +kernel
theorem d_C_take_82 : decode b_C_take 82 = .ok (.ireturn, 1) := by decide +kernel
theorem d_C_take_83 : decode b_C_take 83 = .ok (.aload_n 0, 1) := by decide +kernel
theorem d_C_take_84 : decode b_C_take 84 = .ok (.iload_n 1, 1) := by decide +kernel
theorem d_C_take_85 : decode b_C_take 85 = .ok (.invokevirtual 52, 3) := by decide +kernel
theorem d_C_take_88 : decode b_C_take 88 = .ok (.ifCond .eq 6, 3) := by decide +kernel
theorem d_C_take_91 : decode b_C_take 91 = .ok (.bipush (-7), 2) := by decide +kernel
theorem d_C_take_93 : decode b_C_take 93 = .ok (.ireturn, 1) := by decide +kernel
theorem d_C_take_94 : decode b_C_take 94 = .ok (.aload_n 0, 1) := by decide +kernel
theorem d_C_take_95 : decode b_C_take 95 = .ok (.getfield 17, 3) := by decide +kernel
theorem d_C_take_98 : decode b_C_take 98 = .ok (.iload_n 2, 1) := by decide +kernel
theorem d_C_take_99 : decode b_C_take 99 = .ok (.iload_n 1, 1) := by decide +kernel
theorem d_C_take_100 : decode b_C_take 100 = .ok (.iastore, 1) := by decide +kernel
theorem d_C_take_101 : decode b_C_take 101 = .ok (.iconst 1, 1) := by decide +kernel
theorem d_C_take_102 : decode b_C_take 102 = .ok (.ireturn, 1) := by decide +kernel
theorem d_C_give_0 : decode b_C_give 0 = .ok (.aload_n 0, 1) := by decide +kernel
theorem d_C_give_1 : decode b_C_give 1 = .ok (.iload_n 1, 1) := by decide +kernel
theorem d_C_give_2 : decode b_C_give 2 = .ok (.iload_n 2, 1) := by decide +kernel
theorem d_C_give_3 : decode b_C_give 3 = .ok (.invokevirtual 65, 3) := by decide +kernel
theorem d_C_give_6 : decode b_C_give 6 = .ok (.ifCond .eq 16, 3) := by decide +kernel
theorem d_C_give_9 : decode b_C_give 9 = .ok (.iload_n 3, 1) := by decide +kernel
theorem d_C_give_10 : decode b_C_give 10 = .ok (.iload_n 1, 1) := by decide +kernel
theorem d_C_give_11 : decode b_C_give 11 = .ok (.if_icmp .eq 11, 3) := by decide +kernel
theorem d_C_give_14 : decode b_C_give 14 = .ok (.aload_n 0, 1) := by decide +kernel
theorem d_C_give_15 : decode b_C_give 15 = .ok (.iload_n 3, 1) := by decide +kernel
theorem d_C_give_16 : decode b_C_give 16 = .ok (.invokevirtual 68, 3) := by decide +kernel
theorem d_C_give_19 : decode b_C_give 19 = .ok (.ifCond .ne 6, 3) := by decide +kernel
theorem d_C_give_22 : decode b_C_give 22 = .ok (.bipush (-2), 2) := by decide +kernel
theorem d_C_give_24 : decode b_C_give 24 = .ok (.ireturn, 1) := by decide +kernel
theorem d_C_give_25 : decode b_C_give 25 = .ok (.iload_n 3, 1) := by decide +kernel
theorem d_C_give_26 : decode b_C_give 26 = .ok (.iload_n 2, 1) := by decide +kernel
theorem d_C_give_27 : decode b_C_give 27 = .ok (.if_icmp .eq 12, 3) := by decide +kernel
theorem d_C_give_30 : decode b_C_give 30 = .ok (.aload_n 0, 1) := by decide +kernel
theorem d_C_give_31 : decode b_C_give 31 = .ok (.iload_n 3, 1) := by decide +kernel
theorem d_C_give_32 : decode b_C_give 32 = .ok (.iload_n 2, 1) := by decide +kernel
theorem d_C_give_33 : decode b_C_give 33 = .ok (.invokevirtual 48, 3) := by decide +kernel
theorem d_C_give_36 : decode b_C_give 36 = .ok (.ifCond .eq 6, 3) := by decide +kernel
theorem d_C_give_39 : decode b_C_give 39 = .ok (.bipush (-4), 2) := by decide +kernel
theorem d_C_give_41 : decode b_C_give 41 = .ok (.ireturn, 1) := by decide +kernel
theorem d_C_give_42 : decode b_C_give 42 = .ok (.aload_n 0, 1) := by decide +kernel
theorem d_C_give_43 : decode b_C_give 43 = .ok (.iload_n 1, 1) := by decide +kernel
theorem d_C_give_44 : decode b_C_give 44 = .ok (.iload_n 3, 1) := by decide +kernel
theorem d_C_give_45 : decode b_C_give 45 = .ok (.invokevirtual 61, 3) := by decide +kernel
theorem d_C_give_48 : decode b_C_give 48 = .ok (.istore 4, 2) := by decide +kernel
theorem d_C_give_50 : decode b_C_give 50 = .ok (.iload 4, 2) := by decide +kernel
theorem d_C_give_52 : decode b_C_give 52 = .ok (.bipush (-5), 2) := by decide +kernel
theorem d_C_give_54 : decode b_C_give 54 = .ok (.if_icmp .ne 6, 3) := by decide +kernel
theorem d_C_give_57 : decode b_C_give 57 = .ok (.bipush (-5), 2) := by decide +kernel
theorem d_C_give_59 : decode b_C_give 59 = .ok (.ireturn, 1) := by decide +kernel
theorem d_C_give_60 : decode b_C_give 60 = .ok (.iload 4, 2) := by decide +kernel
theorem d_C_give_62 : decode b_C_give 62 = .ok (.iconst (-1), 1) := by decide +kernel
theorem d_C_give_63 : decode b_C_give 63 = .ok (.if_icmp .ne 11, 3) := by decide +kernel
theorem d_C_give_66 : decode b_C_give 66 = .ok (.aload_n 0, 1) := by decide +kernel
theorem d_C_give_67 : decode b_C_give 67 = .ok (.iload_n 3, 1) := by decide +kernel
theorem d_C_give_68 : decode b_C_give 68 = .ok (.invokevirtual 71, 3) := by decide +kernel
theorem d_C_give_71 : decode b_C_give 71 = .ok (.ifCond .eq 6, 3) := by decide +kernel
theorem d_C_give_74 : decode b_C_give 74 = .ok (.bipush (-6), 2) := by decide +kernel
theorem d_C_give_76 : decode b_C_give 76 = .ok (.ireturn, 1) := by decide +kernel
theorem d_C_give_77 : decode b_C_give 77 = .ok (.aload_n 0, 1) := by decide +kernel
theorem d_C_give_78 : decode b_C_give 78 = .ok (.iload_n 3, 1) := by decide +kernel
theorem d_C_give_79 : decode b_C_give 79 = .ok (.invokevirtual 52, 3) := by decide +kernel
theorem d_C_give_82 : decode b_C_give 82 = .ok (.ifCond .eq 6, 3) := by decide +kernel
theorem d_C_give_85 : decode b_C_give 85 = .ok (.bipush (-7), 2) := by decide +kernel
theorem d_C_give_87 : decode b_C_give 87 = .ok (.ireturn, 1) := by decide +kernel
theorem d_C_give_88 : decode b_C_give 88 = .ok (.aload_n 0, 1) := by decide +kernel
theorem d_C_give_89 : decode b_C_give 89 = .ok (.getfield 17, 3) := by decide +kernel
theorem d_C_give_92 : decode b_C_give 92 = .ok (.iload_n 2, 1) := by decide +kernel
theorem d_C_give_93 : decode b_C_give 93 = .ok (.iload_n 3, 1) := by decide +kernel
theorem d_C_give_94 : decode b_C_give 94 = .ok (.iastore, 1) := by decide +kernel
theorem d_C_give_95 : decode b_C_give 95 = .ok (.iconst 1, 1) := by decide +kernel
theorem d_C_give_96 : decode b_C_give 96 = .ok (.ireturn, 1) := by decide +kernel
theorem d_C_drop_0 : decode b_C_drop 0 = .ok (.aload_n 0, 1) := by decide +kernel
theorem d_C_drop_1 : decode b_C_drop 1 = .ok (.iload_n 1, 1) := by decide +kernel
theorem d_C_drop_2 : decode b_C_drop 2 = .ok (.iload_n 2, 1) := by decide +kernel
theorem d_C_drop_3 : decode b_C_drop 3 = .ok (.invokevirtual 65, 3) := by decide +kernel
theorem d_C_drop_6 : decode b_C_drop 6 = .ok (.ifCond .ne 6, 3) := by decide +kernel
theorem d_C_drop_9 : decode b_C_drop 9 = .ok (.bipush (-2), 2) := by decide +kernel
theorem d_C_drop_11 : decode b_C_drop 11 = .ok (.ireturn, 1) := by decide +kernel
theorem d_C_drop_12 : decode b_C_drop 12 = .ok (.aload_n 0, 1) := by decide +kernel
theorem d_C_drop_13 : decode b_C_drop 13 = .ok (.iload_n 1, 1) := by decide +kernel
theorem d_C_drop_14 : decode b_C_drop 14 = .ok (.invokevirtual 74, 3) := by decide +kernel
theorem d_C_drop_17 : decode b_C_drop 17 = .ok (.istore_n 3, 1) := by decide +kernel
theorem d_C_drop_18 : decode b_C_drop 18 = .ok (.iload_n 3, 1) := by decide +kernel
theorem d_C_drop_19 : decode b_C_drop 19 = .ok (.iconst (-1), 1) := by decide +kernel
theorem d_C_drop_20 : decode b_C_drop 20 = .ok (.if_icmp .ne 6, 3) := by decide +kernel
theorem d_C_drop_23 : decode b_C_drop 23 = .ok (.bipush (-5), 2) := by decide +kernel
theorem d_C_drop_25 : decode b_C_drop 25 = .ok (.ireturn, 1) := by decide +kernel
theorem d_C_drop_26 : decode b_C_drop 26 = .ok (.aload_n 0, 1) := by decide +kernel
theorem d_C_drop_27 : decode b_C_drop 27 = .ok (.iload_n 3, 1) := by decide +kernel
theorem d_C_drop_28 : decode b_C_drop 28 = .ok (.invokevirtual 52, 3) := by decide +kernel
theorem d_C_drop_31 : decode b_C_drop 31 = .ok (.ifCond .eq 6, 3) := by decide +kernel
theorem d_C_drop_34 : decode b_C_drop 34 = .ok (.bipush (-7), 2) := by decide +kernel
theorem d_C_drop_36 : decode b_C_drop 36 = .ok (.ireturn, 1) := by decide +kernel
theorem d_C_drop_37 : decode b_C_drop 37 = .ok (.aload_n 0, 1) := by decide +kernel
theorem d_C_drop_38 : decode b_C_drop 38 = .ok (.getfield 17, 3) := by decide +kernel
theorem d_C_drop_41 : decode b_C_drop 41 = .ok (.iload_n 2, 1) := by decide +kernel
theorem d_C_drop_42 : decode b_C_drop 42 = .ok (.iload_n 3, 1) := by decide +kernel
theorem d_C_drop_43 : decode b_C_drop 43 = .ok (.iastore, 1) := by decide +kernel
theorem d_C_drop_44 : decode b_C_drop 44 = .ok (.iconst 1, 1) := by decide +kernel
theorem d_C_drop_45 : decode b_C_drop 45 = .ok (.ireturn, 1) := by decide +kernel
theorem d_C_go_0 : decode b_C_go 0 = .ok (.aload_n 0, 1) := by decide +kernel
theorem d_C_go_1 : decode b_C_go 1 = .ok (.iload_n 1, 1) := by decide +kernel
theorem d_C_go_2 : decode b_C_go 2 = .ok (.invokevirtual 58, 3) := by decide +kernel
theorem d_C_go_5 : decode b_C_go 5 = .ok (.ifCond .eq 11, 3) := by decide +kernel
theorem d_C_go_8 : decode b_C_go 8 = .ok (.aload_n 0, 1) := by decide +kernel
theorem d_C_go_9 : decode b_C_go 9 = .ok (.iload_n 2, 1) := by decide +kernel
theorem d_C_go_10 : decode b_C_go 10 = .ok (.invokevirtual 55, 3) := by decide +kernel
theorem d_C_go_13 : decode b_C_go 13 = .ok (.ifCond .ne 6, 3) := by decide +kernel
theorem d_C_go_16 : decode b_C_go 16 = .ok (.bipush (-2), 2) := by decide +kernel
theorem d_C_go_18 : decode b_C_go 18 = .ok (.ireturn, 1) := by decide +kernel
theorem d_C_go_19 : decode b_C_go 19 = .ok (.aload_n 0, 1) := by decide +kernel
theorem d_C_go_20 : decode b_C_go 20 = .ok (.getfield 17, 3) := by decide +kernel
theorem d_C_go_23 : decode b_C_go 23 = .ok (.iload_n 1, 1) := by decide +kernel
theorem d_C_go_24 : decode b_C_go 24 = .ok (.iaload, 1) := by decide +kernel
theorem d_C_go_25 : decode b_C_go 25 = .ok (.istore_n 3, 1) := by decide +kernel
theorem d_C_go_26 : decode b_C_go 26 = .ok (.iload_n 3, 1) := by decide +kernel
theorem d_C_go_27 : decode b_C_go 27 = .ok (.aload_n 0, 1) := by decide +kernel
theorem d_C_go_28 : decode b_C_go 28 = .ok (.getfield 28, 3) := by decide +kernel
theorem d_C_go_31 : decode b_C_go 31 = .ok (.iload_n 2, 1) := by decide +kernel
theorem d_C_go_32 : decode b_C_go 32 = .ok (.iaload, 1) := by decide +kernel
theorem d_C_go_33 : decode b_C_go 33 = .ok (.if_icmp .eq 16, 3) := by decide +kernel
theorem d_C_go_36 : decode b_C_go 36 = .ok (.iload_n 3, 1) := by decide +kernel
theorem d_C_go_37 : decode b_C_go 37 = .ok (.aload_n 0, 1) := by decide +kernel
theorem d_C_go_38 : decode b_C_go 38 = .ok (.getfield 31, 3) := by decide +kernel
theorem d_C_go_41 : decode b_C_go 41 = .ok (.iload_n 2, 1) := by decide +kernel
theorem d_C_go_42 : decode b_C_go 42 = .ok (.iaload, 1) := by decide +kernel
theorem d_C_go_43 : decode b_C_go 43 = .ok (.if_icmp .eq 6, 3) := by decide +kernel
theorem d_C_go_46 : decode b_C_go 46 = .ok (.bipush (-5), 2) := by decide +kernel
theorem d_C_go_48 : decode b_C_go 48 = .ok (.ireturn, 1) := by decide +kernel
theorem d_C_go_49 : decode b_C_go 49 = .ok (.aload_n 0, 1) := by decide +kernel
theorem d_C_go_50 : decode b_C_go 50 = .ok (.getfield 34, 3) := by decide +kernel
theorem d_C_go_53 : decode b_C_go 53 = .ok (.iconst 0, 1) := by decide +kernel
theorem d_C_go_54 : decode b_C_go 54 = .ok (.aaload, 1) := by decide +kernel
theorem d_C_go_55 : decode b_C_go 55 = .ok (.iload_n 2, 1) := by decide +kernel
theorem d_C_go_56 : decode b_C_go 56 = .ok (.iaload, 1) := by decide +kernel
theorem d_C_go_57 : decode b_C_go 57 = .ok (.ifCond .ne 6, 3) := by decide +kernel
theorem d_C_go_60 : decode b_C_go 60 = .ok (.bipush (-6), 2) := by decide +kernel
theorem d_C_go_62 : decode b_C_go 62 = .ok (.ireturn, 1) := by decide +kernel
theorem d_C_go_63 : decode b_C_go 63 = .ok (.iload_n 3, 1) := by decide +kernel
theorem d_C_go_64 : decode b_C_go 64 = .ok (.aload_n 0, 1) := by decide +kernel
theorem d_C_go_65 : decode b_C_go 65 = .ok (.getfield 28, 3) := by decide +kernel
theorem d_C_go_68 : decode b_C_go 68 = .ok (.iload_n 2, 1) := by decide +kernel
theorem d_C_go_69 : decode b_C_go 69 = .ok (.iaload, 1) := by decide +kernel
theorem d_C_go_70 : decode b_C_go 70 = .ok (.if_icmp .ne 12, 3) := by decide +kernel
theorem d_C_go_73 : decode b_C_go 73 = .ok (.aload_n 0, 1) := by decide +kernel
theorem d_C_go_74 : decode b_C_go 74 = .ok (.getfield 31, 3) := by decide +kernel
theorem d_C_go_77 : decode b_C_go 77 = .ok (.iload_n 2, 1) := by decide +kernel
theorem d_C_go_78 : decode b_C_go 78 = .ok (.iaload, 1) := by decide +kernel
theorem d_C_go_79 : decode b_C_go 79 = .ok (.goto 9, 3) := by decide +kernel
theorem d_C_go_82 : decode b_C_go 82 = .ok (.aload_n 0, 1) := by decide +kernel
theorem d_C_go_83 : decode b_C_go 83 = .ok (.getfield 28, 3) := by decide +kernel
theorem d_C_go_86 : decode b_C_go 86 = .ok (.iload_n 2, 1) := by decide +kernel
theorem d_C_go_87 : decode b_C_go 87 = .ok (.iaload, 1) := by decide +kernel
theorem d_C_go_88 : decode b_C_go 88 = .ok (.istore 4, 2) := by decide +kernel
theorem d_C_go_90 : decode b_C_go 90 = .ok (.aload_n 0, 1) := by decide +kernel
theorem d_C_go_91 : decode b_C_go 91 = .ok (.getfield 17, 3) := by decide +kernel
theorem d_C_go_94 : decode b_C_go 94 = .ok (.iload_n 1, 1) := by decide +kernel
theorem d_C_go_95 : decode b_C_go 95 = .ok (.iload 4, 2) := by decide +kernel
theorem d_C_go_97 : decode b_C_go 97 = .ok (.iastore, 1) := by decide +kernel
theorem d_C_go_98 : decode b_C_go 98 = .ok (.iload 4, 2) := by decide +kernel
theorem d_C_go_100 : decode b_C_go 100 = .ok (.ireturn, 1) := by decide +kernel
theorem d_C_count_0 : decode b_C_count 0 = .ok (.iload_n 1, 1) := by decide +kernel
theorem d_C_count_1 : decode b_C_count 1 = .ok (.lookupswitch 37 #[(0, 27), (1, 32)], 27) := by decide +kernel
theorem d_C_count_28 : decode b_C_count 28 = .ok (.aload_n 0, 1) := by decide +kernel
theorem d_C_count_29 : decode b_C_count 29 = .ok (.getfield 7, 3) := by decide +kernel
theorem d_C_count_32 : decode b_C_count 32 = .ok (.ireturn, 1) := by decide +kernel
theorem d_C_count_33 : decode b_C_count 33 = .ok (.aload_n 0, 1) := by decide +kernel
theorem d_C_count_34 : decode b_C_count 34 = .ok (.getfield 25, 3) := by decide +kernel
theorem d_C_count_37 : decode b_C_count 37 = .ok (.ireturn, 1) := by decide +kernel
theorem d_C_count_38 : decode b_C_count 38 = .ok (.bipush (-3), 2) := by decide +kernel
theorem d_C_count_40 : decode b_C_count 40 = .ok (.ireturn, 1) := by decide +kernel
theorem d_C_told_0 : decode b_C_told 0 = .ok (.aload_n 0, 1) := by decide +kernel
theorem d_C_told_1 : decode b_C_told 1 = .ok (.iload_n 1, 1) := by decide +kernel
theorem d_C_told_2 : decode b_C_told 2 = .ok (.invokevirtual 40, 3) := by decide +kernel
theorem d_C_told_5 : decode b_C_told 5 = .ok (.ifCond .ne 6, 3) := by decide +kernel
theorem d_C_told_8 : decode b_C_told 8 = .ok (.bipush (-2), 2) := by decide +kernel
theorem d_C_told_10 : decode b_C_told 10 = .ok (.ireturn, 1) := by decide +kernel
theorem d_C_told_11 : decode b_C_told 11 = .ok (.iload_n 2, 1) := by decide +kernel
theorem d_C_told_12 : decode b_C_told 12 = .ok (.tableswitch 110 0 8 #[52, 58, 64, 70, 76, 82, 89, 96, 103], 52) := by decide +kernel
theorem d_C_told_64 : decode b_C_told 64 = .ok (.aload_n 0, 1) := by decide +kernel
theorem d_C_told_65 : decode b_C_told 65 = .ok (.iload_n 1, 1) := by decide +kernel
theorem d_C_told_66 : decode b_C_told 66 = .ok (.invokevirtual 44, 3) := by decide +kernel
theorem d_C_told_69 : decode b_C_told 69 = .ok (.ireturn, 1) := by decide +kernel
theorem d_C_told_70 : decode b_C_told 70 = .ok (.aload_n 0, 1) := by decide +kernel
theorem d_C_told_71 : decode b_C_told 71 = .ok (.iload_n 1, 1) := by decide +kernel
theorem d_C_told_72 : decode b_C_told 72 = .ok (.invokevirtual 74, 3) := by decide +kernel
theorem d_C_told_75 : decode b_C_told 75 = .ok (.ireturn, 1) := by decide +kernel
theorem d_C_told_76 : decode b_C_told 76 = .ok (.aload_n 0, 1) := by decide +kernel
theorem d_C_told_77 : decode b_C_told 77 = .ok (.iload_n 1, 1) := by decide +kernel
theorem d_C_told_78 : decode b_C_told 78 = .ok (.invokevirtual 77, 3) := by decide +kernel
theorem d_C_told_81 : decode b_C_told 81 = .ok (.ireturn, 1) := by decide +kernel
theorem d_C_told_82 : decode b_C_told 82 = .ok (.aload_n 0, 1) := by decide +kernel
theorem d_C_told_83 : decode b_C_told 83 = .ok (.iload_n 1, 1) := by decide +kernel
theorem d_C_told_84 : decode b_C_told 84 = .ok (.invokevirtual 80, 3) := by decide +kernel
theorem d_C_told_87 : decode b_C_told 87 = .ok (.ireturn, 1) := by decide +kernel
theorem d_C_told_88 : decode b_C_told 88 = .ok (.aload_n 0, 1) := by decide +kernel
theorem d_C_told_89 : decode b_C_told 89 = .ok (.iload_n 1, 1) := by decide +kernel
theorem d_C_told_90 : decode b_C_told 90 = .ok (.invokevirtual 83, 3) := by decide +kernel
theorem d_C_told_93 : decode b_C_told 93 = .ok (.ireturn, 1) := by decide +kernel
theorem d_C_told_94 : decode b_C_told 94 = .ok (.aload_n 0, 1) := by decide +kernel
theorem d_C_told_95 : decode b_C_told 95 = .ok (.iload_n 1, 1) := by decide +kernel
theorem d_C_told_96 : decode b_C_told 96 = .ok (.iconst 0, 1) := by decide +kernel
theorem d_C_told_97 : decode b_C_told 97 = .ok (.invokevirtual 86, 3) := by decide +kernel
theorem d_C_told_100 : decode b_C_told 100 = .ok (.ireturn, 1) := by decide +kernel
theorem d_C_told_101 : decode b_C_told 101 = .ok (.aload_n 0, 1) := by decide +kernel
theorem d_C_told_102 : decode b_C_told 102 = .ok (.iload_n 1, 1) := by decide +kernel
theorem d_C_told_103 : decode b_C_told 103 = .ok (.iconst 1, 1) := by decide +kernel
theorem d_C_told_104 : decode b_C_told 104 = .ok (.invokevirtual 86, 3) := by decide +kernel
theorem d_C_told_107 : decode b_C_told 107 = .ok (.ireturn, 1) := by decide +kernel
theorem d_C_told_108 : decode b_C_told 108 = .ok (.aload_n 0, 1) := by decide +kernel
theorem d_C_told_109 : decode b_C_told 109 = .ok (.iload_n 1, 1) := by decide +kernel
theorem d_C_told_110 : decode b_C_told 110 = .ok (.iconst 2, 1) := by decide +kernel
theorem d_C_told_111 : decode b_C_told 111 = .ok (.invokevirtual 86, 3) := by decide +kernel
theorem d_C_told_114 : decode b_C_told 114 = .ok (.ireturn, 1) := by decide +kernel
theorem d_C_told_115 : decode b_C_told 115 = .ok (.aload_n 0, 1) := by decide +kernel
theorem d_C_told_116 : decode b_C_told 116 = .ok (.iload_n 1, 1) := by decide +kernel
theorem d_C_told_117 : decode b_C_told 117 = .ok (.iconst 3, 1) := by decide +kernel
theorem d_C_told_118 : decode b_C_told 118 = .ok (.invokevirtual 86, 3) := by decide +kernel
theorem d_C_told_121 : decode b_C_told 121 = .ok (.ireturn, 1) := by decide +kernel
theorem d_C_told_122 : decode b_C_told 122 = .ok (.bipush (-3), 2) := by decide +kernel
theorem d_C_told_124 : decode b_C_told 124 = .ok (.ireturn, 1) := by decide +kernel
theorem d_C_held_0 : decode b_C_held 0 = .ok (.aload_n 0, 1) := by decide +kernel
theorem d_C_held_1 : decode b_C_held 1 = .ok (.iload_n 1, 1) := by decide +kernel
theorem d_C_held_2 : decode b_C_held 2 = .ok (.invokevirtual 40, 3) := by decide +kernel
theorem d_C_held_5 : decode b_C_held 5 = .ok (.ifCond .ne 6, 3) := by decide +kernel
theorem d_C_held_8 : decode b_C_held 8 = .ok (.bipush (-2), 2) := by decide +kernel
theorem d_C_held_10 : decode b_C_held 10 = .ok (.ireturn, 1) := by decide +kernel
theorem d_C_held_11 : decode b_C_held 11 = .ok (.iconst 0, 1) := by decide +kernel
theorem d_C_held_12 : decode b_C_held 12 = .ok (.istore_n 3, 1) := by decide +kernel
theorem d_C_held_13 : decode b_C_held 13 = .ok (.iconst 0, 1) := by decide +kernel
theorem d_C_held_14 : decode b_C_held 14 = .ok (.istore 4, 2) := by decide +kernel
theorem d_C_held_16 : decode b_C_held 16 = .ok (.iload 4, 2) := by decide +kernel
theorem d_C_held_18 : decode b_C_held 18 = .ok (.aload_n 0, 1) := by decide +kernel
theorem d_C_held_19 : decode b_C_held 19 = .ok (.getfield 7, 3) := by decide +kernel
theorem d_C_held_22 : decode b_C_held 22 = .ok (.if_icmp .ge 31, 3) := by decide +kernel
theorem d_C_held_25 : decode b_C_held 25 = .ok (.aload_n 0, 1) := by decide +kernel
theorem d_C_held_26 : decode b_C_held 26 = .ok (.getfield 17, 3) := by decide +kernel
theorem d_C_held_29 : decode b_C_held 29 = .ok (.iload 4, 2) := by decide +kernel
theorem d_C_held_31 : decode b_C_held 31 = .ok (.iaload, 1) := by decide +kernel
theorem d_C_held_32 : decode b_C_held 32 = .ok (.iload_n 1, 1) := by decide +kernel
theorem d_C_held_33 : decode b_C_held 33 = .ok (.if_icmp .ne 14, 3) := by decide +kernel
theorem d_C_held_36 : decode b_C_held 36 = .ok (.iload_n 3, 1) := by decide +kernel
theorem d_C_held_37 : decode b_C_held 37 = .ok (.iload_n 2, 1) := by decide +kernel
theorem d_C_held_38 : decode b_C_held 38 = .ok (.if_icmp .ne 6, 3) := by decide +kernel
theorem d_C_held_41 : decode b_C_held 41 = .ok (.iload 4, 2) := by decide +kernel
theorem d_C_held_43 : decode b_C_held 43 = .ok (.ireturn, 1) := by decide +kernel
theorem d_C_held_44 : decode b_C_held 44 = .ok (.iinc 3 1, 3) := by decide +kernel
theorem d_C_held_47 : decode b_C_held 47 = .ok (.iinc 4 1, 3) := by decide +kernel
theorem d_C_held_50 : decode b_C_held 50 = .ok (.goto (-34), 3) := by decide +kernel
theorem d_C_held_53 : decode b_C_held 53 = .ok (.iconst (-1), 1) := by decide +kernel
theorem d_C_held_54 : decode b_C_held 54 = .ok (.ireturn, 1) := by decide +kernel
theorem d_C_space_0 : decode b_C_space 0 = .ok (.aload_n 0, 1) := by decide +kernel
theorem d_C_space_1 : decode b_C_space 1 = .ok (.iload_n 1, 1) := by decide +kernel
theorem d_C_space_2 : decode b_C_space 2 = .ok (.invokevirtual 89, 3) := by decide +kernel
theorem d_C_space_5 : decode b_C_space 5 = .ok (.ifCond .ne 6, 3) := by decide +kernel
theorem d_C_space_8 : decode b_C_space 8 = .ok (.bipush (-2), 2) := by decide +kernel
theorem d_C_space_10 : decode b_C_space 10 = .ok (.ireturn, 1) := by decide +kernel
theorem d_C_space_11 : decode b_C_space 11 = .ok (.iload_n 2, 1) := by decide +kernel
theorem d_C_space_12 : decode b_C_space 12 = .ok (.ifCond .lt 8, 3) := by decide +kernel
theorem d_C_space_15 : decode b_C_space 15 = .ok (.iload_n 2, 1) := by decide +kernel
theorem d_C_space_16 : decode b_C_space 16 = .ok (.iconst 1, 1) := by decide +kernel
theorem d_C_space_17 : decode b_C_space 17 = .ok (.if_icmp .le 6, 3) := by decide +kernel
theorem d_C_space_20 : decode b_C_space 20 = .ok (.bipush (-3), 2) := by decide +kernel
theorem d_C_space_22 : decode b_C_space 22 = .ok (.ireturn, 1) := by decide +kernel
theorem d_C_space_23 : decode b_C_space 23 = .ok (.aload_n 0, 1) := by decide +kernel
theorem d_C_space_24 : decode b_C_space 24 = .ok (.iconst 2, 1) := by decide +kernel
theorem d_C_space_25 : decode b_C_space 25 = .ok (.iload_n 2, 1) := by decide +kernel
theorem d_C_space_26 : decode b_C_space 26 = .ok (.iadd, 1) := by decide +kernel
theorem d_C_space_27 : decode b_C_space 27 = .ok (.invokevirtual 92, 3) := by decide +kernel
theorem d_C_space_30 : decode b_C_space 30 = .ok (.aload_n 0, 1) := by decide +kernel
theorem d_C_space_31 : decode b_C_space 31 = .ok (.getfield 37, 3) := by decide +kernel
theorem d_C_space_34 : decode b_C_space 34 = .ok (.iload_n 1, 1) := by decide +kernel
theorem d_C_space_35 : decode b_C_space 35 = .ok (.iaload, 1) := by decide +kernel
theorem d_C_space_36 : decode b_C_space 36 = .ok (.ireturn, 1) := by decide +kernel
theorem d_C_loses_0 : decode b_C_loses 0 = .ok (.aload_n 0, 1) := by decide +kernel
theorem d_C_loses_1 : decode b_C_loses 1 = .ok (.iload_n 1, 1) := by decide +kernel
theorem d_C_loses_2 : decode b_C_loses 2 = .ok (.invokevirtual 89, 3) := by decide +kernel
theorem d_C_loses_5 : decode b_C_loses 5 = .ok (.ifCond .eq 11, 3) := by decide +kernel
theorem d_C_loses_8 : decode b_C_loses 8 = .ok (.aload_n 0, 1) := by decide +kernel
theorem d_C_loses_9 : decode b_C_loses 9 = .ok (.iload_n 2, 1) := by decide +kernel
theorem d_C_loses_10 : decode b_C_loses 10 = .ok (.invokevirtual 89, 3) := by decide +kernel
theorem d_C_loses_13 : decode b_C_loses 13 = .ok (.ifCond .ne 6, 3) := by decide +kernel
theorem d_C_loses_16 : decode b_C_loses 16 = .ok (.bipush (-2), 2) := by decide +kernel
theorem d_C_loses_18 : decode b_C_loses 18 = .ok (.ireturn, 1) := by decide +kernel
theorem d_C_loses_19 : decode b_C_loses 19 = .ok (.iload_n 3, 1) := by decide +kernel
theorem d_C_loses_20 : decode b_C_loses 20 = .ok (.ifCond .lt 8, 3) := by decide +kernel
theorem d_C_loses_23 : decode b_C_loses 23 = .ok (.iload_n 3, 1) := by decide +kernel
theorem d_C_loses_24 : decode b_C_loses 24 = .ok (.iconst 1, 1) := by decide +kernel
theorem d_C_loses_25 : decode b_C_loses 25 = .ok (.if_icmp .le 6, 3) := by decide +kernel
theorem d_C_loses_28 : decode b_C_loses 28 = .ok (.bipush (-3), 2) := by decide +kernel
theorem d_C_loses_30 : decode b_C_loses 30 = .ok (.ireturn, 1) := by decide +kernel
theorem d_C_loses_31 : decode b_C_loses 31 = .ok (.aload_n 0, 1) := by decide +kernel
theorem d_C_loses_32 : decode b_C_loses 32 = .ok (.iload_n 1, 1) := by decide +kernel
theorem d_C_loses_33 : decode b_C_loses 33 = .ok (.iconst 2, 1) := by decide +kernel
theorem d_C_loses_34 : decode b_C_loses 34 = .ok (.iload_n 3, 1) := by decide +kernel
theorem d_C_loses_35 : decode b_C_loses 35 = .ok (.iadd, 1) := by decide +kernel
theorem d_C_loses_36 : decode b_C_loses 36 = .ok (.invokevirtual 96, 3) := by decide +kernel
theorem d_C_loses_39 : decode b_C_loses 39 = .ok (.aload_n 0, 1) := by decide +kernel
theorem d_C_loses_40 : decode b_C_loses 40 = .ok (.iload_n 2, 1) := by decide +kernel
theorem d_C_loses_41 : decode b_C_loses 41 = .ok (.invokevirtual 100, 3) := by decide +kernel
theorem d_C_loses_44 : decode b_C_loses 44 = .ok (.ireturn, 1) := by decide +kernel
theorem d_C_sees_0 : decode b_C_sees 0 = .ok (.aload_n 0, 1) := by decide +kernel
theorem d_C_sees_1 : decode b_C_sees 1 = .ok (.iload_n 1, 1) := by decide +kernel
theorem d_C_sees_2 : decode b_C_sees 2 = .ok (.invokevirtual 58, 3) := by decide +kernel
theorem d_C_sees_5 : decode b_C_sees 5 = .ok (.ifCond .eq 11, 3) := by decide +kernel
theorem d_C_sees_8 : decode b_C_sees 8 = .ok (.aload_n 0, 1) := by decide +kernel
theorem d_C_sees_9 : decode b_C_sees 9 = .ok (.iload_n 2, 1) := by decide +kernel
theorem d_C_sees_10 : decode b_C_sees 10 = .ok (.invokevirtual 40, 3) := by decide +kernel
theorem d_C_sees_13 : decode b_C_sees 13 = .ok (.ifCond .ne 6, 3) := by decide +kernel
theorem d_C_sees_16 : decode b_C_sees 16 = .ok (.bipush (-2), 2) := by decide +kernel
theorem d_C_sees_18 : decode b_C_sees 18 = .ok (.ireturn, 1) := by decide +kernel
theorem d_C_sees_19 : decode b_C_sees 19 = .ok (.iload_n 1, 1) := by decide +kernel
theorem d_C_sees_20 : decode b_C_sees 20 = .ok (.iload_n 2, 1) := by decide +kernel
theorem d_C_sees_21 : decode b_C_sees 21 = .ok (.if_icmp .ne 5, 3) := by decide +kernel
theorem d_C_sees_24 : decode b_C_sees 24 = .ok (.iconst 0, 1) := by decide +kernel
theorem d_C_sees_25 : decode b_C_sees 25 = .ok (.ireturn, 1) := by decide +kernel
theorem d_C_sees_26 : decode b_C_sees 26 = .ok (.aload_n 0, 1) := by decide +kernel
theorem d_C_sees_27 : decode b_C_sees 27 = .ok (.iconst 2, 1) := by decide +kernel
theorem d_C_sees_28 : decode b_C_sees 28 = .ok (.invokevirtual 92, 3) := by decide +kernel
theorem d_C_sees_31 : decode b_C_sees 31 = .ok (.aload_n 0, 1) := by decide +kernel
theorem d_C_sees_32 : decode b_C_sees 32 = .ok (.iload_n 2, 1) := by decide +kernel
theorem d_C_sees_33 : decode b_C_sees 33 = .ok (.aload_n 0, 1) := by decide +kernel
theorem d_C_sees_34 : decode b_C_sees 34 = .ok (.iload_n 1, 1) := by decide +kernel
theorem d_C_sees_35 : decode b_C_sees 35 = .ok (.invokevirtual 103, 3) := by decide +kernel
theorem d_C_sees_38 : decode b_C_sees 38 = .ok (.invokevirtual 106, 3) := by decide +kernel
theorem d_C_sees_41 : decode b_C_sees 41 = .ok (.ifCond .eq 7, 3) := by decide +kernel
theorem d_C_sees_44 : decode b_C_sees 44 = .ok (.iconst 1, 1) := by decide +kernel
theorem d_C_sees_45 : decode b_C_sees 45 = .ok (.goto 4, 3) := by decide +kernel
theorem d_C_sees_48 : decode b_C_sees 48 = .ok (.iconst 0, 1) := by decide +kernel
theorem d_C_sees_49 : decode b_C_sees 49 = .ok (.ireturn, 1) := by decide +kernel
theorem d_C_barrier_0 : decode b_C_barrier 0 = .ok (.aload_n 0, 1) := by decide +kernel
theorem d_C_barrier_1 : decode b_C_barrier 1 = .ok (.iload_n 1, 1) := by decide +kernel
theorem d_C_barrier_2 : decode b_C_barrier 2 = .ok (.invokevirtual 58, 3) := by decide +kernel
theorem d_C_barrier_5 : decode b_C_barrier 5 = .ok (.ifCond .eq 11, 3) := by decide +kernel
theorem d_C_barrier_8 : decode b_C_barrier 8 = .ok (.aload_n 0, 1) := by decide +kernel
theorem d_C_barrier_9 : decode b_C_barrier 9 = .ok (.iload_n 2, 1) := by decide +kernel
theorem d_C_barrier_10 : decode b_C_barrier 10 = .ok (.invokevirtual 40, 3) := by decide +kernel
theorem d_C_barrier_13 : decode b_C_barrier 13 = .ok (.ifCond .ne 6, 3) := by decide +kernel
theorem d_C_barrier_16 : decode b_C_barrier 16 = .ok (.bipush (-2), 2) := by decide +kernel
theorem d_C_barrier_18 : decode b_C_barrier 18 = .ok (.ireturn, 1) := by decide +kernel
theorem d_C_barrier_19 : decode b_C_barrier 19 = .ok (.iload_n 1, 1) := by decide +kernel
theorem d_C_barrier_20 : decode b_C_barrier 20 = .ok (.iload_n 2, 1) := by decide +kernel
theorem d_C_barrier_21 : decode b_C_barrier 21 = .ok (.if_icmp .ne 7, 3) := by decide +kernel
theorem d_C_barrier_24 : decode b_C_barrier 24 = .ok (.iconst (-1), 1) := by decide +kernel
theorem d_C_barrier_25 : decode b_C_barrier 25 = .ok (.goto 9, 3) := by decide +kernel
theorem d_C_barrier_28 : decode b_C_barrier 28 = .ok (.aload_n 0, 1) := by decide +kernel
theorem d_C_barrier_29 : decode b_C_barrier 29 = .ok (.iload_n 1, 1) := by decide +kernel
theorem d_C_barrier_30 : decode b_C_barrier 30 = .ok (.iload_n 2, 1) := by decide +kernel
theorem d_C_barrier_31 : decode b_C_barrier 31 = .ok (.invokevirtual 61, 3) := by decide +kernel
theorem d_C_barrier_34 : decode b_C_barrier 34 = .ok (.ireturn, 1) := by decide +kernel
theorem d_C_scope_0 : decode b_C_scope 0 = .ok (.aload_n 0, 1) := by decide +kernel
theorem d_C_scope_1 : decode b_C_scope 1 = .ok (.iload_n 1, 1) := by decide +kernel
theorem d_C_scope_2 : decode b_C_scope 2 = .ok (.invokevirtual 58, 3) := by decide +kernel
theorem d_C_scope_5 : decode b_C_scope 5 = .ok (.ifCond .ne 6, 3) := by decide +kernel
theorem d_C_scope_8 : decode b_C_scope 8 = .ok (.bipush (-2), 2) := by decide +kernel
theorem d_C_scope_10 : decode b_C_scope 10 = .ok (.ireturn, 1) := by decide +kernel
theorem d_C_scope_11 : decode b_C_scope 11 = .ok (.aload_n 0, 1) := by decide +kernel
theorem d_C_scope_12 : decode b_C_scope 12 = .ok (.iconst 2, 1) := by decide +kernel
theorem d_C_scope_13 : decode b_C_scope 13 = .ok (.invokevirtual 92, 3) := by decide +kernel
theorem d_C_scope_16 : decode b_C_scope 16 = .ok (.aload_n 0, 1) := by decide +kernel
theorem d_C_scope_17 : decode b_C_scope 17 = .ok (.iload_n 1, 1) := by decide +kernel
theorem d_C_scope_18 : decode b_C_scope 18 = .ok (.invokevirtual 103, 3) := by decide +kernel
theorem d_C_scope_21 : decode b_C_scope 21 = .ok (.istore_n 3, 1) := by decide +kernel
theorem d_C_scope_22 : decode b_C_scope 22 = .ok (.iconst 0, 1) := by decide +kernel
theorem d_C_scope_23 : decode b_C_scope 23 = .ok (.istore 4, 2) := by decide +kernel
theorem d_C_scope_25 : decode b_C_scope 25 = .ok (.iconst 0, 1) := by decide +kernel
theorem d_C_scope_26 : decode b_C_scope 26 = .ok (.istore 5, 2) := by decide +kernel
theorem d_C_scope_28 : decode b_C_scope 28 = .ok (.iload 5, 2) := by decide +kernel
theorem d_C_scope_30 : decode b_C_scope 30 = .ok (.aload_n 0, 1) := by decide +kernel
theorem d_C_scope_31 : decode b_C_scope 31 = .ok (.getfield 7, 3) := by decide +kernel
theorem d_C_scope_34 : decode b_C_scope 34 = .ok (.if_icmp .ge 48, 3) := by decide +kernel
theorem d_C_scope_37 : decode b_C_scope 37 = .ok (.iload 5, 2) := by decide +kernel
theorem d_C_scope_39 : decode b_C_scope 39 = .ok (.iload_n 1, 1) := by decide +kernel
theorem d_C_scope_40 : decode b_C_scope 40 = .ok (.if_icmp .eq 36, 3) := by decide +kernel
theorem d_C_scope_43 : decode b_C_scope 43 = .ok (.aload_n 0, 1) := by decide +kernel
theorem d_C_scope_44 : decode b_C_scope 44 = .ok (.iload 5, 2) := by decide +kernel
theorem d_C_scope_46 : decode b_C_scope 46 = .ok (.iload_n 3, 1) := by decide +kernel
theorem d_C_scope_47 : decode b_C_scope 47 = .ok (.invokevirtual 106, 3) := by decide +kernel
theorem d_C_scope_50 : decode b_C_scope 50 = .ok (.ifCond .ne 14, 3) := by decide +kernel
theorem d_C_scope_53 : decode b_C_scope 53 = .ok (.aload_n 0, 1) := by decide +kernel
theorem d_C_scope_54 : decode b_C_scope 54 = .ok (.iload_n 1, 1) := by decide +kernel
theorem d_C_scope_55 : decode b_C_scope 55 = .ok (.iload 5, 2) := by decide +kernel
theorem d_C_scope_57 : decode b_C_scope 57 = .ok (.invokevirtual 61, 3) := by decide +kernel
theorem d_C_scope_60 : decode b_C_scope 60 = .ok (.iconst (-1), 1) := by decide +kernel
theorem d_C_scope_61 : decode b_C_scope 61 = .ok (.if_icmp .ne 15, 3) := by decide +kernel
theorem d_C_scope_64 : decode b_C_scope 64 = .ok (.iload 4, 2) := by decide +kernel
theorem d_C_scope_66 : decode b_C_scope 66 = .ok (.iload_n 2, 1) := by decide +kernel
theorem d_C_scope_67 : decode b_C_scope 67 = .ok (.if_icmp .ne 6, 3) := by decide +kernel
theorem d_C_scope_70 : decode b_C_scope 70 = .ok (.iload 5, 2) := by decide +kernel
theorem d_C_scope_72 : decode b_C_scope 72 = .ok (.ireturn, 1) := by decide +kernel
theorem d_C_scope_73 : decode b_C_scope 73 = .ok (.iinc 4 1, 3) := by decide +kernel
theorem d_C_scope_76 : decode b_C_scope 76 = .ok (.iinc 5 1, 3) := by decide +kernel
theorem d_C_scope_79 : decode b_C_scope 79 = .ok (.goto (-51), 3) := by decide +kernel
theorem d_C_scope_82 : decode b_C_scope 82 = .ok (.iconst (-1), 1) := by decide +kernel
theorem d_C_scope_83 : decode b_C_scope 83 = .ok (.ireturn, 1) := by decide +kernel
theorem d_C_hears_0 : decode b_C_hears 0 = .ok (.aload_n 0, 1) := by decide +kernel
theorem d_C_hears_1 : decode b_C_hears 1 = .ok (.iload_n 1, 1) := by decide +kernel
theorem d_C_hears_2 : decode b_C_hears 2 = .ok (.invokevirtual 58, 3) := by decide +kernel
theorem d_C_hears_5 : decode b_C_hears 5 = .ok (.ifCond .ne 6, 3) := by decide +kernel
theorem d_C_hears_8 : decode b_C_hears 8 = .ok (.bipush (-2), 2) := by decide +kernel
theorem d_C_hears_10 : decode b_C_hears 10 = .ok (.ireturn, 1) := by decide +kernel
theorem d_C_hears_11 : decode b_C_hears 11 = .ok (.aload_n 0, 1) := by decide +kernel
theorem d_C_hears_12 : decode b_C_hears 12 = .ok (.iload_n 1, 1) := by decide +kernel
theorem d_C_hears_13 : decode b_C_hears 13 = .ok (.invokevirtual 77, 3) := by decide +kernel
theorem d_C_hears_16 : decode b_C_hears 16 = .ok (.istore_n 2, 1) := by decide +kernel
theorem d_C_hears_17 : decode b_C_hears 17 = .ok (.iload_n 2, 1) := by decide +kernel
theorem d_C_hears_18 : decode b_C_hears 18 = .ok (.iconst (-1), 1) := by decide +kernel
theorem d_C_hears_19 : decode b_C_hears 19 = .ok (.if_icmp .ne 5, 3) := by decide +kernel
theorem d_C_hears_22 : decode b_C_hears 22 = .ok (.iconst (-1), 1) := by decide +kernel
theorem d_C_hears_23 : decode b_C_hears 23 = .ok (.ireturn, 1) := by decide +kernel
theorem d_C_hears_24 : decode b_C_hears 24 = .ok (.aload_n 0, 1) := by decide +kernel
theorem d_C_hears_25 : decode b_C_hears 25 = .ok (.iload_n 2, 1) := by decide +kernel
theorem d_C_hears_26 : decode b_C_hears 26 = .ok (.iconst 3, 1) := by decide +kernel
theorem d_C_hears_27 : decode b_C_hears 27 = .ok (.invokevirtual 96, 3) := by decide +kernel
theorem d_C_hears_30 : decode b_C_hears 30 = .ok (.iconst (-1), 1) := by decide +kernel
theorem d_C_hears_31 : decode b_C_hears 31 = .ok (.istore_n 3, 1) := by decide +kernel
theorem d_C_hears_32 : decode b_C_hears 32 = .ok (.iconst 0, 1) := by decide +kernel
theorem d_C_hears_33 : decode b_C_hears 33 = .ok (.istore 4, 2) := by decide +kernel
theorem d_C_hears_35 : decode b_C_hears 35 = .ok (.iconst 0, 1) := by decide +kernel
theorem d_C_hears_36 : decode b_C_hears 36 = .ok (.istore 5, 2) := by decide +kernel
theorem d_C_hears_38 : decode b_C_hears 38 = .ok (.iload 5, 2) := by decide +kernel
theorem d_C_hears_40 : decode b_C_hears 40 = .ok (.aload_n 0, 1) := by decide +kernel
theorem d_C_hears_41 : decode b_C_hears 41 = .ok (.getfield 7, 3) := by decide +kernel
theorem d_C_hears_44 : decode b_C_hears 44 = .ok (.if_icmp .ge 41, 3) := by decide +kernel
theorem d_C_hears_47 : decode b_C_hears 47 = .ok (.iload 5, 2) := by decide +kernel
theorem d_C_hears_49 : decode b_C_hears 49 = .ok (.iload_n 1, 1) := by decide +kernel
theorem d_C_hears_50 : decode b_C_hears 50 = .ok (.if_icmp .ne 7, 3) := by decide +kernel
theorem d_C_hears_53 : decode b_C_hears 53 = .ok (.iconst 0, 1) := by decide +kernel
theorem d_C_hears_54 : decode b_C_hears 54 = .ok (.goto 9, 3) := by decide +kernel
theorem d_C_hears_57 : decode b_C_hears 57 = .ok (.aload_n 0, 1) := by decide +kernel
theorem d_C_hears_58 : decode b_C_hears 58 = .ok (.iload 5, 2) := by decide +kernel
theorem d_C_hears_60 : decode b_C_hears 60 = .ok (.invokevirtual 109, 3) := by decide +kernel
theorem d_C_hears_63 : decode b_C_hears 63 = .ok (.istore 6, 2) := by decide +kernel
theorem d_C_hears_65 : decode b_C_hears 65 = .ok (.iload 6, 2) := by decide +kernel
theorem d_C_hears_67 : decode b_C_hears 67 = .ok (.iload 4, 2) := by decide +kernel
theorem d_C_hears_69 : decode b_C_hears 69 = .ok (.if_icmp .le 10, 3) := by decide +kernel
theorem d_C_hears_72 : decode b_C_hears 72 = .ok (.iload 6, 2) := by decide +kernel
theorem d_C_hears_74 : decode b_C_hears 74 = .ok (.istore 4, 2) := by decide +kernel
theorem d_C_hears_76 : decode b_C_hears 76 = .ok (.iload 5, 2) := by decide +kernel
theorem d_C_hears_78 : decode b_C_hears 78 = .ok (.istore_n 3, 1) := by decide +kernel
theorem d_C_hears_79 : decode b_C_hears 79 = .ok (.iinc 5 1, 3) := by decide +kernel
theorem d_C_hears_82 : decode b_C_hears 82 = .ok (.goto (-44), 3) := by decide +kernel
theorem d_C_hears_85 : decode b_C_hears 85 = .ok (.iload_n 3, 1) := by decide +kernel
theorem d_C_hears_86 : decode b_C_hears 86 = .ok (.ireturn, 1) := by decide +kernel
theorem d_C_isThing_0 : decode b_C_isThing 0 = .ok (.iload_n 1, 1) := by decide +kernel
theorem d_C_isThing_1 : decode b_C_isThing 1 = .ok (.ifCond .lt 15, 3) := by decide +kernel
theorem d_C_isThing_4 : decode b_C_isThing 4 = .ok (.iload_n 1, 1) := by decide +kernel
theorem d_C_isThing_5 : decode b_C_isThing 5 = .ok (.aload_n 0, 1) := by decide +kernel
theorem d_C_isThing_6 : decode b_C_isThing 6 = .ok (.getfield 7, 3) := by decide +kernel
theorem d_C_isThing_9 : decode b_C_isThing 9 = .ok (.if_icmp .ge 7, 3) := by decide +kernel
theorem d_C_isThing_12 : decode b_C_isThing 12 = .ok (.iconst 1, 1) := by decide +kernel
theorem d_C_isThing_13 : decode b_C_isThing 13 = .ok (.goto 4, 3) := by decide +kernel
theorem d_C_isThing_16 : decode b_C_isThing 16 = .ok (.iconst 0, 1) := by decide +kernel
theorem d_C_isThing_17 : decode b_C_isThing 17 = .ok (.ireturn, 1) := by decide +kernel
theorem d_C_isDoor_0 : decode b_C_isDoor 0 = .ok (.iload_n 1, 1) := by decide +kernel
theorem d_C_isDoor_1 : decode b_C_isDoor 1 = .ok (.ifCond .lt 15, 3) := by decide +kernel
theorem d_C_isDoor_4 : decode b_C_isDoor 4 = .ok (.iload_n 1, 1) := by decide +kernel
theorem d_C_isDoor_5 : decode b_C_isDoor 5 = .ok (.aload_n 0, 1) := by decide +kernel
theorem d_C_isDoor_6 : decode b_C_isDoor 6 = .ok (.getfield 25, 3) := by decide +kernel
theorem d_C_isDoor_9 : decode b_C_isDoor 9 = .ok (.if_icmp .ge 7, 3) := by decide +kernel
theorem d_C_isDoor_12 : decode b_C_isDoor 12 = .ok (.iconst 1, 1) := by decide +kernel
theorem d_C_isDoor_13 : decode b_C_isDoor 13 = .ok (.goto 4, 3) := by decide +kernel
theorem d_C_isDoor_16 : decode b_C_isDoor 16 = .ok (.iconst 0, 1) := by decide +kernel
theorem d_C_isDoor_17 : decode b_C_isDoor 17 = .ok (.ireturn, 1) := by decide +kernel
theorem d_C_sortOf_0 : decode b_C_sortOf 0 = .ok (.aload_n 0, 1) := by decide +kernel
theorem d_C_sortOf_1 : decode b_C_sortOf 1 = .ok (.iload_n 1, 1) := by decide +kernel
theorem d_C_sortOf_2 : decode b_C_sortOf 2 = .ok (.invokevirtual 40, 3) := by decide +kernel
theorem d_C_sortOf_5 : decode b_C_sortOf 5 = .ok (.ifCond .eq 12, 3) := by decide +kernel
theorem d_C_sortOf_8 : decode b_C_sortOf 8 = .ok (.aload_n 0, 1) := by decide +kernel
theorem d_C_sortOf_9 : decode b_C_sortOf 9 = .ok (.getfield 13, 3) := by decide +kernel
theorem d_C_sortOf_12 : decode b_C_sortOf 12 = .ok (.iload_n 1, 1) := by decide +kernel
theorem d_C_sortOf_13 : decode b_C_sortOf 13 = .ok (.iaload, 1) := by decide +kernel
theorem d_C_sortOf_14 : decode b_C_sortOf 14 = .ok (.goto 4, 3) := by decide +kernel
theorem d_C_sortOf_17 : decode b_C_sortOf 17 = .ok (.iconst (-1), 1) := by decide +kernel
theorem d_C_sortOf_18 : decode b_C_sortOf 18 = .ok (.ireturn, 1) := by decide +kernel
theorem d_C_holderOf_0 : decode b_C_holderOf 0 = .ok (.aload_n 0, 1) := by decide +kernel
theorem d_C_holderOf_1 : decode b_C_holderOf 1 = .ok (.iload_n 1, 1) := by decide +kernel
theorem d_C_holderOf_2 : decode b_C_holderOf 2 = .ok (.invokevirtual 40, 3) := by decide +kernel
theorem d_C_holderOf_5 : decode b_C_holderOf 5 = .ok (.ifCond .eq 12, 3) := by decide +kernel
theorem d_C_holderOf_8 : decode b_C_holderOf 8 = .ok (.aload_n 0, 1) := by decide +kernel
theorem d_C_holderOf_9 : decode b_C_holderOf 9 = .ok (.getfield 17, 3) := by decide +kernel
theorem d_C_holderOf_12 : decode b_C_holderOf 12 = .ok (.iload_n 1, 1) := by decide +kernel
theorem d_C_holderOf_13 : decode b_C_holderOf 13 = .ok (.iaload, 1) := by decide +kernel
theorem d_C_holderOf_14 : decode b_C_holderOf 14 = .ok (.goto 4, 3) := by decide +kernel
theorem d_C_holderOf_17 : decode b_C_holderOf 17 = .ok (.iconst (-1), 1) := by decide +kernel
theorem d_C_holderOf_18 : decode b_C_holderOf 18 = .ok (.ireturn, 1) := by decide +kernel
theorem d_C_markOf_0 : decode b_C_markOf 0 = .ok (.aload_n 0, 1) := by decide +kernel
theorem d_C_markOf_1 : decode b_C_markOf 1 = .ok (.iload_n 1, 1) := by decide +kernel
theorem d_C_markOf_2 : decode b_C_markOf 2 = .ok (.invokevirtual 40, 3) := by decide +kernel
theorem d_C_markOf_5 : decode b_C_markOf 5 = .ok (.ifCond .eq 23, 3) := by decide +kernel
theorem d_C_markOf_8 : decode b_C_markOf 8 = .ok (.iload_n 2, 1) := by decide +kernel
theorem d_C_markOf_9 : decode b_C_markOf 9 = .ok (.ifCond .lt 19, 3) := by decide +kernel
theorem d_C_markOf_12 : decode b_C_markOf 12 = .ok (.iload_n 2, 1) := by decide +kernel
theorem d_C_markOf_13 : decode b_C_markOf 13 = .ok (.iconst 4, 1) := by decide +kernel
theorem d_C_markOf_14 : decode b_C_markOf 14 = .ok (.if_icmp .ge 14, 3) := by decide +kernel
theorem d_C_markOf_17 : decode b_C_markOf 17 = .ok (.aload_n 0, 1) := by decide +kernel
theorem d_C_markOf_18 : decode b_C_markOf 18 = .ok (.getfield 22, 3) := by decide +kernel
theorem d_C_markOf_21 : decode b_C_markOf 21 = .ok (.iload_n 2, 1) := by decide +kernel
theorem d_C_markOf_22 : decode b_C_markOf 22 = .ok (.aaload, 1) := by decide +kernel
theorem d_C_markOf_23 : decode b_C_markOf 23 = .ok (.iload_n 1, 1) := by decide +kernel
theorem d_C_markOf_24 : decode b_C_markOf 24 = .ok (.iaload, 1) := by decide +kernel
theorem d_C_markOf_25 : decode b_C_markOf 25 = .ok (.goto 4, 3) := by decide +kernel
theorem d_C_markOf_28 : decode b_C_markOf 28 = .ok (.iconst 0, 1) := by decide +kernel
theorem d_C_markOf_29 : decode b_C_markOf 29 = .ok (.ireturn, 1) := by decide +kernel
theorem d_C_isPerson_0 : decode b_C_isPerson 0 = .ok (.aload_n 0, 1) := by decide +kernel
theorem d_C_isPerson_1 : decode b_C_isPerson 1 = .ok (.iload_n 1, 1) := by decide +kernel
theorem d_C_isPerson_2 : decode b_C_isPerson 2 = .ok (.invokevirtual 44, 3) := by decide +kernel
theorem d_C_isPerson_5 : decode b_C_isPerson 5 = .ok (.iconst 3, 1) := by decide +kernel
theorem d_C_isPerson_6 : decode b_C_isPerson 6 = .ok (.if_icmp .ne 7, 3) := by decide +kernel
theorem d_C_isPerson_9 : decode b_C_isPerson 9 = .ok (.iconst 1, 1) := by decide +kernel
theorem d_C_isPerson_10 : decode b_C_isPerson 10 = .ok (.goto 4, 3) := by decide +kernel
theorem d_C_isPerson_13 : decode b_C_isPerson 13 = .ok (.iconst 0, 1) := by decide +kernel
theorem d_C_isPerson_14 : decode b_C_isPerson 14 = .ok (.ireturn, 1) := by decide +kernel
theorem d_C_isShutBox_0 : decode b_C_isShutBox 0 = .ok (.aload_n 0, 1) := by decide +kernel
theorem d_C_isShutBox_1 : decode b_C_isShutBox 1 = .ok (.iload_n 1, 1) := by decide +kernel
theorem d_C_isShutBox_2 : decode b_C_isShutBox 2 = .ok (.invokevirtual 44, 3) := by decide +kernel
theorem d_C_isShutBox_5 : decode b_C_isShutBox 5 = .ok (.iconst 1, 1) := by decide +kernel
theorem d_C_isShutBox_6 : decode b_C_isShutBox 6 = .ok (.if_icmp .ne 16, 3) := by decide +kernel
theorem d_C_isShutBox_9 : decode b_C_isShutBox 9 = .ok (.aload_n 0, 1) := by decide +kernel
theorem d_C_isShutBox_10 : decode b_C_isShutBox 10 = .ok (.iload_n 1, 1) := by decide +kernel
theorem d_C_isShutBox_11 : decode b_C_isShutBox 11 = .ok (.iconst 0, 1) := by decide +kernel
theorem d_C_isShutBox_12 : decode b_C_isShutBox 12 = .ok (.invokevirtual 86, 3) := by decide +kernel
theorem d_C_isShutBox_15 : decode b_C_isShutBox 15 = .ok (.ifCond .ne 7, 3) := by decide +kernel
theorem d_C_isShutBox_18 : decode b_C_isShutBox 18 = .ok (.iconst 1, 1) := by decide +kernel
theorem d_C_isShutBox_19 : decode b_C_isShutBox 19 = .ok (.goto 4, 3) := by decide +kernel
theorem d_C_isShutBox_22 : decode b_C_isShutBox 22 = .ok (.iconst 0, 1) := by decide +kernel
theorem d_C_isShutBox_23 : decode b_C_isShutBox 23 = .ok (.ireturn, 1) := by decide +kernel
theorem d_C_isSpace_0 : decode b_C_isSpace 0 = .ok (.aload_n 0, 1) := by decide +kernel
theorem d_C_isSpace_1 : decode b_C_isSpace 1 = .ok (.iload_n 1, 1) := by decide +kernel
theorem d_C_isSpace_2 : decode b_C_isSpace 2 = .ok (.invokevirtual 44, 3) := by decide +kernel
theorem d_C_isSpace_5 : decode b_C_isSpace 5 = .ok (.istore_n 2, 1) := by decide +kernel
theorem d_C_isSpace_6 : decode b_C_isSpace 6 = .ok (.iload_n 2, 1) := by decide +kernel
theorem d_C_isSpace_7 : decode b_C_isSpace 7 = .ok (.ifCond .eq 8, 3) := by decide +kernel
theorem d_C_isSpace_10 : decode b_C_isSpace 10 = .ok (.iload_n 2, 1) := by decide +kernel
theorem d_C_isSpace_11 : decode b_C_isSpace 11 = .ok (.iconst 1, 1) := by decide +kernel
theorem d_C_isSpace_12 : decode b_C_isSpace 12 = .ok (.if_icmp .ne 7, 3) := by decide +kernel
theorem d_C_isSpace_15 : decode b_C_isSpace 15 = .ok (.iconst 1, 1) := by decide +kernel
theorem d_C_isSpace_16 : decode b_C_isSpace 16 = .ok (.goto 4, 3) := by decide +kernel
theorem d_C_isSpace_19 : decode b_C_isSpace 19 = .ok (.iconst 0, 1) := by decide +kernel
theorem d_C_isSpace_20 : decode b_C_isSpace 20 = .ok (.ireturn, 1) := by decide +kernel
theorem d_C_mayBeGivenTo_0 : decode b_C_mayBeGivenTo 0 = .ok (.aload_n 0, 1) := by decide +kernel
theorem d_C_mayBeGivenTo_1 : decode b_C_mayBeGivenTo 1 = .ok (.iload_n 1, 1) := by decide +kernel
theorem d_C_mayBeGivenTo_2 : decode b_C_mayBeGivenTo 2 = .ok (.invokevirtual 44, 3) := by decide +kernel
theorem d_C_mayBeGivenTo_5 : decode b_C_mayBeGivenTo 5 = .ok (.istore_n 2, 1) := by decide +kernel
theorem d_C_mayBeGivenTo_6 : decode b_C_mayBeGivenTo 6 = .ok (.iload_n 2, 1) := by decide +kernel
theorem d_C_mayBeGivenTo_7 : decode b_C_mayBeGivenTo 7 = .ok (.iconst 1, 1) := by decide +kernel
theorem d_C_mayBeGivenTo_8 : decode b_C_mayBeGivenTo 8 = .ok (.if_icmp .eq 13, 3) := by decide +kernel
theorem d_C_mayBeGivenTo_11 : decode b_C_mayBeGivenTo 11 = .ok (.iload_n 2, 1) := by decide +kernel
theorem d_C_mayBeGivenTo_12 : decode b_C_mayBeGivenTo 12 = .ok (.iconst 2, 1) := by decide +kernel
theorem d_C_mayBeGivenTo_13 : decode b_C_mayBeGivenTo 13 = .ok (.if_icmp .eq 8, 3) := by decide +kernel
theorem d_C_mayBeGivenTo_16 : decode b_C_mayBeGivenTo 16 = .ok (.iload_n 2, 1) := by decide +kernel
theorem d_C_mayBeGivenTo_17 : decode b_C_mayBeGivenTo 17 = .ok (.iconst 3, 1) := by decide +kernel
theorem d_C_mayBeGivenTo_18 : decode b_C_mayBeGivenTo 18 = .ok (.if_icmp .ne 7, 3) := by decide +kernel
theorem d_C_mayBeGivenTo_21 : decode b_C_mayBeGivenTo 21 = .ok (.iconst 1, 1) := by decide +kernel
theorem d_C_mayBeGivenTo_22 : decode b_C_mayBeGivenTo 22 = .ok (.goto 4, 3) := by decide +kernel
theorem d_C_mayBeGivenTo_25 : decode b_C_mayBeGivenTo 25 = .ok (.iconst 0, 1) := by decide +kernel
theorem d_C_mayBeGivenTo_26 : decode b_C_mayBeGivenTo 26 = .ok (.ireturn, 1) := by decide +kernel
theorem d_C_hasInHands_0 : decode b_C_hasInHands 0 = .ok (.aload_n 0, 1) := by decide +kernel
theorem d_C_hasInHands_1 : decode b_C_hasInHands 1 = .ok (.iload_n 1, 1) := by decide +kernel
theorem d_C_hasInHands_2 : decode b_C_hasInHands 2 = .ok (.invokevirtual 58, 3) := by decide +kernel
theorem d_C_hasInHands_5 : decode b_C_hasInHands 5 = .ok (.ifCond .eq 24, 3) := by decide +kernel
theorem d_C_hasInHands_8 : decode b_C_hasInHands 8 = .ok (.aload_n 0, 1) := by decide +kernel
theorem d_C_hasInHands_9 : decode b_C_hasInHands 9 = .ok (.iload_n 2, 1) := by decide +kernel
theorem d_C_hasInHands_10 : decode b_C_hasInHands 10 = .ok (.invokevirtual 40, 3) := by decide +kernel
theorem d_C_hasInHands_13 : decode b_C_hasInHands 13 = .ok (.ifCond .eq 16, 3) := by decide +kernel
theorem d_C_hasInHands_16 : decode b_C_hasInHands 16 = .ok (.aload_n 0, 1) := by decide +kernel
theorem d_C_hasInHands_17 : decode b_C_hasInHands 17 = .ok (.iload_n 2, 1) := by decide +kernel
theorem d_C_hasInHands_18 : decode b_C_hasInHands 18 = .ok (.invokevirtual 74, 3) := by decide +kernel
theorem d_C_hasInHands_21 : decode b_C_hasInHands 21 = .ok (.iload_n 1, 1) := by decide +kernel
theorem d_C_hasInHands_22 : decode b_C_hasInHands 22 = .ok (.if_icmp .ne 7, 3) := by decide +kernel
theorem d_C_hasInHands_25 : decode b_C_hasInHands 25 = .ok (.iconst 1, 1) := by decide +kernel
theorem d_C_hasInHands_26 : decode b_C_hasInHands 26 = .ok (.goto 4, 3) := by decide +kernel
theorem d_C_hasInHands_29 : decode b_C_hasInHands 29 = .ok (.iconst 0, 1) := by decide +kernel
theorem d_C_hasInHands_30 : decode b_C_hasInHands 30 = .ok (.ireturn, 1) := by decide +kernel
theorem d_C_isFull_0 : decode b_C_isFull 0 = .ok (.aload_n 0, 1) := by decide +kernel
theorem d_C_isFull_1 : decode b_C_isFull 1 = .ok (.iload_n 1, 1) := by decide +kernel
theorem d_C_isFull_2 : decode b_C_isFull 2 = .ok (.invokevirtual 44, 3) := by decide +kernel
theorem d_C_isFull_5 : decode b_C_isFull 5 = .ok (.ifCond .eq 17, 3) := by decide +kernel
theorem d_C_isFull_8 : decode b_C_isFull 8 = .ok (.aload_n 0, 1) := by decide +kernel
theorem d_C_isFull_9 : decode b_C_isFull 9 = .ok (.iload_n 1, 1) := by decide +kernel
theorem d_C_isFull_10 : decode b_C_isFull 10 = .ok (.invokevirtual 80, 3) := by decide +kernel
theorem d_C_isFull_13 : decode b_C_isFull 13 = .ok (.bipush 8, 2) := by decide +kernel
theorem d_C_isFull_15 : decode b_C_isFull 15 = .ok (.if_icmp .lt 7, 3) := by decide +kernel
theorem d_C_isFull_18 : decode b_C_isFull 18 = .ok (.iconst 1, 1) := by decide +kernel
theorem d_C_isFull_19 : decode b_C_isFull 19 = .ok (.goto 4, 3) := by decide +kernel
theorem d_C_isFull_22 : decode b_C_isFull 22 = .ok (.iconst 0, 1) := by decide +kernel
theorem d_C_isFull_23 : decode b_C_isFull 23 = .ok (.ireturn, 1) := by decide +kernel
theorem d_C_countHeldBy_0 : decode b_C_countHeldBy 0 = .ok (.iconst 0, 1) := by decide +kernel
theorem d_C_countHeldBy_1 : decode b_C_countHeldBy 1 = .ok (.istore_n 2, 1) := by decide +kernel
theorem d_C_countHeldBy_2 : decode b_C_countHeldBy 2 = .ok (.iconst 0, 1) := by decide +kernel
theorem d_C_countHeldBy_3 : decode b_C_countHeldBy 3 = .ok (.istore_n 3, 1) := by decide +kernel
theorem d_C_countHeldBy_4 : decode b_C_countHeldBy 4 = .ok (.iload_n 3, 1) := by decide +kernel
theorem d_C_countHeldBy_5 : decode b_C_countHeldBy 5 = .ok (.aload_n 0, 1) := by decide +kernel
theorem d_C_countHeldBy_6 : decode b_C_countHeldBy 6 = .ok (.getfield 7, 3) := by decide +kernel
theorem d_C_countHeldBy_9 : decode b_C_countHeldBy 9 = .ok (.if_icmp .ge 22, 3) := by decide +kernel
theorem d_C_countHeldBy_12 : decode b_C_countHeldBy 12 = .ok (.aload_n 0, 1) := by decide +kernel
theorem d_C_countHeldBy_13 : decode b_C_countHeldBy 13 = .ok (.getfield 17, 3) := by decide +kernel
theorem d_C_countHeldBy_16 : decode b_C_countHeldBy 16 = .ok (.iload_n 3, 1) := by decide +kernel
theorem d_C_countHeldBy_17 : decode b_C_countHeldBy 17 = .ok (.iaload, 1) := by decide +kernel
theorem d_C_countHeldBy_18 : decode b_C_countHeldBy 18 = .ok (.iload_n 1, 1) := by decide +kernel
theorem d_C_countHeldBy_19 : decode b_C_countHeldBy 19 = .ok (.if_icmp .ne 6, 3) := by decide +kernel
theorem d_C_countHeldBy_22 : decode b_C_countHeldBy 22 = .ok (.iinc 2 1, 3) := by decide +kernel
theorem d_C_countHeldBy_25 : decode b_C_countHeldBy 25 = .ok (.iinc 3 1, 3) := by decide +kernel
theorem d_C_countHeldBy_28 : decode b_C_countHeldBy 28 = .ok (.goto (-24), 3) := by decide +kernel
theorem d_C_countHeldBy_31 : decode b_C_countHeldBy 31 = .ok (.iload_n 2, 1) := by decide +kernel
theorem d_C_countHeldBy_32 : decode b_C_countHeldBy 32 = .ok (.ireturn, 1) := by decide +kernel
theorem d_C_countWithin_0 : decode b_C_countWithin 0 = .ok (.iconst 0, 1) := by decide +kernel
theorem d_C_countWithin_1 : decode b_C_countWithin 1 = .ok (.istore_n 2, 1) := by decide +kernel
theorem d_C_countWithin_2 : decode b_C_countWithin 2 = .ok (.iconst 0, 1) := by decide +kernel
theorem d_C_countWithin_3 : decode b_C_countWithin 3 = .ok (.istore_n 3, 1) := by decide +kernel
theorem d_C_countWithin_4 : decode b_C_countWithin 4 = .ok (.iload_n 3, 1) := by decide +kernel
theorem d_C_countWithin_5 : decode b_C_countWithin 5 = .ok (.aload_n 0, 1) := by decide +kernel
theorem d_C_countWithin_6 : decode b_C_countWithin 6 = .ok (.getfield 7, 3) := by decide +kernel
theorem d_C_countWithin_9 : decode b_C_countWithin 9 = .ok (.if_icmp .ge 21, 3) := by decide +kernel
theorem d_C_countWithin_12 : decode b_C_countWithin 12 = .ok (.aload_n 0, 1) := by decide +kernel
theorem d_C_countWithin_13 : decode b_C_countWithin 13 = .ok (.iload_n 3, 1) := by decide +kernel
theorem d_C_countWithin_14 : decode b_C_countWithin 14 = .ok (.iload_n 1, 1) := by decide +kernel
theorem d_C_countWithin_15 : decode b_C_countWithin 15 = .ok (.invokevirtual 48, 3) := by decide +kernel
theorem d_C_countWithin_18 : decode b_C_countWithin 18 = .ok (.ifCond .eq 6, 3) := by decide +kernel
theorem d_C_countWithin_21 : decode b_C_countWithin 21 = .ok (.iinc 2 1, 3) := by decide +kernel
theorem d_C_countWithin_24 : decode b_C_countWithin 24 = .ok (.iinc 3 1, 3) := by decide +kernel
theorem d_C_countWithin_27 : decode b_C_countWithin 27 = .ok (.goto (-23), 3) := by decide +kernel
theorem d_C_countWithin_30 : decode b_C_countWithin 30 = .ok (.iload_n 2, 1) := by decide +kernel
theorem d_C_countWithin_31 : decode b_C_countWithin 31 = .ok (.ireturn, 1) := by decide +kernel
theorem d_C_isWithin_0 : decode b_C_isWithin 0 = .ok (.aload_n 0, 1) := by decide +kernel
theorem d_C_isWithin_1 : decode b_C_isWithin 1 = .ok (.iload_n 1, 1) := by decide +kernel
theorem d_C_isWithin_2 : decode b_C_isWithin 2 = .ok (.invokevirtual 74, 3) := by decide +kernel
theorem d_C_isWithin_5 : decode b_C_isWithin 5 = .ok (.istore_n 3, 1) := by decide +kernel
theorem d_C_isWithin_6 : decode b_C_isWithin 6 = .ok (.iconst 0, 1) := by decide +kernel
theorem d_C_isWithin_7 : decode b_C_isWithin 7 = .ok (.istore 4, 2) := by decide +kernel
theorem d_C_isWithin_9 : decode b_C_isWithin 9 = .ok (.iload 4, 2) := by decide +kernel
theorem d_C_isWithin_11 : decode b_C_isWithin 11 = .ok (.bipush 30, 2) := by decide +kernel
theorem d_C_isWithin_13 : decode b_C_isWithin 13 = .ok (.if_icmp .ge 27, 3) := by decide +kernel
theorem d_C_isWithin_16 : decode b_C_isWithin 16 = .ok (.iload_n 3, 1) := by decide +kernel
theorem d_C_isWithin_17 : decode b_C_isWithin 17 = .ok (.iconst (-1), 1) := by decide +kernel
theorem d_C_isWithin_18 : decode b_C_isWithin 18 = .ok (.if_icmp .eq 22, 3) := by decide +kernel
theorem d_C_isWithin_21 : decode b_C_isWithin 21 = .ok (.iload_n 3, 1) := by decide +kernel
theorem d_C_isWithin_22 : decode b_C_isWithin 22 = .ok (.iload_n 2, 1) := by decide +kernel
theorem d_C_isWithin_23 : decode b_C_isWithin 23 = .ok (.if_icmp .ne 5, 3) := by decide +kernel
theorem d_C_isWithin_26 : decode b_C_isWithin 26 = .ok (.iconst 1, 1) := by decide +kernel
theorem d_C_isWithin_27 : decode b_C_isWithin 27 = .ok (.ireturn, 1) := by decide +kernel
theorem d_C_isWithin_28 : decode b_C_isWithin 28 = .ok (.aload_n 0, 1) := by decide +kernel
theorem d_C_isWithin_29 : decode b_C_isWithin 29 = .ok (.iload_n 3, 1) := by decide +kernel
theorem d_C_isWithin_30 : decode b_C_isWithin 30 = .ok (.invokevirtual 74, 3) := by decide +kernel
theorem d_C_isWithin_33 : decode b_C_isWithin 33 = .ok (.istore_n 3, 1) := by decide +kernel
theorem d_C_isWithin_34 : decode b_C_isWithin 34 = .ok (.iinc 4 1, 3) := by decide +kernel
theorem d_C_isWithin_37 : decode b_C_isWithin 37 = .ok (.goto (-28), 3) := by decide +kernel
theorem d_C_isWithin_40 : decode b_C_isWithin 40 = .ok (.iconst 0, 1) := by decide +kernel
theorem d_C_isWithin_41 : decode b_C_isWithin 41 = .ok (.ireturn, 1) := by decide +kernel
theorem d_C_spaceOf_0 : decode b_C_spaceOf 0 = .ok (.aload_n 0, 1) := by decide +kernel
theorem d_C_spaceOf_1 : decode b_C_spaceOf 1 = .ok (.iload_n 1, 1) := by decide +kernel
theorem d_C_spaceOf_2 : decode b_C_spaceOf 2 = .ok (.invokevirtual 44, 3) := by decide +kernel
theorem d_C_spaceOf_5 : decode b_C_spaceOf 5 = .ok (.ifCond .ne 5, 3) := by decide +kernel
theorem d_C_spaceOf_8 : decode b_C_spaceOf 8 = .ok (.iload_n 1, 1) := by decide +kernel
theorem d_C_spaceOf_9 : decode b_C_spaceOf 9 = .ok (.ireturn, 1) := by decide +kernel
theorem d_C_spaceOf_10 : decode b_C_spaceOf 10 = .ok (.aload_n 0, 1) := by decide +kernel
theorem d_C_spaceOf_11 : decode b_C_spaceOf 11 = .ok (.iload_n 1, 1) := by decide +kernel
theorem d_C_spaceOf_12 : decode b_C_spaceOf 12 = .ok (.invokevirtual 74, 3) := by decide +kernel
theorem d_C_spaceOf_15 : decode b_C_spaceOf 15 = .ok (.istore_n 2, 1) := by decide +kernel
theorem d_C_spaceOf_16 : decode b_C_spaceOf 16 = .ok (.iconst 0, 1) := by decide +kernel
theorem d_C_spaceOf_17 : decode b_C_spaceOf 17 = .ok (.istore_n 3, 1) := by decide +kernel
theorem d_C_spaceOf_18 : decode b_C_spaceOf 18 = .ok (.iload_n 3, 1) := by decide +kernel
theorem d_C_spaceOf_19 : decode b_C_spaceOf 19 = .ok (.bipush 30, 2) := by decide +kernel
theorem d_C_spaceOf_21 : decode b_C_spaceOf 21 = .ok (.if_icmp .ge 30, 3) := by decide +kernel
theorem d_C_spaceOf_24 : decode b_C_spaceOf 24 = .ok (.iload_n 2, 1) := by decide +kernel
theorem d_C_spaceOf_25 : decode b_C_spaceOf 25 = .ok (.iconst (-1), 1) := by decide +kernel
theorem d_C_spaceOf_26 : decode b_C_spaceOf 26 = .ok (.if_icmp .eq 25, 3) := by decide +kernel
theorem d_C_spaceOf_29 : decode b_C_spaceOf 29 = .ok (.aload_n 0, 1) := by decide +kernel
theorem d_C_spaceOf_30 : decode b_C_spaceOf 30 = .ok (.iload_n 2, 1) := by decide +kernel
theorem d_C_spaceOf_31 : decode b_C_spaceOf 31 = .ok (.invokevirtual 89, 3) := by decide +kernel
theorem d_C_spaceOf_34 : decode b_C_spaceOf 34 = .ok (.ifCond .eq 5, 3) := by decide +kernel
theorem d_C_spaceOf_37 : decode b_C_spaceOf 37 = .ok (.iload_n 2, 1) := by decide +kernel
theorem d_C_spaceOf_38 : decode b_C_spaceOf 38 = .ok (.ireturn, 1) := by decide +kernel
theorem d_C_spaceOf_39 : decode b_C_spaceOf 39 = .ok (.aload_n 0, 1) := by decide +kernel
theorem d_C_spaceOf_40 : decode b_C_spaceOf 40 = .ok (.iload_n 2, 1) := by decide +kernel
theorem d_C_spaceOf_41 : decode b_C_spaceOf 41 = .ok (.invokevirtual 74, 3) := by decide +kernel
theorem d_C_spaceOf_44 : decode b_C_spaceOf 44 = .ok (.istore_n 2, 1) := by decide +kernel
theorem d_C_spaceOf_45 : decode b_C_spaceOf 45 = .ok (.iinc 3 1, 3) := by decide +kernel
theorem d_C_spaceOf_48 : decode b_C_spaceOf 48 = .ok (.goto (-30), 3) := by decide +kernel
theorem d_C_spaceOf_51 : decode b_C_spaceOf 51 = .ok (.iconst (-1), 1) := by decide +kernel
theorem d_C_spaceOf_52 : decode b_C_spaceOf 52 = .ok (.ireturn, 1) := by decide +kernel
theorem d_C_firstBarrier_0 : decode b_C_firstBarrier 0 = .ok (.aload_n 0, 1) := by decide +kernel
theorem d_C_firstBarrier_1 : decode b_C_firstBarrier 1 = .ok (.iload_n 1, 1) := by decide +kernel
theorem d_C_firstBarrier_2 : decode b_C_firstBarrier 2 = .ok (.iload_n 2, 1) := by decide +kernel
theorem d_C_firstBarrier_3 : decode b_C_firstBarrier 3 = .ok (.invokevirtual 112, 3) := by decide +kernel
theorem d_C_firstBarrier_6 : decode b_C_firstBarrier 6 = .ok (.istore_n 3, 1) := by decide +kernel
theorem d_C_firstBarrier_7 : decode b_C_firstBarrier 7 = .ok (.iload_n 3, 1) := by decide +kernel
theorem d_C_firstBarrier_8 : decode b_C_firstBarrier 8 = .ok (.iconst (-1), 1) := by decide +kernel
theorem d_C_firstBarrier_9 : decode b_C_firstBarrier 9 = .ok (.if_icmp .ne 6, 3) := by decide +kernel
theorem d_C_firstBarrier_12 : decode b_C_firstBarrier 12 = .ok (.bipush (-5), 2) := by decide +kernel
theorem d_C_firstBarrier_14 : decode b_C_firstBarrier 14 = .ok (.ireturn, 1) := by decide +kernel
theorem d_C_firstBarrier_15 : decode b_C_firstBarrier 15 = .ok (.aload_n 0, 1) := by decide +kernel
theorem d_C_firstBarrier_16 : decode b_C_firstBarrier 16 = .ok (.iload_n 1, 1) := by decide +kernel
theorem d_C_firstBarrier_17 : decode b_C_firstBarrier 17 = .ok (.iload_n 3, 1) := by decide +kernel
theorem d_C_firstBarrier_18 : decode b_C_firstBarrier 18 = .ok (.invokevirtual 115, 3) := by decide +kernel
theorem d_C_firstBarrier_21 : decode b_C_firstBarrier 21 = .ok (.istore 4, 2) := by decide +kernel
theorem d_C_firstBarrier_23 : decode b_C_firstBarrier 23 = .ok (.iload 4, 2) := by decide +kernel
theorem d_C_firstBarrier_25 : decode b_C_firstBarrier 25 = .ok (.iconst (-1), 1) := by decide +kernel
theorem d_C_firstBarrier_26 : decode b_C_firstBarrier 26 = .ok (.if_icmp .eq 8, 3) := by decide +kernel
theorem d_C_firstBarrier_29 : decode b_C_firstBarrier 29 = .ok (.iload 4, 2) := by decide +kernel
theorem d_C_firstBarrier_31 : decode b_C_firstBarrier 31 = .ok (.goto 9, 3) := by decide +kernel
theorem d_C_firstBarrier_34 : decode b_C_firstBarrier 34 = .ok (.aload_n 0, 1) := by decide +kernel
theorem d_C_firstBarrier_35 : decode b_C_firstBarrier 35 = .ok (.iload_n 3, 1) := by decide +kernel
theorem d_C_firstBarrier_36 : decode b_C_firstBarrier 36 = .ok (.iload_n 2, 1) := by decide +kernel
theorem d_C_firstBarrier_37 : decode b_C_firstBarrier 37 = .ok (.invokevirtual 118, 3) := by decide +kernel
theorem d_C_firstBarrier_40 : decode b_C_firstBarrier 40 = .ok (.ireturn, 1) := by decide +kernel
theorem d_C_turningPoint_0 : decode b_C_turningPoint 0 = .ok (.iload_n 1, 1) := by decide +kernel
theorem d_C_turningPoint_1 : decode b_C_turningPoint 1 = .ok (.istore_n 3, 1) := by decide +kernel
theorem d_C_turningPoint_2 : decode b_C_turningPoint 2 = .ok (.iconst 0, 1) := by decide +kernel
theorem d_C_turningPoint_3 : decode b_C_turningPoint 3 = .ok (.istore 4, 2) := by decide +kernel
theorem d_C_turningPoint_5 : decode b_C_turningPoint 5 = .ok (.iload 4, 2) := by decide +kernel
theorem d_C_turningPoint_7 : decode b_C_turningPoint 7 = .ok (.bipush 30, 2) := by decide +kernel
theorem d_C_turningPoint_9 : decode b_C_turningPoint 9 = .ok (.if_icmp .ge 36, 3) := by decide +kernel
theorem d_C_turningPoint_12 : decode b_C_turningPoint 12 = .ok (.iload_n 3, 1) := by decide +kernel
theorem d_C_turningPoint_13 : decode b_C_turningPoint 13 = .ok (.iconst (-1), 1) := by decide +kernel
theorem d_C_turningPoint_14 : decode b_C_turningPoint 14 = .ok (.if_icmp .eq 31, 3) := by decide +kernel
theorem d_C_turningPoint_17 : decode b_C_turningPoint 17 = .ok (.iload_n 3, 1) := by decide +kernel
theorem d_C_turningPoint_18 : decode b_C_turningPoint 18 = .ok (.iload_n 2, 1) := by decide +kernel
theorem d_C_turningPoint_19 : decode b_C_turningPoint 19 = .ok (.if_icmp .eq 12, 3) := by decide +kernel
theorem d_C_turningPoint_22 : decode b_C_turningPoint 22 = .ok (.aload_n 0, 1) := by decide +kernel
theorem d_C_turningPoint_23 : decode b_C_turningPoint 23 = .ok (.iload_n 2, 1) := by decide +kernel
theorem d_C_turningPoint_24 : decode b_C_turningPoint 24 = .ok (.iload_n 3, 1) := by decide +kernel
theorem d_C_turningPoint_25 : decode b_C_turningPoint 25 = .ok (.invokevirtual 48, 3) := by decide +kernel
theorem d_C_turningPoint_28 : decode b_C_turningPoint 28 = .ok (.ifCond .eq 5, 3) := by decide +kernel
theorem d_C_turningPoint_31 : decode b_C_turningPoint 31 = .ok (.iload_n 3, 1) := by decide +kernel
theorem d_C_turningPoint_32 : decode b_C_turningPoint 32 = .ok (.ireturn, 1) := by decide +kernel
theorem d_C_turningPoint_33 : decode b_C_turningPoint 33 = .ok (.aload_n 0, 1) := by decide +kernel
theorem d_C_turningPoint_34 : decode b_C_turningPoint 34 = .ok (.iload_n 3, 1) := by decide +kernel
theorem d_C_turningPoint_35 : decode b_C_turningPoint 35 = .ok (.invokevirtual 74, 3) := by decide +kernel
theorem d_C_turningPoint_38 : decode b_C_turningPoint 38 = .ok (.istore_n 3, 1) := by decide +kernel
theorem d_C_turningPoint_39 : decode b_C_turningPoint 39 = .ok (.iinc 4 1, 3) := by decide +kernel
theorem d_C_turningPoint_42 : decode b_C_turningPoint 42 = .ok (.goto (-37), 3) := by decide +kernel
theorem d_C_turningPoint_45 : decode b_C_turningPoint 45 = .ok (.iconst (-1), 1) := by decide +kernel
theorem d_C_turningPoint_46 : decode b_C_turningPoint 46 = .ok (.ireturn, 1) := by decide +kernel
theorem d_C_firstBarrierOut_0 : decode b_C_firstBarrierOut 0 = .ok (.iload_n 1, 1) := by decide +kernel
theorem d_C_firstBarrierOut_1 : decode b_C_firstBarrierOut 1 = .ok (.istore_n 3, 1) := by decide +kernel
theorem d_C_firstBarrierOut_2 : decode b_C_firstBarrierOut 2 = .ok (.iconst 0, 1) := by decide +kernel
theorem d_C_firstBarrierOut_3 : decode b_C_firstBarrierOut 3 = .ok (.istore 4, 2) := by decide +kernel
theorem d_C_firstBarrierOut_5 : decode b_C_firstBarrierOut 5 = .ok (.iload 4, 2) := by decide +kernel
theorem d_C_firstBarrierOut_7 : decode b_C_firstBarrierOut 7 = .ok (.bipush 30, 2) := by decide +kernel
theorem d_C_firstBarrierOut_9 : decode b_C_firstBarrierOut 9 = .ok (.if_icmp .ge 35, 3) := by decide +kernel
theorem d_C_firstBarrierOut_12 : decode b_C_firstBarrierOut 12 = .ok (.iload_n 3, 1) := by decide +kernel
theorem d_C_firstBarrierOut_13 : decode b_C_firstBarrierOut 13 = .ok (.iload_n 2, 1) := by decide +kernel
theorem d_C_firstBarrierOut_14 : decode b_C_firstBarrierOut 14 = .ok (.if_icmp .eq 30, 3) := by decide +kernel
theorem d_C_firstBarrierOut_17 : decode b_C_firstBarrierOut 17 = .ok (.iload_n 3, 1) := by decide +kernel
theorem d_C_firstBarrierOut_18 : decode b_C_firstBarrierOut 18 = .ok (.iconst (-1), 1) := by decide +kernel
theorem d_C_firstBarrierOut_19 : decode b_C_firstBarrierOut 19 = .ok (.if_icmp .eq 25, 3) := by decide +kernel
theorem d_C_firstBarrierOut_22 : decode b_C_firstBarrierOut 22 = .ok (.aload_n 0, 1) := by decide +kernel
theorem d_C_firstBarrierOut_23 : decode b_C_firstBarrierOut 23 = .ok (.iload_n 3, 1) := by decide +kernel
theorem d_C_firstBarrierOut_24 : decode b_C_firstBarrierOut 24 = .ok (.invokevirtual 71, 3) := by decide +kernel
theorem d_C_firstBarrierOut_27 : decode b_C_firstBarrierOut 27 = .ok (.ifCond .eq 5, 3) := by decide +kernel
theorem d_C_firstBarrierOut_30 : decode b_C_firstBarrierOut 30 = .ok (.iload_n 3, 1) := by decide +kernel
theorem d_C_firstBarrierOut_31 : decode b_C_firstBarrierOut 31 = .ok (.ireturn, 1) := by decide +kernel
theorem d_C_firstBarrierOut_32 : decode b_C_firstBarrierOut 32 = .ok (.aload_n 0, 1) := by decide +kernel
theorem d_C_firstBarrierOut_33 : decode b_C_firstBarrierOut 33 = .ok (.iload_n 3, 1) := by decide +kernel
theorem d_C_firstBarrierOut_34 : decode b_C_firstBarrierOut 34 = .ok (.invokevirtual 74, 3) := by decide +kernel
theorem d_C_firstBarrierOut_37 : decode b_C_firstBarrierOut 37 = .ok (.istore_n 3, 1) := by decide +kernel
theorem d_C_firstBarrierOut_38 : decode b_C_firstBarrierOut 38 = .ok (.iinc 4 1, 3) := by decide +kernel
theorem d_C_firstBarrierOut_41 : decode b_C_firstBarrierOut 41 = .ok (.goto (-36), 3) := by decide +kernel
theorem d_C_firstBarrierOut_44 : decode b_C_firstBarrierOut 44 = .ok (.iconst (-1), 1) := by decide +kernel
theorem d_C_firstBarrierOut_45 : decode b_C_firstBarrierOut 45 = .ok (.ireturn, 1) := by decide +kernel
theorem d_C_firstBarrierIn_0 : decode b_C_firstBarrierIn 0 = .ok (.iload_n 1, 1) := by decide +kernel
theorem d_C_firstBarrierIn_1 : decode b_C_firstBarrierIn 1 = .ok (.iload_n 2, 1) := by decide +kernel
theorem d_C_firstBarrierIn_2 : decode b_C_firstBarrierIn 2 = .ok (.if_icmp .ne 5, 3) := by decide +kernel
theorem d_C_firstBarrierIn_5 : decode b_C_firstBarrierIn 5 = .ok (.iconst (-1), 1) := by decide +kernel
theorem d_C_firstBarrierIn_6 : decode b_C_firstBarrierIn 6 = .ok (.ireturn, 1) := by decide +kernel
theorem d_C_firstBarrierIn_7 : decode b_C_firstBarrierIn 7 = .ok (.iconst (-1), 1) := by decide +kernel
theorem d_C_firstBarrierIn_8 : decode b_C_firstBarrierIn 8 = .ok (.istore_n 3, 1) := by decide +kernel
theorem d_C_firstBarrierIn_9 : decode b_C_firstBarrierIn 9 = .ok (.aload_n 0, 1) := by decide +kernel
theorem d_C_firstBarrierIn_10 : decode b_C_firstBarrierIn 10 = .ok (.iload_n 2, 1) := by decide +kernel
theorem d_C_firstBarrierIn_11 : decode b_C_firstBarrierIn 11 = .ok (.invokevirtual 74, 3) := by decide +kernel
theorem d_C_firstBarrierIn_14 : decode b_C_firstBarrierIn 14 = .ok (.istore 4, 2) := by decide +kernel
theorem d_C_firstBarrierIn_16 : decode b_C_firstBarrierIn 16 = .ok (.iconst 0, 1) := by decide +kernel
theorem d_C_firstBarrierIn_17 : decode b_C_firstBarrierIn 17 = .ok (.istore 5, 2) := by decide +kernel
theorem d_C_firstBarrierIn_19 : decode b_C_firstBarrierIn 19 = .ok (.iload 5, 2) := by decide +kernel
theorem d_C_firstBarrierIn_21 : decode b_C_firstBarrierIn 21 = .ok (.bipush 30, 2) := by decide +kernel
theorem d_C_firstBarrierIn_23 : decode b_C_firstBarrierIn 23 = .ok (.if_icmp .ge 50, 3) := by decide +kernel
theorem d_C_firstBarrierIn_26 : decode b_C_firstBarrierIn 26 = .ok (.iload 4, 2) := by decide +kernel
theorem d_C_firstBarrierIn_28 : decode b_C_firstBarrierIn 28 = .ok (.iload_n 1, 1) := by decide +kernel
theorem d_C_firstBarrierIn_29 : decode b_C_firstBarrierIn 29 = .ok (.if_icmp .eq 44, 3) := by decide +kernel
theorem d_C_firstBarrierIn_32 : decode b_C_firstBarrierIn 32 = .ok (.iload 4, 2) := by decide +kernel
theorem d_C_firstBarrierIn_34 : decode b_C_firstBarrierIn 34 = .ok (.iconst (-1), 1) := by decide +kernel
theorem d_C_firstBarrierIn_35 : decode b_C_firstBarrierIn 35 = .ok (.if_icmp .eq 38, 3) := by decide +kernel
theorem d_C_firstBarrierIn_38 : decode b_C_firstBarrierIn 38 = .ok (.aload_n 0, 1) := by decide +kernel
theorem d_C_firstBarrierIn_39 : decode b_C_firstBarrierIn 39 = .ok (.iload 4, 2) := by decide +kernel
theorem d_C_firstBarrierIn_41 : decode b_C_firstBarrierIn 41 = .ok (.invokevirtual 71, 3) := by decide +kernel
theorem d_C_firstBarrierIn_44 : decode b_C_firstBarrierIn 44 = .ok (.ifCond .ne 12, 3) := by decide +kernel
theorem d_C_firstBarrierIn_47 : decode b_C_firstBarrierIn 47 = .ok (.aload_n 0, 1) := by decide +kernel
theorem d_C_firstBarrierIn_48 : decode b_C_firstBarrierIn 48 = .ok (.iload 4, 2) := by decide +kernel
theorem d_C_firstBarrierIn_50 : decode b_C_firstBarrierIn 50 = .ok (.invokevirtual 58, 3) := by decide +kernel
theorem d_C_firstBarrierIn_53 : decode b_C_firstBarrierIn 53 = .ok (.ifCond .eq 6, 3) := by decide +kernel
theorem d_C_firstBarrierIn_56 : decode b_C_firstBarrierIn 56 = .ok (.iload 4, 2) := by decide +kernel
theorem d_C_firstBarrierIn_58 : decode b_C_firstBarrierIn 58 = .ok (.istore_n 3, 1) := by decide +kernel
theorem d_C_firstBarrierIn_59 : decode b_C_firstBarrierIn 59 = .ok (.aload_n 0, 1) := by decide +kernel
theorem d_C_firstBarrierIn_60 : decode b_C_firstBarrierIn 60 = .ok (.iload 4, 2) := by decide +kernel
theorem d_C_firstBarrierIn_62 : decode b_C_firstBarrierIn 62 = .ok (.invokevirtual 74, 3) := by decide +kernel
theorem d_C_firstBarrierIn_65 : decode b_C_firstBarrierIn 65 = .ok (.istore 4, 2) := by decide +kernel
theorem d_C_firstBarrierIn_67 : decode b_C_firstBarrierIn 67 = .ok (.iinc 5 1, 3) := by decide +kernel
theorem d_C_firstBarrierIn_70 : decode b_C_firstBarrierIn 70 = .ok (.goto (-51), 3) := by decide +kernel
theorem d_C_firstBarrierIn_73 : decode b_C_firstBarrierIn 73 = .ok (.iload_n 3, 1) := by decide +kernel
theorem d_C_firstBarrierIn_74 : decode b_C_firstBarrierIn 74 = .ok (.ireturn, 1) := by decide +kernel
theorem d_C_wallLoss_0 : decode b_C_wallLoss 0 = .ok (.aload_n 0, 1) := by decide +kernel
theorem d_C_wallLoss_1 : decode b_C_wallLoss 1 = .ok (.iload_n 1, 1) := by decide +kernel
theorem d_C_wallLoss_2 : decode b_C_wallLoss 2 = .ok (.invokevirtual 44, 3) := by decide +kernel
theorem d_C_wallLoss_5 : decode b_C_wallLoss 5 = .ok (.iconst 1, 1) := by decide +kernel
theorem d_C_wallLoss_6 : decode b_C_wallLoss 6 = .ok (.if_icmp .eq 5, 3) := by decide +kernel
theorem d_C_wallLoss_9 : decode b_C_wallLoss 9 = .ok (.iconst (-1), 1) := by decide +kernel
theorem d_C_wallLoss_10 : decode b_C_wallLoss 10 = .ok (.ireturn, 1) := by decide +kernel
theorem d_C_wallLoss_11 : decode b_C_wallLoss 11 = .ok (.aload_n 0, 1) := by decide +kernel
theorem d_C_wallLoss_12 : decode b_C_wallLoss 12 = .ok (.iload_n 1, 1) := by decide +kernel
theorem d_C_wallLoss_13 : decode b_C_wallLoss 13 = .ok (.iconst 0, 1) := by decide +kernel
theorem d_C_wallLoss_14 : decode b_C_wallLoss 14 = .ok (.invokevirtual 86, 3) := by decide +kernel
theorem d_C_wallLoss_17 : decode b_C_wallLoss 17 = .ok (.iconst 1, 1) := by decide +kernel
theorem d_C_wallLoss_18 : decode b_C_wallLoss 18 = .ok (.if_icmp .ne 5, 3) := by decide +kernel
theorem d_C_wallLoss_21 : decode b_C_wallLoss 21 = .ok (.iconst 0, 1) := by decide +kernel
theorem d_C_wallLoss_22 : decode b_C_wallLoss 22 = .ok (.ireturn, 1) := by decide +kernel
theorem d_C_wallLoss_23 : decode b_C_wallLoss 23 = .ok (.iload_n 2, 1) := by decide +kernel
theorem d_C_wallLoss_24 : decode b_C_wallLoss 24 = .ok (.iconst 3, 1) := by decide +kernel
theorem d_C_wallLoss_25 : decode b_C_wallLoss 25 = .ok (.if_icmp .ne 5, 3) := by decide +kernel
theorem d_C_wallLoss_28 : decode b_C_wallLoss 28 = .ok (.iconst 2, 1) := by decide +kernel
theorem d_C_wallLoss_29 : decode b_C_wallLoss 29 = .ok (.ireturn, 1) := by decide +kernel
theorem d_C_wallLoss_30 : decode b_C_wallLoss 30 = .ok (.aload_n 0, 1) := by decide +kernel
theorem d_C_wallLoss_31 : decode b_C_wallLoss 31 = .ok (.iload_n 1, 1) := by decide +kernel
theorem d_C_wallLoss_32 : decode b_C_wallLoss 32 = .ok (.iconst 1, 1) := by decide +kernel
theorem d_C_wallLoss_33 : decode b_C_wallLoss 33 = .ok (.invokevirtual 86, 3) := by decide +kernel
theorem d_C_wallLoss_36 : decode b_C_wallLoss 36 = .ok (.iconst 1, 1) := by decide +kernel
theorem d_C_wallLoss_37 : decode b_C_wallLoss 37 = .ok (.if_icmp .ne 7, 3) := by decide +kernel
theorem d_C_wallLoss_40 : decode b_C_wallLoss 40 = .ok (.iconst 1, 1) := by decide +kernel
theorem d_C_wallLoss_41 : decode b_C_wallLoss 41 = .ok (.goto 4, 3) := by decide +kernel
theorem d_C_wallLoss_44 : decode b_C_wallLoss 44 = .ok (.iconst (-1), 1) := by decide +kernel
theorem d_C_wallLoss_45 : decode b_C_wallLoss 45 = .ok (.ireturn, 1) := by decide +kernel
theorem d_C_doorLoss_0 : decode b_C_doorLoss 0 = .ok (.aload_n 0, 1) := by decide +kernel
theorem d_C_doorLoss_1 : decode b_C_doorLoss 1 = .ok (.iload_n 1, 1) := by decide +kernel
theorem d_C_doorLoss_2 : decode b_C_doorLoss 2 = .ok (.invokevirtual 55, 3) := by decide +kernel
theorem d_C_doorLoss_5 : decode b_C_doorLoss 5 = .ok (.ifCond .ne 5, 3) := by decide +kernel
theorem d_C_doorLoss_8 : decode b_C_doorLoss 8 = .ok (.iconst (-1), 1) := by decide +kernel
theorem d_C_doorLoss_9 : decode b_C_doorLoss 9 = .ok (.ireturn, 1) := by decide +kernel
theorem d_C_doorLoss_10 : decode b_C_doorLoss 10 = .ok (.aload_n 0, 1) := by decide +kernel
theorem d_C_doorLoss_11 : decode b_C_doorLoss 11 = .ok (.getfield 34, 3) := by decide +kernel
theorem d_C_doorLoss_14 : decode b_C_doorLoss 14 = .ok (.iconst 0, 1) := by decide +kernel
theorem d_C_doorLoss_15 : decode b_C_doorLoss 15 = .ok (.aaload, 1) := by decide +kernel
theorem d_C_doorLoss_16 : decode b_C_doorLoss 16 = .ok (.iload_n 1, 1) := by decide +kernel
theorem d_C_doorLoss_17 : decode b_C_doorLoss 17 = .ok (.iaload, 1) := by decide +kernel
theorem d_C_doorLoss_18 : decode b_C_doorLoss 18 = .ok (.iconst 1, 1) := by decide +kernel
theorem d_C_doorLoss_19 : decode b_C_doorLoss 19 = .ok (.if_icmp .ne 7, 3) := by decide +kernel
theorem d_C_doorLoss_22 : decode b_C_doorLoss 22 = .ok (.iconst 1, 1) := by decide +kernel
theorem d_C_doorLoss_23 : decode b_C_doorLoss 23 = .ok (.goto 4, 3) := by decide +kernel
theorem d_C_doorLoss_26 : decode b_C_doorLoss 26 = .ok (.iconst 0, 1) := by decide +kernel
theorem d_C_doorLoss_27 : decode b_C_doorLoss 27 = .ok (.istore_n 3, 1) := by decide +kernel
theorem d_C_doorLoss_28 : decode b_C_doorLoss 28 = .ok (.iload_n 2, 1) := by decide +kernel
theorem d_C_doorLoss_29 : decode b_C_doorLoss 29 = .ok (.iconst 3, 1) := by decide +kernel
theorem d_C_doorLoss_30 : decode b_C_doorLoss 30 = .ok (.if_icmp .ne 13, 3) := by decide +kernel
theorem d_C_doorLoss_33 : decode b_C_doorLoss 33 = .ok (.iload_n 3, 1) := by decide +kernel
theorem d_C_doorLoss_34 : decode b_C_doorLoss 34 = .ok (.ifCond .eq 7, 3) := by decide +kernel
theorem d_C_doorLoss_37 : decode b_C_doorLoss 37 = .ok (.iconst 1, 1) := by decide +kernel
theorem d_C_doorLoss_38 : decode b_C_doorLoss 38 = .ok (.goto 4, 3) := by decide +kernel
theorem d_C_doorLoss_41 : decode b_C_doorLoss 41 = .ok (.iconst 3, 1) := by decide +kernel
theorem d_C_doorLoss_42 : decode b_C_doorLoss 42 = .ok (.ireturn, 1) := by decide +kernel
theorem d_C_doorLoss_43 : decode b_C_doorLoss 43 = .ok (.iload_n 3, 1) := by decide +kernel
theorem d_C_doorLoss_44 : decode b_C_doorLoss 44 = .ok (.ifCond .eq 5, 3) := by decide +kernel
theorem d_C_doorLoss_47 : decode b_C_doorLoss 47 = .ok (.iconst 2, 1) := by decide +kernel
theorem d_C_doorLoss_48 : decode b_C_doorLoss 48 = .ok (.ireturn, 1) := by decide +kernel
theorem d_C_doorLoss_49 : decode b_C_doorLoss 49 = .ok (.aload_n 0, 1) := by decide +kernel
theorem d_C_doorLoss_50 : decode b_C_doorLoss 50 = .ok (.getfield 34, 3) := by decide +kernel
theorem d_C_doorLoss_53 : decode b_C_doorLoss 53 = .ok (.iconst 1, 1) := by decide +kernel
theorem d_C_doorLoss_54 : decode b_C_doorLoss 54 = .ok (.aaload, 1) := by decide +kernel
theorem d_C_doorLoss_55 : decode b_C_doorLoss 55 = .ok (.iload_n 1, 1) := by decide +kernel
theorem d_C_doorLoss_56 : decode b_C_doorLoss 56 = .ok (.iaload, 1) := by decide +kernel
theorem d_C_doorLoss_57 : decode b_C_doorLoss 57 = .ok (.iconst 1, 1) := by decide +kernel
theorem d_C_doorLoss_58 : decode b_C_doorLoss 58 = .ok (.if_icmp .ne 7, 3) := by decide +kernel
theorem d_C_doorLoss_61 : decode b_C_doorLoss 61 = .ok (.iconst 3, 1) := by decide +kernel
theorem d_C_doorLoss_62 : decode b_C_doorLoss 62 = .ok (.goto 4, 3) := by decide +kernel
theorem d_C_doorLoss_65 : decode b_C_doorLoss 65 = .ok (.iconst (-1), 1) := by decide +kernel
theorem d_C_doorLoss_66 : decode b_C_doorLoss 66 = .ok (.ireturn, 1) := by decide +kernel
theorem d_C_fillFromAllThings_0 : decode b_C_fillFromAllThings 0 = .ok (.aload_n 0, 1) := by decide +kernel
theorem d_C_fillFromAllThings_1 : decode b_C_fillFromAllThings 1 = .ok (.getfield 37, 3) := by decide +kernel
theorem d_C_fillFromAllThings_4 : decode b_C_fillFromAllThings 4 = .ok (.iconst 0, 1) := by decide +kernel
theorem d_C_fillFromAllThings_5 : decode b_C_fillFromAllThings 5 = .ok (.invokestatic 121, 3) := by decide +kernel
theorem d_C_fillFromAllThings_8 : decode b_C_fillFromAllThings 8 = .ok (.iconst 0, 1) := by decide +kernel
theorem d_C_fillFromAllThings_9 : decode b_C_fillFromAllThings 9 = .ok (.istore_n 2, 1) := by decide +kernel
theorem d_C_fillFromAllThings_10 : decode b_C_fillFromAllThings 10 = .ok (.iload_n 2, 1) := by decide +kernel
theorem d_C_fillFromAllThings_11 : decode b_C_fillFromAllThings 11 = .ok (.aload_n 0, 1) := by decide +kernel
theorem d_C_fillFromAllThings_12 : decode b_C_fillFromAllThings 12 = .ok (.getfield 7, 3) := by decide +kernel
theorem d_C_fillFromAllThings_15 : decode b_C_fillFromAllThings 15 = .ok (.if_icmp .ge 41, 3) := by decide +kernel
theorem d_C_fillFromAllThings_18 : decode b_C_fillFromAllThings 18 = .ok (.aload_n 0, 1) := by decide +kernel
theorem d_C_fillFromAllThings_19 : decode b_C_fillFromAllThings 19 = .ok (.iload_n 2, 1) := by decide +kernel
theorem d_C_fillFromAllThings_20 : decode b_C_fillFromAllThings 20 = .ok (.invokevirtual 77, 3) := by decide +kernel
theorem d_C_fillFromAllThings_23 : decode b_C_fillFromAllThings 23 = .ok (.istore_n 3, 1) := by decide +kernel
theorem d_C_fillFromAllThings_24 : decode b_C_fillFromAllThings 24 = .ok (.iload_n 3, 1) := by decide +kernel
theorem d_C_fillFromAllThings_25 : decode b_C_fillFromAllThings 25 = .ok (.iconst (-1), 1) := by decide +kernel
theorem d_C_fillFromAllThings_26 : decode b_C_fillFromAllThings 26 = .ok (.if_icmp .eq 24, 3) := by decide +kernel
theorem d_C_fillFromAllThings_29 : decode b_C_fillFromAllThings 29 = .ok (.aload_n 0, 1) := by decide +kernel
theorem d_C_fillFromAllThings_30 : decode b_C_fillFromAllThings 30 = .ok (.getfield 37, 3) := by decide +kernel
theorem d_C_fillFromAllThings_33 : decode b_C_fillFromAllThings 33 = .ok (.iload_n 3, 1) := by decide +kernel
theorem d_C_fillFromAllThings_34 : decode b_C_fillFromAllThings 34 = .ok (.aload_n 0, 1) := by decide +kernel
theorem d_C_fillFromAllThings_35 : decode b_C_fillFromAllThings 35 = .ok (.getfield 37, 3) := by decide +kernel
theorem d_C_fillFromAllThings_38 : decode b_C_fillFromAllThings 38 = .ok (.iload_n 3, 1) := by decide +kernel
theorem d_C_fillFromAllThings_39 : decode b_C_fillFromAllThings 39 = .ok (.iaload, 1) := by decide +kernel
theorem d_C_fillFromAllThings_40 : decode b_C_fillFromAllThings 40 = .ok (.aload_n 0, 1) := by decide +kernel
theorem d_C_fillFromAllThings_41 : decode b_C_fillFromAllThings 41 = .ok (.iload_n 2, 1) := by decide +kernel
theorem d_C_fillFromAllThings_42 : decode b_C_fillFromAllThings 42 = .ok (.iload_n 1, 1) := by decide +kernel
theorem d_C_fillFromAllThings_43 : decode b_C_fillFromAllThings 43 = .ok (.invokevirtual 86, 3) := by decide +kernel
theorem d_C_fillFromAllThings_46 : decode b_C_fillFromAllThings 46 = .ok (.invokestatic 127, 3) := by decide +kernel
theorem d_C_fillFromAllThings_49 : decode b_C_fillFromAllThings 49 = .ok (.iastore, 1) := by decide +kernel
theorem d_C_fillFromAllThings_50 : decode b_C_fillFromAllThings 50 = .ok (.iinc 2 1, 3) := by decide +kernel
theorem d_C_fillFromAllThings_53 : decode b_C_fillFromAllThings 53 = .ok (.goto (-43), 3) := by decide +kernel
theorem d_C_fillFromAllThings_56 : decode b_C_fillFromAllThings 56 = .ok (.aload_n 0, 1) := by decide +kernel
theorem d_C_fillFromAllThings_57 : decode b_C_fillFromAllThings 57 = .ok (.iload_n 1, 1) := by decide +kernel
theorem d_C_fillFromAllThings_58 : decode b_C_fillFromAllThings 58 = .ok (.invokevirtual 132, 3) := by decide +kernel
theorem d_C_fillFromAllThings_61 : decode b_C_fillFromAllThings 61 = .ok (.return_, 1) := by decide +kernel
theorem d_C_fillFromOneSpace_0 : decode b_C_fillFromOneSpace 0 = .ok (.aload_n 0, 1) := by decide +kernel
theorem d_C_fillFromOneSpace_1 : decode b_C_fillFromOneSpace 1 = .ok (.getfield 37, 3) := by decide +kernel
theorem d_C_fillFromOneSpace_4 : decode b_C_fillFromOneSpace 4 = .ok (.iconst 0, 1) := by decide +kernel
theorem d_C_fillFromOneSpace_5 : decode b_C_fillFromOneSpace 5 = .ok (.invokestatic 121, 3) := by decide +kernel
theorem d_C_fillFromOneSpace_8 : decode b_C_fillFromOneSpace 8 = .ok (.aload_n 0, 1) := by decide +kernel
theorem d_C_fillFromOneSpace_9 : decode b_C_fillFromOneSpace 9 = .ok (.iload_n 1, 1) := by decide +kernel
theorem d_C_fillFromOneSpace_10 : decode b_C_fillFromOneSpace 10 = .ok (.invokevirtual 40, 3) := by decide +kernel
theorem d_C_fillFromOneSpace_13 : decode b_C_fillFromOneSpace 13 = .ok (.ifCond .eq 12, 3) := by decide +kernel
theorem d_C_fillFromOneSpace_16 : decode b_C_fillFromOneSpace 16 = .ok (.aload_n 0, 1) := by decide +kernel
theorem d_C_fillFromOneSpace_17 : decode b_C_fillFromOneSpace 17 = .ok (.getfield 37, 3) := by decide +kernel
theorem d_C_fillFromOneSpace_20 : decode b_C_fillFromOneSpace 20 = .ok (.iload_n 1, 1) := by decide +kernel
theorem d_C_fillFromOneSpace_21 : decode b_C_fillFromOneSpace 21 = .ok (.sipush 1000, 3) := by decide +kernel
theorem d_C_fillFromOneSpace_24 : decode b_C_fillFromOneSpace 24 = .ok (.iastore, 1) := by decide +kernel
theorem d_C_fillFromOneSpace_25 : decode b_C_fillFromOneSpace 25 = .ok (.aload_n 0, 1) := by decide +kernel
theorem d_C_fillFromOneSpace_26 : decode b_C_fillFromOneSpace 26 = .ok (.iload_n 2, 1) := by decide +kernel
theorem d_C_fillFromOneSpace_27 : decode b_C_fillFromOneSpace 27 = .ok (.invokevirtual 132, 3) := by decide +kernel
theorem d_C_fillFromOneSpace_30 : decode b_C_fillFromOneSpace 30 = .ok (.return_, 1) := by decide +kernel
theorem d_C_lossAt_0 : decode b_C_lossAt 0 = .ok (.aload_n 0, 1) := by decide +kernel
theorem d_C_lossAt_1 : decode b_C_lossAt 1 = .ok (.iload_n 1, 1) := by decide +kernel
theorem d_C_lossAt_2 : decode b_C_lossAt 2 = .ok (.invokevirtual 40, 3) := by decide +kernel
theorem d_C_lossAt_5 : decode b_C_lossAt 5 = .ok (.ifCond .eq 25, 3) := by decide +kernel
theorem d_C_lossAt_8 : decode b_C_lossAt 8 = .ok (.aload_n 0, 1) := by decide +kernel
theorem d_C_lossAt_9 : decode b_C_lossAt 9 = .ok (.getfield 37, 3) := by decide +kernel
theorem d_C_lossAt_12 : decode b_C_lossAt 12 = .ok (.iload_n 1, 1) := by decide +kernel
theorem d_C_lossAt_13 : decode b_C_lossAt 13 = .ok (.iaload, 1) := by decide +kernel
theorem d_C_lossAt_14 : decode b_C_lossAt 14 = .ok (.ifCond .le 16, 3) := by decide +kernel
theorem d_C_lossAt_17 : decode b_C_lossAt 17 = .ok (.sipush 1000, 3) := by decide +kernel
theorem d_C_lossAt_20 : decode b_C_lossAt 20 = .ok (.aload_n 0, 1) := by decide +kernel
theorem d_C_lossAt_21 : decode b_C_lossAt 21 = .ok (.getfield 37, 3) := by decide +kernel
theorem d_C_lossAt_24 : decode b_C_lossAt 24 = .ok (.iload_n 1, 1) := by decide +kernel
theorem d_C_lossAt_25 : decode b_C_lossAt 25 = .ok (.iaload, 1) := by decide +kernel
theorem d_C_lossAt_26 : decode b_C_lossAt 26 = .ok (.isub, 1) := by decide +kernel
theorem d_C_lossAt_27 : decode b_C_lossAt 27 = .ok (.goto 4, 3) := by decide +kernel
theorem d_C_lossAt_30 : decode b_C_lossAt 30 = .ok (.iconst (-1), 1) := by decide +kernel
theorem d_C_lossAt_31 : decode b_C_lossAt 31 = .ok (.ireturn, 1) := by decide +kernel
theorem d_C_spread_0 : decode b_C_spread 0 = .ok (.iconst 1, 1) := by decide +kernel
theorem d_C_spread_1 : decode b_C_spread 1 = .ok (.istore_n 2, 1) := by decide +kernel
theorem d_C_spread_2 : decode b_C_spread 2 = .ok (.iconst 0, 1) := by decide +kernel
theorem d_C_spread_3 : decode b_C_spread 3 = .ok (.istore_n 3, 1) := by decide +kernel
theorem d_C_spread_4 : decode b_C_spread 4 = .ok (.iload_n 3, 1) := by decide +kernel
theorem d_C_spread_5 : decode b_C_spread 5 = .ok (.bipush 30, 2) := by decide +kernel
theorem d_C_spread_7 : decode b_C_spread 7 = .ok (.if_icmp .ge 125, 3) := by decide +kernel
theorem d_C_spread_10 : decode b_C_spread 10 = .ok (.iload_n 2, 1) := by decide +kernel
theorem d_C_spread_11 : decode b_C_spread 11 = .ok (.ifCond .eq 121, 3) := by decide +kernel
theorem d_C_spread_14 : decode b_C_spread 14 = .ok (.iconst 0, 1) := by decide +kernel
theorem d_C_spread_15 : decode b_C_spread 15 = .ok (.istore_n 2, 1) := by decide +kernel
theorem d_C_spread_16 : decode b_C_spread 16 = .ok (.iconst 0, 1) := by decide +kernel
theorem d_C_spread_17 : decode b_C_spread 17 = .ok (.istore 4, 2) := by decide +kernel
theorem d_C_spread_19 : decode b_C_spread 19 = .ok (.iload 4, 2) := by decide +kernel
theorem d_C_spread_21 : decode b_C_spread 21 = .ok (.aload_n 0, 1) := by decide +kernel
theorem d_C_spread_22 : decode b_C_spread 22 = .ok (.getfield 7, 3) := by decide +kernel
theorem d_C_spread_25 : decode b_C_spread 25 = .ok (.if_icmp .ge 43, 3) := by decide +kernel
theorem d_C_spread_28 : decode b_C_spread 28 = .ok (.aload_n 0, 1) := by decide +kernel
theorem d_C_spread_29 : decode b_C_spread 29 = .ok (.iload 4, 2) := by decide +kernel
theorem d_C_spread_31 : decode b_C_spread 31 = .ok (.iload_n 1, 1) := by decide +kernel
theorem d_C_spread_32 : decode b_C_spread 32 = .ok (.invokevirtual 135, 3) := by decide +kernel
theorem d_C_spread_35 : decode b_C_spread 35 = .ok (.istore 5, 2) := by decide +kernel
theorem d_C_spread_37 : decode b_C_spread 37 = .ok (.iload 5, 2) := by decide +kernel
theorem d_C_spread_39 : decode b_C_spread 39 = .ok (.iconst (-1), 1) := by decide +kernel
theorem d_C_spread_40 : decode b_C_spread 40 = .ok (.if_icmp .eq 22, 3) := by decide +kernel
theorem d_C_spread_43 : decode b_C_spread 43 = .ok (.aload_n 0, 1) := by decide +kernel
theorem d_C_spread_44 : decode b_C_spread 44 = .ok (.iload 4, 2) := by decide +kernel
theorem d_C_spread_46 : decode b_C_spread 46 = .ok (.aload_n 0, 1) := by decide +kernel
theorem d_C_spread_47 : decode b_C_spread 47 = .ok (.iload 4, 2) := by decide +kernel
theorem d_C_spread_49 : decode b_C_spread 49 = .ok (.invokevirtual 77, 3) := by decide +kernel
theorem d_C_spread_52 : decode b_C_spread 52 = .ok (.iload 5, 2) := by decide +kernel
theorem d_C_spread_54 : decode b_C_spread 54 = .ok (.invokevirtual 138, 3) := by decide +kernel
theorem d_C_spread_57 : decode b_C_spread 57 = .ok (.ifCond .eq 5, 3) := by decide +kernel
theorem d_C_spread_60 : decode b_C_spread 60 = .ok (.iconst 1, 1) := by decide +kernel
theorem d_C_spread_61 : decode b_C_spread 61 = .ok (.istore_n 2, 1) := by decide +kernel
theorem d_C_spread_62 : decode b_C_spread 62 = .ok (.iinc 4 1, 3) := by decide +kernel
theorem d_C_spread_65 : decode b_C_spread 65 = .ok (.goto (-46), 3) := by decide +kernel
theorem d_C_spread_68 : decode b_C_spread 68 = .ok (.iconst 0, 1) := by decide +kernel
theorem d_C_spread_69 : decode b_C_spread 69 = .ok (.istore 4, 2) := by decide +kernel
theorem d_C_spread_71 : decode b_C_spread 71 = .ok (.iload 4, 2) := by decide +kernel
theorem d_C_spread_73 : decode b_C_spread 73 = .ok (.aload_n 0, 1) := by decide +kernel
theorem d_C_spread_74 : decode b_C_spread 74 = .ok (.getfield 25, 3) := by decide +kernel
theorem d_C_spread_77 : decode b_C_spread 77 = .ok (.if_icmp .ge 49, 3) := by decide +kernel
theorem d_C_spread_80 : decode b_C_spread 80 = .ok (.aload_n 0, 1) := by decide +kernel
theorem d_C_spread_81 : decode b_C_spread 81 = .ok (.iload 4, 2) := by decide +kernel
theorem d_C_spread_83 : decode b_C_spread 83 = .ok (.iload_n 1, 1) := by decide +kernel
theorem d_C_spread_84 : decode b_C_spread 84 = .ok (.invokevirtual 142, 3) := by decide +kernel
theorem d_C_spread_87 : decode b_C_spread 87 = .ok (.istore 5, 2) := by decide +kernel
theorem d_C_spread_89 : decode b_C_spread 89 = .ok (.iload 5, 2) := by decide +kernel
theorem d_C_spread_91 : decode b_C_spread 91 = .ok (.iconst (-1), 1) := by decide +kernel
theorem d_C_spread_92 : decode b_C_spread 92 = .ok (.if_icmp .eq 28, 3) := by decide +kernel
theorem d_C_spread_95 : decode b_C_spread 95 = .ok (.aload_n 0, 1) := by decide +kernel
theorem d_C_spread_96 : decode b_C_spread 96 = .ok (.aload_n 0, 1) := by decide +kernel
theorem d_C_spread_97 : decode b_C_spread 97 = .ok (.getfield 28, 3) := by decide +kernel
theorem d_C_spread_100 : decode b_C_spread 100 = .ok (.iload 4, 2) := by decide +kernel
theorem d_C_spread_102 : decode b_C_spread 102 = .ok (.iaload, 1) := by decide +kernel
theorem d_C_spread_103 : decode b_C_spread 103 = .ok (.aload_n 0, 1) := by decide +kernel
theorem d_C_spread_104 : decode b_C_spread 104 = .ok (.getfield 31, 3) := by decide +kernel
theorem d_C_spread_107 : decode b_C_spread 107 = .ok (.iload 4, 2) := by decide +kernel
theorem d_C_spread_109 : decode b_C_spread 109 = .ok (.iaload, 1) := by decide +kernel
theorem d_C_spread_110 : decode b_C_spread 110 = .ok (.iload 5, 2) := by decide +kernel
theorem d_C_spread_112 : decode b_C_spread 112 = .ok (.invokevirtual 138, 3) := by decide +kernel
theorem d_C_spread_115 : decode b_C_spread 115 = .ok (.ifCond .eq 5, 3) := by decide +kernel
theorem d_C_spread_118 : decode b_C_spread 118 = .ok (.iconst 1, 1) := by decide +kernel
theorem d_C_spread_119 : decode b_C_spread 119 = .ok (.istore_n 2, 1) := by decide +kernel
theorem d_C_spread_120 : decode b_C_spread 120 = .ok (.iinc 4 1, 3) := by decide +kernel
theorem d_C_spread_123 : decode b_C_spread 123 = .ok (.goto (-52), 3) := by decide +kernel
theorem d_C_spread_126 : decode b_C_spread 126 = .ok (.iinc 3 1, 3) := by decide +kernel
theorem d_C_spread_129 : decode b_C_spread 129 = .ok (.goto (-125), 3) := by decide +kernel
theorem d_C_spread_132 : decode b_C_spread 132 = .ok (.return_, 1) := by decide +kernel
theorem d_C_spreadOver_0 : decode b_C_spreadOver 0 = .ok (.aload_n 0, 1) := by decide +kernel
theorem d_C_spreadOver_1 : decode b_C_spreadOver 1 = .ok (.iload_n 1, 1) := by decide +kernel
theorem d_C_spreadOver_2 : decode b_C_spreadOver 2 = .ok (.invokevirtual 40, 3) := by decide +kernel
theorem d_C_spreadOver_5 : decode b_C_spreadOver 5 = .ok (.ifCond .eq 11, 3) := by decide +kernel
theorem d_C_spreadOver_8 : decode b_C_spreadOver 8 = .ok (.aload_n 0, 1) := by decide +kernel
theorem d_C_spreadOver_9 : decode b_C_spreadOver 9 = .ok (.iload_n 2, 1) := by decide +kernel
theorem d_C_spreadOver_10 : decode b_C_spreadOver 10 = .ok (.invokevirtual 40, 3) := by decide +kernel
theorem d_C_spreadOver_13 : decode b_C_spreadOver 13 = .ok (.ifCond .ne 5, 3) := by decide +kernel
theorem d_C_spreadOver_16 : decode b_C_spreadOver 16 = .ok (.iconst 0, 1) := by decide +kernel
theorem d_C_spreadOver_17 : decode b_C_spreadOver 17 = .ok (.ireturn, 1) := by decide +kernel
theorem d_C_spreadOver_18 : decode b_C_spreadOver 18 = .ok (.aload_n 0, 1) := by decide +kernel
theorem d_C_spreadOver_19 : decode b_C_spreadOver 19 = .ok (.getfield 37, 3) := by decide +kernel
theorem d_C_spreadOver_22 : decode b_C_spreadOver 22 = .ok (.iload_n 1, 1) := by decide +kernel
theorem d_C_spreadOver_23 : decode b_C_spreadOver 23 = .ok (.iaload, 1) := by decide +kernel
theorem d_C_spreadOver_24 : decode b_C_spreadOver 24 = .ok (.iload_n 3, 1) := by decide +kernel
theorem d_C_spreadOver_25 : decode b_C_spreadOver 25 = .ok (.isub, 1) := by decide +kernel
theorem d_C_spreadOver_26 : decode b_C_spreadOver 26 = .ok (.aload_n 0, 1) := by decide +kernel
theorem d_C_spreadOver_27 : decode b_C_spreadOver 27 = .ok (.getfield 37, 3) := by decide +kernel
theorem d_C_spreadOver_30 : decode b_C_spreadOver 30 = .ok (.iload_n 2, 1) := by decide +kernel
theorem d_C_spreadOver_31 : decode b_C_spreadOver 31 = .ok (.iaload, 1) := by decide +kernel
theorem d_C_spreadOver_32 : decode b_C_spreadOver 32 = .ok (.if_icmp .le 19, 3) := by decide +kernel
theorem d_C_spreadOver_35 : decode b_C_spreadOver 35 = .ok (.aload_n 0, 1) := by decide +kernel
theorem d_C_spreadOver_36 : decode b_C_spreadOver 36 = .ok (.getfield 37, 3) := by decide +kernel
theorem d_C_spreadOver_39 : decode b_C_spreadOver 39 = .ok (.iload_n 2, 1) := by decide +kernel
theorem d_C_spreadOver_40 : decode b_C_spreadOver 40 = .ok (.aload_n 0, 1) := by decide +kernel
theorem d_C_spreadOver_41 : decode b_C_spreadOver 41 = .ok (.getfield 37, 3) := by decide +kernel
theorem d_C_spreadOver_44 : decode b_C_spreadOver 44 = .ok (.iload_n 1, 1) := by decide +kernel
theorem d_C_spreadOver_45 : decode b_C_spreadOver 45 = .ok (.iaload, 1) := by decide +kernel
theorem d_C_spreadOver_46 : decode b_C_spreadOver 46 = .ok (.iload_n 3, 1) := by decide +kernel
theorem d_C_spreadOver_47 : decode b_C_spreadOver 47 = .ok (.isub, 1) := by decide +kernel
theorem d_C_spreadOver_48 : decode b_C_spreadOver 48 = .ok (.iastore, 1) := by decide +kernel
theorem d_C_spreadOver_49 : decode b_C_spreadOver 49 = .ok (.iconst 1, 1) := by decide +kernel
theorem d_C_spreadOver_50 : decode b_C_spreadOver 50 = .ok (.ireturn, 1) := by decide +kernel
theorem d_C_spreadOver_51 : decode b_C_spreadOver 51 = .ok (.aload_n 0, 1) := by decide +kernel
theorem d_C_spreadOver_52 : decode b_C_spreadOver 52 = .ok (.getfield 37, 3) := by decide +kernel
theorem d_C_spreadOver_55 : decode b_C_spreadOver 55 = .ok (.iload_n 2, 1) := by decide +kernel
theorem d_C_spreadOver_56 : decode b_C_spreadOver 56 = .ok (.iaload, 1) := by decide +kernel
theorem d_C_spreadOver_57 : decode b_C_spreadOver 57 = .ok (.iload_n 3, 1) := by decide +kernel
theorem d_C_spreadOver_58 : decode b_C_spreadOver 58 = .ok (.isub, 1) := by decide +kernel
theorem d_C_spreadOver_59 : decode b_C_spreadOver 59 = .ok (.aload_n 0, 1) := by decide +kernel
theorem d_C_spreadOver_60 : decode b_C_spreadOver 60 = .ok (.getfield 37, 3) := by decide +kernel
theorem d_C_spreadOver_63 : decode b_C_spreadOver 63 = .ok (.iload_n 1, 1) := by decide +kernel
theorem d_C_spreadOver_64 : decode b_C_spreadOver 64 = .ok (.iaload, 1) := by decide +kernel
theorem d_C_spreadOver_65 : decode b_C_spreadOver 65 = .ok (.if_icmp .le 19, 3) := by decide +kernel
theorem d_C_spreadOver_68 : decode b_C_spreadOver 68 = .ok (.aload_n 0, 1) := by decide +kernel
theorem d_C_spreadOver_69 : decode b_C_spreadOver 69 = .ok (.getfield 37, 3) := by decide +kernel
theorem d_C_spreadOver_72 : decode b_C_spreadOver 72 = .ok (.iload_n 1, 1) := by decide +kernel
theorem d_C_spreadOver_73 : decode b_C_spreadOver 73 = .ok (.aload_n 0, 1) := by decide +kernel
theorem d_C_spreadOver_74 : decode b_C_spreadOver 74 = .ok (.getfield 37, 3) := by decide +kernel
theorem d_C_spreadOver_77 : decode b_C_spreadOver 77 = .ok (.iload_n 2, 1) := by decide +kernel
theorem d_C_spreadOver_78 : decode b_C_spreadOver 78 = .ok (.iaload, 1) := by decide +kernel
theorem d_C_spreadOver_79 : decode b_C_spreadOver 79 = .ok (.iload_n 3, 1) := by decide +kernel
theorem d_C_spreadOver_80 : decode b_C_spreadOver 80 = .ok (.isub, 1) := by decide +kernel
theorem d_C_spreadOver_81 : decode b_C_spreadOver 81 = .ok (.iastore, 1) := by decide +kernel
theorem d_C_spreadOver_82 : decode b_C_spreadOver 82 = .ok (.iconst 1, 1) := by decide +kernel
theorem d_C_spreadOver_83 : decode b_C_spreadOver 83 = .ok (.ireturn, 1) := by decide +kernel
theorem d_C_spreadOver_84 : decode b_C_spreadOver 84 = .ok (.iconst 0, 1) := by decide +kernel
theorem d_C_spreadOver_85 : decode b_C_spreadOver 85 = .ok (.ireturn, 1) := by decide +kernel
theorem d_C_partHeardOf_0 : decode b_C_partHeardOf 0 = .ok (.aload_n 0, 1) := by decide +kernel
theorem d_C_partHeardOf_1 : decode b_C_partHeardOf 1 = .ok (.aload_n 0, 1) := by decide +kernel
theorem d_C_partHeardOf_2 : decode b_C_partHeardOf 2 = .ok (.iload_n 1, 1) := by decide +kernel
theorem d_C_partHeardOf_3 : decode b_C_partHeardOf 3 = .ok (.invokevirtual 77, 3) := by decide +kernel
theorem d_C_partHeardOf_6 : decode b_C_partHeardOf 6 = .ok (.invokevirtual 100, 3) := by decide +kernel
theorem d_C_partHeardOf_9 : decode b_C_partHeardOf 9 = .ok (.istore_n 2, 1) := by decide +kernel
theorem d_C_partHeardOf_10 : decode b_C_partHeardOf 10 = .ok (.iload_n 2, 1) := by decide +kernel
theorem d_C_partHeardOf_11 : decode b_C_partHeardOf 11 = .ok (.iconst (-1), 1) := by decide +kernel
theorem d_C_partHeardOf_12 : decode b_C_partHeardOf 12 = .ok (.if_icmp .ne 7, 3) := by decide +kernel
theorem d_C_partHeardOf_15 : decode b_C_partHeardOf 15 = .ok (.iconst 0, 1) := by decide +kernel
theorem d_C_partHeardOf_16 : decode b_C_partHeardOf 16 = .ok (.goto 11, 3) := by decide +kernel
theorem d_C_partHeardOf_19 : decode b_C_partHeardOf 19 = .ok (.aload_n 0, 1) := by decide +kernel
theorem d_C_partHeardOf_20 : decode b_C_partHeardOf 20 = .ok (.iload_n 1, 1) := by decide +kernel
theorem d_C_partHeardOf_21 : decode b_C_partHeardOf 21 = .ok (.iconst 3, 1) := by decide +kernel
theorem d_C_partHeardOf_22 : decode b_C_partHeardOf 22 = .ok (.invokevirtual 86, 3) := by decide +kernel
theorem d_C_partHeardOf_25 : decode b_C_partHeardOf 25 = .ok (.iload_n 2, 1) := by decide +kernel
theorem d_C_partHeardOf_26 : decode b_C_partHeardOf 26 = .ok (.isub, 1) := by decide +kernel
theorem d_C_partHeardOf_27 : decode b_C_partHeardOf 27 = .ok (.ireturn, 1) := by decide +kernel
theorem d_C_viewOf_0 : decode b_C_viewOf 0 = .ok (.aload_n 0, 1) := by decide +kernel
theorem d_C_viewOf_1 : decode b_C_viewOf 1 = .ok (.iload_n 1, 1) := by decide +kernel
theorem d_C_viewOf_2 : decode b_C_viewOf 2 = .ok (.invokevirtual 77, 3) := by decide +kernel
theorem d_C_viewOf_5 : decode b_C_viewOf 5 = .ok (.istore_n 2, 1) := by decide +kernel
theorem d_C_viewOf_6 : decode b_C_viewOf 6 = .ok (.iload_n 2, 1) := by decide +kernel
theorem d_C_viewOf_7 : decode b_C_viewOf 7 = .ok (.iconst (-1), 1) := by decide +kernel
theorem d_C_viewOf_8 : decode b_C_viewOf 8 = .ok (.if_icmp .ne 5, 3) := by decide +kernel
theorem d_C_viewOf_11 : decode b_C_viewOf 11 = .ok (.iconst 0, 1) := by decide +kernel
theorem d_C_viewOf_12 : decode b_C_viewOf 12 = .ok (.ireturn, 1) := by decide +kernel
theorem d_C_viewOf_13 : decode b_C_viewOf 13 = .ok (.aload_n 0, 1) := by decide +kernel
theorem d_C_viewOf_14 : decode b_C_viewOf 14 = .ok (.iconst 1, 1) := by decide +kernel
theorem d_C_viewOf_15 : decode b_C_viewOf 15 = .ok (.iload_n 2, 1) := by decide +kernel
theorem d_C_viewOf_16 : decode b_C_viewOf 16 = .ok (.ishl, 1) := by decide +kernel
theorem d_C_viewOf_17 : decode b_C_viewOf 17 = .ok (.invokevirtual 145, 3) := by decide +kernel
theorem d_C_viewOf_20 : decode b_C_viewOf 20 = .ok (.istore_n 3, 1) := by decide +kernel
theorem d_C_viewOf_21 : decode b_C_viewOf 21 = .ok (.aload_n 0, 1) := by decide +kernel
theorem d_C_viewOf_22 : decode b_C_viewOf 22 = .ok (.aload_n 0, 1) := by decide +kernel
theorem d_C_viewOf_23 : decode b_C_viewOf 23 = .ok (.iload_n 3, 1) := by decide +kernel
theorem d_C_viewOf_24 : decode b_C_viewOf 24 = .ok (.invokevirtual 148, 3) := by decide +kernel
theorem d_C_viewOf_27 : decode b_C_viewOf 27 = .ok (.invokevirtual 145, 3) := by decide +kernel
theorem d_C_viewOf_30 : decode b_C_viewOf 30 = .ok (.ireturn, 1) := by decide +kernel
theorem d_C_widenedOverWalls_0 : decode b_C_widenedOverWalls 0 = .ok (.iload_n 1, 1) := by decide +kernel
theorem d_C_widenedOverWalls_1 : decode b_C_widenedOverWalls 1 = .ok (.istore_n 2, 1) := by decide +kernel
theorem d_C_widenedOverWalls_2 : decode b_C_widenedOverWalls 2 = .ok (.iconst 1, 1) := by decide +kernel
theorem d_C_widenedOverWalls_3 : decode b_C_widenedOverWalls 3 = .ok (.istore_n 3, 1) := by decide +kernel
theorem d_C_widenedOverWalls_4 : decode b_C_widenedOverWalls 4 = .ok (.iconst 0, 1) := by decide +kernel
theorem d_C_widenedOverWalls_5 : decode b_C_widenedOverWalls 5 = .ok (.istore 4, 2) := by decide +kernel
theorem d_C_widenedOverWalls_7 : decode b_C_widenedOverWalls 7 = .ok (.iload 4, 2) := by decide +kernel
theorem d_C_widenedOverWalls_9 : decode b_C_widenedOverWalls 9 = .ok (.bipush 30, 2) := by decide +kernel
theorem d_C_widenedOverWalls_11 : decode b_C_widenedOverWalls 11 = .ok (.if_icmp .ge 72, 3) := by decide +kernel
theorem d_C_widenedOverWalls_14 : decode b_C_widenedOverWalls 14 = .ok (.iload_n 3, 1) := by decide +kernel
theorem d_C_widenedOverWalls_15 : decode b_C_widenedOverWalls 15 = .ok (.ifCond .eq 68, 3) := by decide +kernel
theorem d_C_widenedOverWalls_18 : decode b_C_widenedOverWalls 18 = .ok (.iload_n 2, 1) := by decide +kernel
theorem d_C_widenedOverWalls_19 : decode b_C_widenedOverWalls 19 = .ok (.istore 5, 2) := by decide +kernel
theorem d_C_widenedOverWalls_21 : decode b_C_widenedOverWalls 21 = .ok (.iconst 0, 1) := by decide +kernel
theorem d_C_widenedOverWalls_22 : decode b_C_widenedOverWalls 22 = .ok (.istore 6, 2) := by decide +kernel
theorem d_C_widenedOverWalls_24 : decode b_C_widenedOverWalls 24 = .ok (.iload 6, 2) := by decide +kernel
theorem d_C_widenedOverWalls_26 : decode b_C_widenedOverWalls 26 = .ok (.aload_n 0, 1) := by decide +kernel
theorem d_C_widenedOverWalls_27 : decode b_C_widenedOverWalls 27 = .ok (.getfield 7, 3) := by decide +kernel
theorem d_C_widenedOverWalls_30 : decode b_C_widenedOverWalls 30 = .ok (.if_icmp .ge 35, 3) := by decide +kernel
theorem d_C_widenedOverWalls_33 : decode b_C_widenedOverWalls 33 = .ok (.aload_n 0, 1) := by decide +kernel
theorem d_C_widenedOverWalls_34 : decode b_C_widenedOverWalls 34 = .ok (.iload 6, 2) := by decide +kernel
theorem d_C_widenedOverWalls_36 : decode b_C_widenedOverWalls 36 = .ok (.iconst 2, 1) := by decide +kernel
theorem d_C_widenedOverWalls_37 : decode b_C_widenedOverWalls 37 = .ok (.invokevirtual 135, 3) := by decide +kernel
theorem d_C_widenedOverWalls_40 : decode b_C_widenedOverWalls 40 = .ok (.iconst (-1), 1) := by decide +kernel
theorem d_C_widenedOverWalls_41 : decode b_C_widenedOverWalls 41 = .ok (.if_icmp .eq 18, 3) := by decide +kernel
theorem d_C_widenedOverWalls_44 : decode b_C_widenedOverWalls 44 = .ok (.iload_n 2, 1) := by decide +kernel
theorem d_C_widenedOverWalls_45 : decode b_C_widenedOverWalls 45 = .ok (.iload_n 2, 1) := by decide +kernel
theorem d_C_widenedOverWalls_46 : decode b_C_widenedOverWalls 46 = .ok (.iload 6, 2) := by decide +kernel
theorem d_C_widenedOverWalls_48 : decode b_C_widenedOverWalls 48 = .ok (.aload_n 0, 1) := by decide +kernel
theorem d_C_widenedOverWalls_49 : decode b_C_widenedOverWalls 49 = .ok (.iload 6, 2) := by decide +kernel
theorem d_C_widenedOverWalls_51 : decode b_C_widenedOverWalls 51 = .ok (.invokevirtual 77, 3) := by decide +kernel
theorem d_C_widenedOverWalls_54 : decode b_C_widenedOverWalls 54 = .ok (.invokestatic 151, 3) := by decide +kernel
theorem d_C_widenedOverWalls_57 : decode b_C_widenedOverWalls 57 = .ok (.ior, 1) := by decide +kernel
theorem d_C_widenedOverWalls_58 : decode b_C_widenedOverWalls 58 = .ok (.istore_n 2, 1) := by decide +kernel
theorem d_C_widenedOverWalls_59 : decode b_C_widenedOverWalls 59 = .ok (.iinc 6 1, 3) := by decide +kernel
theorem d_C_widenedOverWalls_62 : decode b_C_widenedOverWalls 62 = .ok (.goto (-38), 3) := by decide +kernel
theorem d_C_widenedOverWalls_65 : decode b_C_widenedOverWalls 65 = .ok (.iload_n 2, 1) := by decide +kernel
theorem d_C_widenedOverWalls_66 : decode b_C_widenedOverWalls 66 = .ok (.iload 5, 2) := by decide +kernel
theorem d_C_widenedOverWalls_68 : decode b_C_widenedOverWalls 68 = .ok (.if_icmp .eq 7, 3) := by decide +kernel
theorem d_C_widenedOverWalls_71 : decode b_C_widenedOverWalls 71 = .ok (.iconst 1, 1) := by decide +kernel
theorem d_C_widenedOverWalls_72 : decode b_C_widenedOverWalls 72 = .ok (.goto 4, 3) := by decide +kernel
theorem d_C_widenedOverWalls_75 : decode b_C_widenedOverWalls 75 = .ok (.iconst 0, 1) := by decide +kernel
theorem d_C_widenedOverWalls_76 : decode b_C_widenedOverWalls 76 = .ok (.istore_n 3, 1) := by decide +kernel
theorem d_C_widenedOverWalls_77 : decode b_C_widenedOverWalls 77 = .ok (.iinc 4 1, 3) := by decide +kernel
theorem d_C_widenedOverWalls_80 : decode b_C_widenedOverWalls 80 = .ok (.goto (-73), 3) := by decide +kernel
theorem d_C_widenedOverWalls_83 : decode b_C_widenedOverWalls 83 = .ok (.iload_n 2, 1) := by decide +kernel
theorem d_C_widenedOverWalls_84 : decode b_C_widenedOverWalls 84 = .ok (.ireturn, 1) := by decide +kernel
theorem d_C_widenedOverOneDoor_0 : decode b_C_widenedOverOneDoor 0 = .ok (.iload_n 1, 1) := by decide +kernel
theorem d_C_widenedOverOneDoor_1 : decode b_C_widenedOverOneDoor 1 = .ok (.istore_n 2, 1) := by decide +kernel
theorem d_C_widenedOverOneDoor_2 : decode b_C_widenedOverOneDoor 2 = .ok (.iconst 0, 1) := by decide +kernel
theorem d_C_widenedOverOneDoor_3 : decode b_C_widenedOverOneDoor 3 = .ok (.istore_n 3, 1) := by decide +kernel
theorem d_C_widenedOverOneDoor_4 : decode b_C_widenedOverOneDoor 4 = .ok (.iload_n 3, 1) := by decide +kernel
theorem d_C_widenedOverOneDoor_5 : decode b_C_widenedOverOneDoor 5 = .ok (.aload_n 0, 1) := by decide +kernel
theorem d_C_widenedOverOneDoor_6 : decode b_C_widenedOverOneDoor 6 = .ok (.getfield 25, 3) := by decide +kernel
theorem d_C_widenedOverOneDoor_9 : decode b_C_widenedOverOneDoor 9 = .ok (.if_icmp .ge 38, 3) := by decide +kernel
theorem d_C_widenedOverOneDoor_12 : decode b_C_widenedOverOneDoor 12 = .ok (.aload_n 0, 1) := by decide +kernel
theorem d_C_widenedOverOneDoor_13 : decode b_C_widenedOverOneDoor 13 = .ok (.iload_n 3, 1) := by decide +kernel
theorem d_C_widenedOverOneDoor_14 : decode b_C_widenedOverOneDoor 14 = .ok (.iconst 2, 1) := by decide +kernel
theorem d_C_widenedOverOneDoor_15 : decode b_C_widenedOverOneDoor 15 = .ok (.invokevirtual 142, 3) := by decide +kernel
theorem d_C_widenedOverOneDoor_18 : decode b_C_widenedOverOneDoor 18 = .ok (.iconst (-1), 1) := by decide +kernel
theorem d_C_widenedOverOneDoor_19 : decode b_C_widenedOverOneDoor 19 = .ok (.if_icmp .eq 22, 3) := by decide +kernel
theorem d_C_widenedOverOneDoor_22 : decode b_C_widenedOverOneDoor 22 = .ok (.iload_n 2, 1) := by decide +kernel
theorem d_C_widenedOverOneDoor_23 : decode b_C_widenedOverOneDoor 23 = .ok (.iload_n 1, 1) := by decide +kernel
theorem d_C_widenedOverOneDoor_24 : decode b_C_widenedOverOneDoor 24 = .ok (.aload_n 0, 1) := by decide +kernel
theorem d_C_widenedOverOneDoor_25 : decode b_C_widenedOverOneDoor 25 = .ok (.getfield 28, 3) := by decide +kernel
theorem d_C_widenedOverOneDoor_28 : decode b_C_widenedOverOneDoor 28 = .ok (.iload_n 3, 1) := by decide +kernel
theorem d_C_widenedOverOneDoor_29 : decode b_C_widenedOverOneDoor 29 = .ok (.iaload, 1) := by decide +kernel
theorem d_C_widenedOverOneDoor_30 : decode b_C_widenedOverOneDoor 30 = .ok (.aload_n 0, 1) := by decide +kernel
theorem d_C_widenedOverOneDoor_31 : decode b_C_widenedOverOneDoor 31 = .ok (.getfield 31, 3) := by decide +kernel
theorem d_C_widenedOverOneDoor_34 : decode b_C_widenedOverOneDoor 34 = .ok (.iload_n 3, 1) := by decide +kernel
theorem d_C_widenedOverOneDoor_35 : decode b_C_widenedOverOneDoor 35 = .ok (.iaload, 1) := by decide +kernel
theorem d_C_widenedOverOneDoor_36 : decode b_C_widenedOverOneDoor 36 = .ok (.invokestatic 151, 3) := by decide +kernel
theorem d_C_widenedOverOneDoor_39 : decode b_C_widenedOverOneDoor 39 = .ok (.ior, 1) := by decide +kernel
theorem d_C_widenedOverOneDoor_40 : decode b_C_widenedOverOneDoor 40 = .ok (.istore_n 2, 1) := by decide +kernel
theorem d_C_widenedOverOneDoor_41 : decode b_C_widenedOverOneDoor 41 = .ok (.iinc 3 1, 3) := by decide +kernel
theorem d_C_widenedOverOneDoor_44 : decode b_C_widenedOverOneDoor 44 = .ok (.goto (-40), 3) := by decide +kernel
theorem d_C_widenedOverOneDoor_47 : decode b_C_widenedOverOneDoor 47 = .ok (.iload_n 2, 1) := by decide +kernel
theorem d_C_widenedOverOneDoor_48 : decode b_C_widenedOverOneDoor 48 = .ok (.ireturn, 1) := by decide +kernel
theorem d_C_endsIfTouched_0 : decode b_C_endsIfTouched 0 = .ok (.iload_n 1, 1) := by decide +kernel
theorem d_C_endsIfTouched_1 : decode b_C_endsIfTouched 1 = .ok (.ifCond .lt 7, 3) := by decide +kernel
theorem d_C_endsIfTouched_4 : decode b_C_endsIfTouched 4 = .ok (.iload_n 2, 1) := by decide +kernel
theorem d_C_endsIfTouched_5 : decode b_C_endsIfTouched 5 = .ok (.ifCond .ge 5, 3) := by decide +kernel
theorem d_C_endsIfTouched_8 : decode b_C_endsIfTouched 8 = .ok (.iconst 0, 1) := by decide +kernel
theorem d_C_endsIfTouched_9 : decode b_C_endsIfTouched 9 = .ok (.ireturn, 1) := by decide +kernel
theorem d_C_endsIfTouched_10 : decode b_C_endsIfTouched 10 = .ok (.iconst 1, 1) := by decide +kernel
theorem d_C_endsIfTouched_11 : decode b_C_endsIfTouched 11 = .ok (.iload_n 1, 1) := by decide +kernel
theorem d_C_endsIfTouched_12 : decode b_C_endsIfTouched 12 = .ok (.ishl, 1) := by decide +kernel
theorem d_C_endsIfTouched_13 : decode b_C_endsIfTouched 13 = .ok (.iconst 1, 1) := by decide +kernel
theorem d_C_endsIfTouched_14 : decode b_C_endsIfTouched 14 = .ok (.iload_n 2, 1) := by decide +kernel
theorem d_C_endsIfTouched_15 : decode b_C_endsIfTouched 15 = .ok (.ishl, 1) := by decide +kernel
theorem d_C_endsIfTouched_16 : decode b_C_endsIfTouched 16 = .ok (.ior, 1) := by decide +kernel
theorem d_C_endsIfTouched_17 : decode b_C_endsIfTouched 17 = .ok (.istore_n 3, 1) := by decide +kernel
theorem d_C_endsIfTouched_18 : decode b_C_endsIfTouched 18 = .ok (.iload_n 0, 1) := by decide +kernel
theorem d_C_endsIfTouched_19 : decode b_C_endsIfTouched 19 = .ok (.iload_n 3, 1) := by decide +kernel
theorem d_C_endsIfTouched_20 : decode b_C_endsIfTouched 20 = .ok (.iand, 1) := by decide +kernel
theorem d_C_endsIfTouched_21 : decode b_C_endsIfTouched 21 = .ok (.ifCond .eq 7, 3) := by decide +kernel
theorem d_C_endsIfTouched_24 : decode b_C_endsIfTouched 24 = .ok (.iload_n 3, 1) := by decide +kernel
theorem d_C_endsIfTouched_25 : decode b_C_endsIfTouched 25 = .ok (.goto 4, 3) := by decide +kernel
theorem d_C_endsIfTouched_28 : decode b_C_endsIfTouched 28 = .ok (.iconst 0, 1) := by decide +kernel
theorem d_C_endsIfTouched_29 : decode b_C_endsIfTouched 29 = .ok (.ireturn, 1) := by decide +kernel
theorem d_C_isSeen_0 : decode b_C_isSeen 0 = .ok (.aload_n 0, 1) := by decide +kernel
theorem d_C_isSeen_1 : decode b_C_isSeen 1 = .ok (.iload_n 1, 1) := by decide +kernel
theorem d_C_isSeen_2 : decode b_C_isSeen 2 = .ok (.invokevirtual 77, 3) := by decide +kernel
theorem d_C_isSeen_5 : decode b_C_isSeen 5 = .ok (.istore_n 3, 1) := by decide +kernel
theorem d_C_isSeen_6 : decode b_C_isSeen 6 = .ok (.iload_n 3, 1) := by decide +kernel
theorem d_C_isSeen_7 : decode b_C_isSeen 7 = .ok (.iconst (-1), 1) := by decide +kernel
theorem d_C_isSeen_8 : decode b_C_isSeen 8 = .ok (.if_icmp .eq 24, 3) := by decide +kernel
theorem d_C_isSeen_11 : decode b_C_isSeen 11 = .ok (.iload_n 2, 1) := by decide +kernel
theorem d_C_isSeen_12 : decode b_C_isSeen 12 = .ok (.iconst 1, 1) := by decide +kernel
theorem d_C_isSeen_13 : decode b_C_isSeen 13 = .ok (.iload_n 3, 1) := by decide +kernel
theorem d_C_isSeen_14 : decode b_C_isSeen 14 = .ok (.ishl, 1) := by decide +kernel
theorem d_C_isSeen_15 : decode b_C_isSeen 15 = .ok (.iand, 1) := by decide +kernel
theorem d_C_isSeen_16 : decode b_C_isSeen 16 = .ok (.ifCond .eq 16, 3) := by decide +kernel
theorem d_C_isSeen_19 : decode b_C_isSeen 19 = .ok (.aload_n 0, 1) := by decide +kernel
theorem d_C_isSeen_20 : decode b_C_isSeen 20 = .ok (.getfield 37, 3) := by decide +kernel
theorem d_C_isSeen_23 : decode b_C_isSeen 23 = .ok (.iload_n 3, 1) := by decide +kernel
theorem d_C_isSeen_24 : decode b_C_isSeen 24 = .ok (.iaload, 1) := by decide +kernel
theorem d_C_isSeen_25 : decode b_C_isSeen 25 = .ok (.ifCond .le 7, 3) := by decide +kernel
theorem d_C_isSeen_28 : decode b_C_isSeen 28 = .ok (.iconst 1, 1) := by decide +kernel
theorem d_C_isSeen_29 : decode b_C_isSeen 29 = .ok (.goto 4, 3) := by decide +kernel
theorem d_C_isSeen_32 : decode b_C_isSeen 32 = .ok (.iconst 0, 1) := by decide +kernel
theorem d_C_isSeen_33 : decode b_C_isSeen 33 = .ok (.ireturn, 1) := by decide +kernel
