theorem d_M_init_0 : decode b_M_init 0 = .ok (.aload_n 0, 1) := by decide +kernel
theorem d_M_init_1 : decode b_M_init 1 = .ok (.invokespecial 1, 3) := by decide +kernel
theorem d_M_init_4 : decode b_M_init 4 = .ok (.aload_n 0, 1) := by decide +kernel
theorem d_M_init_5 : decode b_M_init 5 = .ok (.bipush 30, 2) := by decide +kernel
theorem d_M_init_7 : decode b_M_init 7 = .ok (.newarray .int, 2) := by decide +kernel
theorem d_M_init_9 : decode b_M_init 9 = .ok (.putfield 7, 3) := by decide +kernel
theorem d_M_init_12 : decode b_M_init 12 = .ok (.aload_n 0, 1) := by decide +kernel
theorem d_M_init_13 : decode b_M_init 13 = .ok (.bipush 30, 2) := by decide +kernel
theorem d_M_init_15 : decode b_M_init 15 = .ok (.newarray .int, 2) := by decide +kernel
theorem d_M_init_17 : decode b_M_init 17 = .ok (.putfield 13, 3) := by decide +kernel
theorem d_M_init_20 : decode b_M_init 20 = .ok (.aload_n 0, 1) := by decide +kernel
theorem d_M_init_21 : decode b_M_init 21 = .ok (.bipush 120, 2) := by decide +kernel
theorem d_M_init_23 : decode b_M_init 23 = .ok (.newarray .int, 2) := by decide +kernel
theorem d_M_init_25 : decode b_M_init 25 = .ok (.putfield 16, 3) := by decide +kernel
theorem d_M_init_28 : decode b_M_init 28 = .ok (.aload_n 0, 1) := by decide +kernel
theorem d_M_init_29 : decode b_M_init 29 = .ok (.bipush 10, 2) := by decide +kernel
theorem d_M_init_31 : decode b_M_init 31 = .ok (.newarray .int, 2) := by decide +kernel
theorem d_M_init_33 : decode b_M_init 33 = .ok (.putfield 19, 3) := by decide +kernel
theorem d_M_init_36 : decode b_M_init 36 = .ok (.aload_n 0, 1) := by decide +kernel
theorem d_M_init_37 : decode b_M_init 37 = .ok (.bipush 10, 2) := by decide +kernel
theorem d_M_init_39 : decode b_M_init 39 = .ok (.newarray .int, 2) := by decide +kernel
theorem d_M_init_41 : decode b_M_init 41 = .ok (.putfield 22, 3) := by decide +kernel
theorem d_M_init_44 : decode b_M_init 44 = .ok (.aload_n 0, 1) := by decide +kernel
theorem d_M_init_45 : decode b_M_init 45 = .ok (.bipush 10, 2) := by decide +kernel
theorem d_M_init_47 : decode b_M_init 47 = .ok (.newarray .int, 2) := by decide +kernel
theorem d_M_init_49 : decode b_M_init 49 = .ok (.putfield 25, 3) := by decide +kernel
theorem d_M_init_52 : decode b_M_init 52 = .ok (.aload_n 0, 1) := by decide +kernel
theorem d_M_init_53 : decode b_M_init 53 = .ok (.bipush 10, 2) := by decide +kernel
theorem d_M_init_55 : decode b_M_init 55 = .ok (.newarray .int, 2) := by decide +kernel
theorem d_M_init_57 : decode b_M_init 57 = .ok (.putfield 28, 3) := by decide +kernel
theorem d_M_init_60 : decode b_M_init 60 = .ok (.aload_n 0, 1) := by decide +kernel
theorem d_M_init_61 : decode b_M_init 61 = .ok (.bipush 30, 2) := by decide +kernel
theorem d_M_init_63 : decode b_M_init 63 = .ok (.newarray .int, 2) := by decide +kernel
theorem d_M_init_65 : decode b_M_init 65 = .ok (.putfield 31, 3) := by decide +kernel
theorem d_M_init_68 : decode b_M_init 68 = .ok (.aload_n 0, 1) := by decide +kernel
theorem d_M_init_69 : decode b_M_init 69 = .ok (.bipush 30, 2) := by decide +kernel
theorem d_M_init_71 : decode b_M_init 71 = .ok (.newarray .int, 2) := by decide +kernel
theorem d_M_init_73 : decode b_M_init 73 = .ok (.putfield 34, 3) := by decide +kernel
theorem d_M_init_76 : decode b_M_init 76 = .ok (.aload_n 0, 1) := by decide +kernel
theorem d_M_init_77 : decode b_M_init 77 = .ok (.sipush 900, 3) := by decide +kernel
theorem d_M_init_80 : decode b_M_init 80 = .ok (.newarray .int, 2) := by decide +kernel
theorem d_M_init_82 : decode b_M_init 82 = .ok (.putfield 37, 3) := by decide +kernel
theorem d_M_init_85 : decode b_M_init 85 = .ok (.aload_n 0, 1) := by decide +kernel
theorem d_M_init_86 : decode b_M_init 86 = .ok (.sipush 900, 3) := by decide +kernel
theorem d_M_init_89 : decode b_M_init 89 = .ok (.newarray .boolean, 2) := by decide +kernel
theorem d_M_init_91 : decode b_M_init 91 = .ok (.putfield 40, 3) := by decide +kernel
theorem d_M_init_94 : decode b_M_init 94 = .ok (.aload_n 0, 1) := by decide +kernel
theorem d_M_init_95 : decode b_M_init 95 = .ok (.bipush 30, 2) := by decide +kernel
theorem d_M_init_97 : decode b_M_init 97 = .ok (.newarray .boolean, 2) := by decide +kernel
theorem d_M_init_99 : decode b_M_init 99 = .ok (.putfield 44, 3) := by decide +kernel
theorem d_M_init_102 : decode b_M_init 102 = .ok (.aload_n 0, 1) := by decide +kernel
theorem d_M_init_103 : decode b_M_init 103 = .ok (.iconst 0, 1) := by decide +kernel
theorem d_M_init_104 : decode b_M_init 104 = .ok (.putfield 47, 3) := by decide +kernel
theorem d_M_init_107 : decode b_M_init 107 = .ok (.return_, 1) := by decide +kernel
theorem d_M_in_0 : decode b_M_in 0 = .ok (.iload_n 0, 1) := by decide +kernel
theorem d_M_in_1 : decode b_M_in 1 = .ok (.iload_n 1, 1) := by decide +kernel
theorem d_M_in_2 : decode b_M_in 2 = .ok (.if_icmp .lt 12, 3) := by decide +kernel
theorem d_M_in_5 : decode b_M_in 5 = .ok (.iload_n 0, 1) := by decide +kernel
theorem d_M_in_6 : decode b_M_in 6 = .ok (.iload_n 2, 1) := by decide +kernel
theorem d_M_in_7 : decode b_M_in 7 = .ok (.if_icmp .gt 7, 3) := by decide +kernel
theorem d_M_in_10 : decode b_M_in 10 = .ok (.iconst 1, 1) := by decide +kernel
theorem d_M_in_11 : decode b_M_in 11 = .ok (.goto 4, 3) := by decide +kernel
theorem d_M_in_14 : decode b_M_in 14 = .ok (.iconst 0, 1) := by decide +kernel
theorem d_M_in_15 : decode b_M_in 15 = .ok (.ireturn, 1) := by decide +kernel
theorem d_M_isThing_0 : decode b_M_isThing 0 = .ok (.iload_n 1, 1) := by decide +kernel
theorem d_M_isThing_1 : decode b_M_isThing 1 = .ok (.iconst 0, 1) := by decide +kernel
theorem d_M_isThing_2 : decode b_M_isThing 2 = .ok (.aload_n 0, 1) := by decide +kernel
theorem d_M_isThing_3 : decode b_M_isThing 3 = .ok (.getfield 47, 3) := by decide +kernel
theorem d_M_isThing_6 : decode b_M_isThing 6 = .ok (.iconst 1, 1) := by decide +kernel
theorem d_M_isThing_7 : decode b_M_isThing 7 = .ok (.isub, 1) := by decide +kernel
theorem d_M_isThing_8 : decode b_M_isThing 8 = .ok (.invokestatic 51, 3) := by decide +kernel
theorem d_M_isThing_11 : decode b_M_isThing 11 = .ok (.ireturn, 1) := by decide +kernel
theorem d_M_isOf_0 : decode b_M_isOf 0 = .ok (.aload_n 0, 1) := by decide +kernel
theorem d_M_isOf_1 : decode b_M_isOf 1 = .ok (.iload_n 1, 1) := by decide +kernel
theorem d_M_isOf_2 : decode b_M_isOf 2 = .ok (.invokevirtual 55, 3) := by decide +kernel
theorem d_M_isOf_5 : decode b_M_isOf 5 = .ok (.ifCond .eq 17, 3) := by decide +kernel
theorem d_M_isOf_8 : decode b_M_isOf 8 = .ok (.aload_n 0, 1) := by decide +kernel
theorem d_M_isOf_9 : decode b_M_isOf 9 = .ok (.getfield 7, 3) := by decide +kernel
theorem d_M_isOf_12 : decode b_M_isOf 12 = .ok (.iload_n 1, 1) := by decide +kernel
theorem d_M_isOf_13 : decode b_M_isOf 13 = .ok (.iaload, 1) := by decide +kernel
theorem d_M_isOf_14 : decode b_M_isOf 14 = .ok (.iload_n 2, 1) := by decide +kernel
theorem d_M_isOf_15 : decode b_M_isOf 15 = .ok (.if_icmp .ne 7, 3) := by decide +kernel
theorem d_M_isOf_18 : decode b_M_isOf 18 = .ok (.iconst 1, 1) := by decide +kernel
theorem d_M_isOf_19 : decode b_M_isOf 19 = .ok (.goto 4, 3) := by decide +kernel
theorem d_M_isOf_22 : decode b_M_isOf 22 = .ok (.iconst 0, 1) := by decide +kernel
theorem d_M_isOf_23 : decode b_M_isOf 23 = .ok (.ireturn, 1) := by decide +kernel
theorem d_M_isSpace_0 : decode b_M_isSpace 0 = .ok (.aload_n 0, 1) := by decide +kernel
theorem d_M_isSpace_1 : decode b_M_isSpace 1 = .ok (.iload_n 1, 1) := by decide +kernel
theorem d_M_isSpace_2 : decode b_M_isSpace 2 = .ok (.iconst 0, 1) := by decide +kernel
theorem d_M_isSpace_3 : decode b_M_isSpace 3 = .ok (.invokevirtual 59, 3) := by decide +kernel
theorem d_M_isSpace_6 : decode b_M_isSpace 6 = .ok (.ifCond .ne 12, 3) := by decide +kernel
theorem d_M_isSpace_9 : decode b_M_isSpace 9 = .ok (.aload_n 0, 1) := by decide +kernel
theorem d_M_isSpace_10 : decode b_M_isSpace 10 = .ok (.iload_n 1, 1) := by decide +kernel
theorem d_M_isSpace_11 : decode b_M_isSpace 11 = .ok (.iconst 1, 1) := by decide +kernel
theorem d_M_isSpace_12 : decode b_M_isSpace 12 = .ok (.invokevirtual 59, 3) := by decide +kernel
theorem d_M_isSpace_15 : decode b_M_isSpace 15 = .ok (.ifCond .eq 7, 3) := by decide +kernel
theorem d_M_isSpace_18 : decode b_M_isSpace 18 = .ok (.iconst 1, 1) := by decide +kernel
theorem d_M_isSpace_19 : decode b_M_isSpace 19 = .ok (.goto 4, 3) := by decide +kernel
theorem d_M_isSpace_22 : decode b_M_isSpace 22 = .ok (.iconst 0, 1) := by decide +kernel
theorem d_M_isSpace_23 : decode b_M_isSpace 23 = .ok (.ireturn, 1) := by decide +kernel
theorem d_M_isDoor_0 : decode b_M_isDoor 0 = .ok (.iload_n 1, 1) := by decide +kernel
theorem d_M_isDoor_1 : decode b_M_isDoor 1 = .ok (.iconst 0, 1) := by decide +kernel
theorem d_M_isDoor_2 : decode b_M_isDoor 2 = .ok (.aload_n 0, 1) := by decide +kernel
theorem d_M_isDoor_3 : decode b_M_isDoor 3 = .ok (.getfield 63, 3) := by decide +kernel
theorem d_M_isDoor_6 : decode b_M_isDoor 6 = .ok (.iconst 1, 1) := by decide +kernel
theorem d_M_isDoor_7 : decode b_M_isDoor 7 = .ok (.isub, 1) := by decide +kernel
theorem d_M_isDoor_8 : decode b_M_isDoor 8 = .ok (.invokestatic 51, 3) := by decide +kernel
theorem d_M_isDoor_11 : decode b_M_isDoor 11 = .ok (.ireturn, 1) := by decide +kernel
theorem d_M_thing_0 : decode b_M_thing 0 = .ok (.iload_n 1, 1) := by decide +kernel
theorem d_M_thing_1 : decode b_M_thing 1 = .ok (.iconst 0, 1) := by decide +kernel
theorem d_M_thing_2 : decode b_M_thing 2 = .ok (.iconst 4, 1) := by decide +kernel
theorem d_M_thing_3 : decode b_M_thing 3 = .ok (.invokestatic 51, 3) := by decide +kernel
theorem d_M_thing_6 : decode b_M_thing 6 = .ok (.ifCond .ne 6, 3) := by decide +kernel
theorem d_M_thing_9 : decode b_M_thing 9 = .ok (.bipush (-3), 2) := by decide +kernel
theorem d_M_thing_11 : decode b_M_thing 11 = .ok (.ireturn, 1) := by decide +kernel
theorem d_M_thing_12 : decode b_M_thing 12 = .ok (.aload_n 0, 1) := by decide +kernel
theorem d_M_thing_13 : decode b_M_thing 13 = .ok (.getfield 47, 3) := by decide +kernel
theorem d_M_thing_16 : decode b_M_thing 16 = .ok (.bipush 30, 2) := by decide +kernel
theorem d_M_thing_18 : decode b_M_thing 18 = .ok (.if_icmp .ne 6, 3) := by decide +kernel
theorem d_M_thing_21 : decode b_M_thing 21 = .ok (.bipush (-7), 2) := by decide +kernel
theorem d_M_thing_23 : decode b_M_thing 23 = .ok (.ireturn, 1) := by decide +kernel
theorem d_M_thing_24 : decode b_M_thing 24 = .ok (.aload_n 0, 1) := by decide +kernel
theorem d_M_thing_25 : decode b_M_thing 25 = .ok (.getfield 7, 3) := by decide +kernel
theorem d_M_thing_28 : decode b_M_thing 28 = .ok (.aload_n 0, 1) := by decide +kernel
theorem d_M_thing_29 : decode b_M_thing 29 = .ok (.getfield 47, 3) := by decide +kernel
theorem d_M_thing_32 : decode b_M_thing 32 = .ok (.iload_n 1, 1) := by decide +kernel
theorem d_M_thing_33 : decode b_M_thing 33 = .ok (.iastore, 1) := by decide +kernel
theorem d_M_thing_34 : decode b_M_thing 34 = .ok (.aload_n 0, 1) := by decide +kernel
theorem d_M_thing_35 : decode b_M_thing 35 = .ok (.getfield 13, 3) := by decide +kernel
theorem d_M_thing_38 : decode b_M_thing 38 = .ok (.aload_n 0, 1) := by decide +kernel
theorem d_M_thing_39 : decode b_M_thing 39 = .ok (.getfield 47, 3) := by decide +kernel
theorem d_M_thing_42 : decode b_M_thing 42 = .ok (.iconst (-1), 1) := by decide +kernel
theorem d_M_thing_43 : decode b_M_thing 43 = .ok (.iastore, 1) := by decide +kernel
theorem d_M_thing_44 : decode b_M_thing 44 = .ok (.iconst 0, 1) := by decide +kernel
theorem d_M_thing_45 : decode b_M_thing 45 = .ok (.istore_n 2, 1) := by decide +kernel
theorem d_M_thing_46 : decode b_M_thing 46 = .ok (.iload_n 2, 1) := by decide +kernel
theorem d_M_thing_47 : decode b_M_thing 47 = .ok (.iconst 4, 1) := by decide +kernel
theorem d_M_thing_48 : decode b_M_thing 48 = .ok (.if_icmp .ge 23, 3) := by decide +kernel
theorem d_M_thing_51 : decode b_M_thing 51 = .ok (.aload_n 0, 1) := by decide +kernel
theorem d_M_thing_52 : decode b_M_thing 52 = .ok (.getfield 16, 3) := by decide +kernel
theorem d_M_thing_55 : decode b_M_thing 55 = .ok (.iconst 4, 1) := by decide +kernel
theorem d_M_thing_56 : decode b_M_thing 56 = .ok (.aload_n 0, 1) := by decide +kernel
theorem d_M_thing_57 : decode b_M_thing 57 = .ok (.getfield 47, 3) := by decide +kernel
theorem d_M_thing_60 : decode b_M_thing 60 = .ok (.imul, 1) := by decide +kernel
theorem d_M_thing_61 : decode b_M_thing 61 = .ok (.iload_n 2, 1) := by decide +kernel
theorem d_M_thing_62 : decode b_M_thing 62 = .ok (.iadd, 1) := by decide +kernel
theorem d_M_thing_63 : decode b_M_thing 63 = .ok (.iconst 0, 1) := by decide +kernel
theorem d_M_thing_64 : decode b_M_thing 64 = .ok (.iastore, 1) := by decide +kernel
theorem d_M_thing_65 : decode b_M_thing 65 = .ok (.iinc 2 1, 3) := by decide +kernel
theorem d_M_thing_68 : decode b_M_thing 68 = .ok (.goto (-22), 3) := by decide +kernel
theorem d_M_thing_71 : decode b_M_thing 71 = .ok (.aload_n 0, 1) := by decide +kernel
theorem d_M_thing_72 : decode b_M_thing 72 = .ok (.dup, 1) := by decide +kernel
theorem d_M_thing_73 : decode b_M_thing 73 = .ok (.getfield 47, 3) := by decide +kernel
theorem d_M_thing_76 : decode b_M_thing 76 = .ok (.iconst 1, 1) := by decide +kernel
theorem d_M_thing_77 : decode b_M_thing 77 = .ok (.iadd, 1) := by decide +kernel
theorem d_M_thing_78 : decode b_M_thing 78 = .ok (.putfield 47, 3) := by decide +kernel
theorem d_M_thing_81 : decode b_M_thing 81 = .ok (.aload_n 0, 1) := by decide +kernel
theorem d_M_thing_82 : decode b_M_thing 82 = .ok (.getfield 47, 3) := by decide +kernel
theorem d_M_thing_85 : decode b_M_thing 85 = .ok (.iconst 1, 1) := by decide +kernel
theorem d_M_thing_86 : decode b_M_thing 86 = .ok (.isub, 1) := by decide +kernel
theorem d_M_thing_87 : decode b_M_thing 87 = .ok (.ireturn, 1) := by decide +kernel
theorem d_M_clear_0 : decode b_M_clear 0 = .ok (.aload_n 0, 1) := by decide +kernel
theorem d_M_clear_1 : decode b_M_clear 1 = .ok (.getfield 47, 3) := by decide +kernel
theorem d_M_clear_4 : decode b_M_clear 4 = .ok (.istore_n 1, 1) := by decide +kernel
theorem d_M_clear_5 : decode b_M_clear 5 = .ok (.aload_n 0, 1) := by decide +kernel
theorem d_M_clear_6 : decode b_M_clear 6 = .ok (.iconst 0, 1) := by decide +kernel
theorem d_M_clear_7 : decode b_M_clear 7 = .ok (.putfield 47, 3) := by decide +kernel
theorem d_M_clear_10 : decode b_M_clear 10 = .ok (.aload_n 0, 1) := by decide +kernel
theorem d_M_clear_11 : decode b_M_clear 11 = .ok (.iconst 0, 1) := by decide +kernel
theorem d_M_clear_12 : decode b_M_clear 12 = .ok (.putfield 63, 3) := by decide +kernel
theorem d_M_clear_15 : decode b_M_clear 15 = .ok (.iload_n 1, 1) := by decide +kernel
theorem d_M_clear_16 : decode b_M_clear 16 = .ok (.ireturn, 1) := by decide +kernel
theorem d_M_isWithin_0 : decode b_M_isWithin 0 = .ok (.aload_n 0, 1) := by decide +kernel
theorem d_M_isWithin_1 : decode b_M_isWithin 1 = .ok (.getfield 13, 3) := by decide +kernel
theorem d_M_isWithin_4 : decode b_M_isWithin 4 = .ok (.iload_n 1, 1) := by decide +kernel
theorem d_M_isWithin_5 : decode b_M_isWithin 5 = .ok (.iaload, 1) := by decide +kernel
theorem d_M_isWithin_6 : decode b_M_isWithin 6 = .ok (.istore_n 3, 1) := by decide +kernel
theorem d_M_isWithin_7 : decode b_M_isWithin 7 = .ok (.iload_n 3, 1) := by decide +kernel
theorem d_M_isWithin_8 : decode b_M_isWithin 8 = .ok (.iconst (-1), 1) := by decide +kernel
theorem d_M_isWithin_9 : decode b_M_isWithin 9 = .ok (.if_icmp .eq 18, 3) := by decide +kernel
theorem d_M_isWithin_12 : decode b_M_isWithin 12 = .ok (.iload_n 3, 1) := by decide +kernel
theorem d_M_isWithin_13 : decode b_M_isWithin 13 = .ok (.iload_n 2, 1) := by decide +kernel
theorem d_M_isWithin_14 : decode b_M_isWithin 14 = .ok (.if_icmp .eq 13, 3) := by decide +kernel
theorem d_M_isWithin_17 : decode b_M_isWithin 17 = .ok (.aload_n 0, 1) := by decide +kernel
theorem d_M_isWithin_18 : decode b_M_isWithin 18 = .ok (.getfield 13, 3) := by decide +kernel
theorem d_M_isWithin_21 : decode b_M_isWithin 21 = .ok (.iload_n 3, 1) := by decide +kernel
theorem d_M_isWithin_22 : decode b_M_isWithin 22 = .ok (.iaload, 1) := by decide +kernel
theorem d_M_isWithin_23 : decode b_M_isWithin 23 = .ok (.istore_n 3, 1) := by decide +kernel
theorem d_M_isWithin_24 : decode b_M_isWithin 24 = .ok (.goto (-17), 3) := by decide +kernel
theorem d_M_isWithin_27 : decode b_M_isWithin 27 = .ok (.iload_n 3, 1) := by decide +kernel
theorem d_M_isWithin_28 : decode b_M_isWithin 28 = .ok (.iload_n 2, 1) := by decide +kernel
theorem d_M_isWithin_29 : decode b_M_isWithin 29 = .ok (.if_icmp .ne 12, 3) := by decide +kernel
theorem d_M_isWithin_32 : decode b_M_isWithin 32 = .ok (.iload_n 2, 1) := by decide +kernel
theorem d_M_isWithin_33 : decode b_M_isWithin 33 = .ok (.iconst (-1), 1) := by decide +kernel
theorem d_M_isWithin_34 : decode b_M_isWithin 34 = .ok (.if_icmp .eq 7, 3) := by decide +kernel
theorem d_M_isWithin_37 : decode b_M_isWithin 37 = .ok (.iconst 1, 1) := by decide +kernel
theorem d_M_isWithin_38 : decode b_M_isWithin 38 = .ok (.goto 4, 3) := by decide +kernel
theorem d_M_isWithin_41 : decode b_M_isWithin 41 = .ok (.iconst 0, 1) := by decide +kernel
theorem d_M_isWithin_42 : decode b_M_isWithin 42 = .ok (.ireturn, 1) := by decide +kernel
theorem d_M_heldBy_0 : decode b_M_heldBy 0 = .ok (.iconst 0, 1) := by decide +kernel
theorem d_M_heldBy_1 : decode b_M_heldBy 1 = .ok (.istore_n 2, 1) := by decide +kernel
theorem d_M_heldBy_2 : decode b_M_heldBy 2 = .ok (.iconst 0, 1) := by decide +kernel
theorem d_M_heldBy_3 : decode b_M_heldBy 3 = .ok (.istore_n 3, 1) := by decide +kernel
theorem d_M_heldBy_4 : decode b_M_heldBy 4 = .ok (.iload_n 3, 1) := by decide +kernel
theorem d_M_heldBy_5 : decode b_M_heldBy 5 = .ok (.aload_n 0, 1) := by decide +kernel
theorem d_M_heldBy_6 : decode b_M_heldBy 6 = .ok (.getfield 47, 3) := by decide +kernel
theorem d_M_heldBy_9 : decode b_M_heldBy 9 = .ok (.if_icmp .ge 27, 3) := by decide +kernel
theorem d_M_heldBy_12 : decode b_M_heldBy 12 = .ok (.iload_n 2, 1) := by decide +kernel
theorem d_M_heldBy_13 : decode b_M_heldBy 13 = .ok (.aload_n 0, 1) := by decide +kernel
theorem d_M_heldBy_14 : decode b_M_heldBy 14 = .ok (.getfield 13, 3) := by decide +kernel
theorem d_M_heldBy_17 : decode b_M_heldBy 17 = .ok (.iload_n 3, 1) := by decide +kernel
theorem d_M_heldBy_18 : decode b_M_heldBy 18 = .ok (.iaload, 1) := by decide +kernel
theorem d_M_heldBy_19 : decode b_M_heldBy 19 = .ok (.iload_n 1, 1) := by decide +kernel
theorem d_M_heldBy_20 : decode b_M_heldBy 20 = .ok (.if_icmp .ne 7, 3) := by decide +kernel
theorem d_M_heldBy_23 : decode b_M_heldBy 23 = .ok (.iconst 1, 1) := by decide +kernel
theorem d_M_heldBy_24 : decode b_M_heldBy 24 = .ok (.goto 4, 3) := by decide +kernel
theorem d_M_heldBy_27 : decode b_M_heldBy 27 = .ok (.iconst 0, 1) := by decide +kernel
theorem d_M_heldBy_28 : decode b_M_heldBy 28 = .ok (.iadd, 1) := by decide +kernel
theorem d_M_heldBy_29 : decode b_M_heldBy 29 = .ok (.istore_n 2, 1) := by decide +kernel
theorem d_M_heldBy_30 : decode b_M_heldBy 30 = .ok (.iinc 3 1, 3) := by decide +kernel
theorem d_M_heldBy_33 : decode b_M_heldBy 33 = .ok (.goto (-29), 3) := by decide +kernel
theorem d_M_heldBy_36 : decode b_M_heldBy 36 = .ok (.iload_n 2, 1) := by decide +kernel
theorem d_M_heldBy_37 : decode b_M_heldBy 37 = .ok (.ireturn, 1) := by decide +kernel
theorem d_M_hasRoom_0 : decode b_M_hasRoom 0 = .ok (.aload_n 0, 1) := by decide +kernel
theorem d_M_hasRoom_1 : decode b_M_hasRoom 1 = .ok (.getfield 7, 3) := by decide +kernel
theorem d_M_hasRoom_4 : decode b_M_hasRoom 4 = .ok (.iload_n 1, 1) := by decide +kernel
theorem d_M_hasRoom_5 : decode b_M_hasRoom 5 = .ok (.iaload, 1) := by decide +kernel
theorem d_M_hasRoom_6 : decode b_M_hasRoom 6 = .ok (.ifCond .eq 13, 3) := by decide +kernel
theorem d_M_hasRoom_9 : decode b_M_hasRoom 9 = .ok (.aload_n 0, 1) := by decide +kernel
theorem d_M_hasRoom_10 : decode b_M_hasRoom 10 = .ok (.iload_n 1, 1) := by decide +kernel
theorem d_M_hasRoom_11 : decode b_M_hasRoom 11 = .ok (.invokevirtual 66, 3) := by decide +kernel
theorem d_M_hasRoom_14 : decode b_M_hasRoom 14 = .ok (.bipush 8, 2) := by decide +kernel
theorem d_M_hasRoom_16 : decode b_M_hasRoom 16 = .ok (.if_icmp .ge 7, 3) := by decide +kernel
theorem d_M_hasRoom_19 : decode b_M_hasRoom 19 = .ok (.iconst 1, 1) := by decide +kernel
theorem d_M_hasRoom_20 : decode b_M_hasRoom 20 = .ok (.goto 4, 3) := by decide +kernel
theorem d_M_hasRoom_23 : decode b_M_hasRoom 23 = .ok (.iconst 0, 1) := by decide +kernel
theorem d_M_hasRoom_24 : decode b_M_hasRoom 24 = .ok (.ireturn, 1) := by decide +kernel
theorem d_M_put_0 : decode b_M_put 0 = .ok (.aload_n 0, 1) := by decide +kernel
theorem d_M_put_1 : decode b_M_put 1 = .ok (.iload_n 1, 1) := by decide +kernel
theorem d_M_put_2 : decode b_M_put 2 = .ok (.invokevirtual 55, 3) := by decide +kernel
theorem d_M_put_5 : decode b_M_put 5 = .ok (.ifCond .eq 35, 3) := by decide +kernel
theorem d_M_put_8 : decode b_M_put 8 = .ok (.aload_n 0, 1) := by decide +kernel
theorem d_M_put_9 : decode b_M_put 9 = .ok (.getfield 7, 3) := by decide +kernel
theorem d_M_put_12 : decode b_M_put 12 = .ok (.iload_n 1, 1) := by decide +kernel
theorem d_M_put_13 : decode b_M_put 13 = .ok (.iaload, 1) := by decide +kernel
theorem d_M_put_14 : decode b_M_put 14 = .ok (.ifCond .eq 26, 3) := by decide +kernel
theorem d_M_put_17 : decode b_M_put 17 = .ok (.iload_n 2, 1) := by decide +kernel
theorem d_M_put_18 : decode b_M_put 18 = .ok (.iconst (-1), 1) := by decide +kernel
theorem d_M_put_19 : decode b_M_put 19 = .ok (.if_icmp .eq 24, 3) := by decide +kernel
theorem d_M_put_22 : decode b_M_put 22 = .ok (.aload_n 0, 1) := by decide +kernel
theorem d_M_put_23 : decode b_M_put 23 = .ok (.iload_n 2, 1) := by decide +kernel
theorem d_M_put_24 : decode b_M_put 24 = .ok (.invokevirtual 55, 3) := by decide +kernel
theorem d_M_put_27 : decode b_M_put 27 = .ok (.ifCond .eq 13, 3) := by decide +kernel
theorem d_M_put_30 : decode b_M_put 30 = .ok (.aload_n 0, 1) := by decide +kernel
theorem d_M_put_31 : decode b_M_put 31 = .ok (.getfield 7, 3) := by decide +kernel
theorem d_M_put_34 : decode b_M_put 34 = .ok (.iload_n 2, 1) := by decide +kernel
theorem d_M_put_35 : decode b_M_put 35 = .ok (.iaload, 1) := by decide +kernel
theorem d_M_put_36 : decode b_M_put 36 = .ok (.iconst 4, 1) := by decide +kernel
theorem d_M_put_37 : decode b_M_put 37 = .ok (.if_icmp .ne 6, 3) := by decide +kernel
theorem d_M_put_40 : decode b_M_put 40 = .ok (.bipush (-2), 2) := by decide +kernel
theorem d_M_put_42 : decode b_M_put 42 = .ok (.ireturn, 1) := by decide +kernel
theorem d_M_put_43 : decode b_M_put 43 = .ok (.iload_n 2, 1) := by decide +kernel
theorem d_M_put_44 : decode b_M_put 44 = .ok (.iload_n 1, 1) := by decide +kernel
theorem d_M_put_45 : decode b_M_put 45 = .ok (.if_icmp .eq 17, 3) := by decide +kernel
theorem d_M_put_48 : decode b_M_put 48 = .ok (.iload_n 2, 1) := by decide +kernel
theorem d_M_put_49 : decode b_M_put 49 = .ok (.iconst (-1), 1) := by decide +kernel
theorem d_M_put_50 : decode b_M_put 50 = .ok (.if_icmp .eq 15, 3) := by decide +kernel
theorem d_M_put_53 : decode b_M_put 53 = .ok (.aload_n 0, 1) := by decide +kernel
theorem d_M_put_54 : decode b_M_put 54 = .ok (.iload_n 2, 1) := by decide +kernel
theorem d_M_put_55 : decode b_M_put 55 = .ok (.iload_n 1, 1) := by decide +kernel
theorem d_M_put_56 : decode b_M_put 56 = .ok (.invokevirtual 70, 3) := by decide +kernel
theorem d_M_put_59 : decode b_M_put 59 = .ok (.ifCond .eq 6, 3) := by decide +kernel
theorem d_M_put_62 : decode b_M_put 62 = .ok (.bipush (-4), 2) := by decide +kernel
theorem d_M_put_64 : decode b_M_put 64 = .ok (.ireturn, 1) := by decide +kernel
theorem d_M_put_65 : decode b_M_put 65 = .ok (.iload_n 2, 1) := by decide +kernel
theorem d_M_put_66 : decode b_M_put 66 = .ok (.iconst (-1), 1) := by decide +kernel
theorem d_M_put_67 : decode b_M_put 67 = .ok (.if_icmp .eq 24, 3) := by decide +kernel
theorem d_M_put_70 : decode b_M_put 70 = .ok (.aload_n 0, 1) := by decide +kernel
theorem d_M_put_71 : decode b_M_put 71 = .ok (.getfield 13, 3) := by decide +kernel
theorem d_M_put_74 : decode b_M_put 74 = .ok (.iload_n 1, 1) := by decide +kernel
theorem d_M_put_75 : decode b_M_put 75 = .ok (.iaload, 1) := by decide +kernel
theorem d_M_put_76 : decode b_M_put 76 = .ok (.iload_n 2, 1) := by decide +kernel
theorem d_M_put_77 : decode b_M_put 77 = .ok (.if_icmp .eq 14, 3) := by decide +kernel
theorem d_M_put_80 : decode b_M_put 80 = .ok (.aload_n 0, 1) := by decide +kernel
theorem d_M_put_81 : decode b_M_put 81 = .ok (.iload_n 2, 1) := by decide +kernel
theorem d_M_put_82 : decode b_M_put 82 = .ok (.invokevirtual 73, 3) := by decide +kernel
theorem d_M_put_85 : decode b_M_put 85 = .ok (.ifCond .ne 6, 3) := by decide +kernel
theorem d_M_put_88 : decode b_M_put 88 = .ok (.bipush (-7), 2) := by decide +kernel
theorem d_M_put_90 : decode b_M_put 90 = .ok (.ireturn, 1) := by decide +kernel
theorem d_M_put_91 : decode b_M_put 91 = .ok (.aload_n 0, 1) := by decide +kernel
theorem d_M_put_92 : decode b_M_put 92 = .ok (.getfield 13, 3) := by decide +kernel
theorem d_M_put_95 : decode b_M_put 95 = .ok (.iload_n 1, 1) := by decide +kernel
theorem d_M_put_96 : decode b_M_put 96 = .ok (.iaload, 1) := by decide +kernel
theorem d_M_put_97 : decode b_M_put 97 = .ok (.istore_n 3, 1) := by decide +kernel
theorem d_M_put_98 : decode b_M_put 98 = .ok (.aload_n 0, 1) := by decide +kernel
theorem d_M_put_99 : decode b_M_put 99 = .ok (.getfield 13, 3) := by decide +kernel
theorem d_M_put_102 : decode b_M_put 102 = .ok (.iload_n 1, 1) := by decide +kernel
theorem d_M_put_103 : decode b_M_put 103 = .ok (.iload_n 2, 1) := by decide +kernel
theorem d_M_put_104 : decode b_M_put 104 = .ok (.iastore, 1) := by decide +kernel
theorem d_M_put_105 : decode b_M_put 105 = .ok (.iload_n 3, 1) := by decide +kernel
theorem d_M_put_106 : decode b_M_put 106 = .ok (.ireturn, 1) := by decide +kernel
theorem d_M_set_0 : decode b_M_set 0 = .ok (.aload_n 0, 1) := by decide +kernel
theorem d_M_set_1 : decode b_M_set 1 = .ok (.iload_n 1, 1) := by decide +kernel
theorem d_M_set_2 : decode b_M_set 2 = .ok (.invokevirtual 55, 3) := by decide +kernel
theorem d_M_set_5 : decode b_M_set 5 = .ok (.ifCond .eq 22, 3) := by decide +kernel
theorem d_M_set_8 : decode b_M_set 8 = .ok (.iload_n 2, 1) := by decide +kernel
theorem d_M_set_9 : decode b_M_set 9 = .ok (.iconst 0, 1) := by decide +kernel
theorem d_M_set_10 : decode b_M_set 10 = .ok (.iconst 1, 1) := by decide +kernel
theorem d_M_set_11 : decode b_M_set 11 = .ok (.invokestatic 51, 3) := by decide +kernel
theorem d_M_set_14 : decode b_M_set 14 = .ok (.ifCond .eq 16, 3) := by decide +kernel
theorem d_M_set_17 : decode b_M_set 17 = .ok (.aload_n 0, 1) := by decide +kernel
theorem d_M_set_18 : decode b_M_set 18 = .ok (.getfield 7, 3) := by decide +kernel
theorem d_M_set_21 : decode b_M_set 21 = .ok (.iload_n 1, 1) := by decide +kernel
theorem d_M_set_22 : decode b_M_set 22 = .ok (.iaload, 1) := by decide +kernel
theorem d_M_set_23 : decode b_M_set 23 = .ok (.iconst 1, 1) := by decide +kernel
theorem d_M_set_24 : decode b_M_set 24 = .ok (.if_icmp .eq 6, 3) := by decide +kernel
theorem d_M_set_27 : decode b_M_set 27 = .ok (.bipush (-2), 2) := by decide +kernel
theorem d_M_set_29 : decode b_M_set 29 = .ok (.ireturn, 1) := by decide +kernel
theorem d_M_set_30 : decode b_M_set 30 = .ok (.iload_n 2, 1) := by decide +kernel
theorem d_M_set_31 : decode b_M_set 31 = .ok (.iconst 0, 1) := by decide +kernel
theorem d_M_set_32 : decode b_M_set 32 = .ok (.iconst 3, 1) := by decide +kernel
theorem d_M_set_33 : decode b_M_set 33 = .ok (.invokestatic 51, 3) := by decide +kernel
theorem d_M_set_36 : decode b_M_set 36 = .ok (.ifCond .eq 22, 3) := by decide +kernel
theorem d_M_set_39 : decode b_M_set 39 = .ok (.iload_n 3, 1) := by decide +kernel
theorem d_M_set_40 : decode b_M_set 40 = .ok (.iconst 0, 1) := by decide +kernel
theorem d_M_set_41 : decode b_M_set 41 = .ok (.iload_n 2, 1) := by decide +kernel
theorem d_M_set_42 : decode b_M_set 42 = .ok (.iconst 2, 1) := by decide +kernel
theorem d_M_set_43 : decode b_M_set 43 = .ok (.if_icmp .ge 7, 3) := by decide +kernel
theorem d_M_set_46 : decode b_M_set 46 = .ok (.iconst 1, 1) := by decide +kernel
theorem d_M_set_47 : decode b_M_set 47 = .ok (.goto 5, 3) := by decide +kernel
theorem d_M_set_50 : decode b_M_set 50 = .ok (.bipush 9, 2) := by decide +kernel
theorem d_M_set_52 : decode b_M_set 52 = .ok (.invokestatic 51, 3) := by decide +kernel
theorem d_M_set_55 : decode b_M_set 55 = .ok (.ifCond .ne 6, 3) := by decide +kernel
theorem d_M_set_58 : decode b_M_set 58 = .ok (.bipush (-3), 2) := by decide +kernel
theorem d_M_set_60 : decode b_M_set 60 = .ok (.ireturn, 1) := by decide +kernel
theorem d_M_set_61 : decode b_M_set 61 = .ok (.aload_n 0, 1) := by decide +kernel
theorem d_M_set_62 : decode b_M_set 62 = .ok (.getfield 16, 3) := by decide +kernel
theorem d_M_set_65 : decode b_M_set 65 = .ok (.iconst 4, 1) := by decide +kernel
theorem d_M_set_66 : decode b_M_set 66 = .ok (.iload_n 1, 1) := by decide +kernel
theorem d_M_set_67 : decode b_M_set 67 = .ok (.imul, 1) := by decide +kernel
theorem d_M_set_68 : decode b_M_set 68 = .ok (.iload_n 2, 1) := by decide +kernel
theorem d_M_set_69 : decode b_M_set 69 = .ok (.iadd, 1) := by decide +kernel
theorem d_M_set_70 : decode b_M_set 70 = .ok (.iaload, 1) := by decide +kernel
theorem d_M_set_71 : decode b_M_set 71 = .ok (.istore 4, 2) := by decide +kernel
theorem d_M_set_73 : decode b_M_set 73 = .ok (.aload_n 0, 1) := by decide +kernel
theorem d_M_set_74 : decode b_M_set 74 = .ok (.getfield 16, 3) := by decide +kernel
theorem d_M_set_77 : decode b_M_set 77 = .ok (.iconst 4, 1) := by decide +kernel
theorem d_M_set_78 : decode b_M_set 78 = .ok (.iload_n 1, 1) := by decide +kernel
theorem d_M_set_79 : decode b_M_set 79 = .ok (.imul, 1) := by decide +kernel
theorem d_M_set_80 : decode b_M_set 80 = .ok (.iload_n 2, 1) := by decide +kernel
theorem d_M_set_81 : decode b_M_set 81 = .ok (.iadd, 1) := by decide +kernel
theorem d_M_set_82 : decode b_M_set 82 = .ok (.iload_n 3, 1) := by decide +kernel
theorem d_M_set_83 : decode b_M_set 83 = .ok (.iastore, 1) := by decide +kernel
theorem d_M_set_84 : decode b_M_set 84 = .ok (.iload 4, 2) := by decide +kernel
theorem d_M_set_86 : decode b_M_set 86 = .ok (.ireturn, 1) := by decide +kernel
theorem d_M_door_0 : decode b_M_door 0 = .ok (.aload_n 0, 1) := by decide +kernel
theorem d_M_door_1 : decode b_M_door 1 = .ok (.iload_n 1, 1) := by decide +kernel
theorem d_M_door_2 : decode b_M_door 2 = .ok (.iconst 0, 1) := by decide +kernel
theorem d_M_door_3 : decode b_M_door 3 = .ok (.invokevirtual 59, 3) := by decide +kernel
theorem d_M_door_6 : decode b_M_door 6 = .ok (.ifCond .eq 12, 3) := by decide +kernel
theorem d_M_door_9 : decode b_M_door 9 = .ok (.aload_n 0, 1) := by decide +kernel
theorem d_M_door_10 : decode b_M_door 10 = .ok (.iload_n 2, 1) := by decide +kernel
theorem d_M_door_11 : decode b_M_door 11 = .ok (.iconst 0, 1) := by decide +kernel
theorem d_M_door_12 : decode b_M_door 12 = .ok (.invokevirtual 59, 3) := by decide +kernel
theorem d_M_door_15 : decode b_M_door 15 = .ok (.ifCond .ne 6, 3) := by decide +kernel
theorem d_M_door_18 : decode b_M_door 18 = .ok (.bipush (-2), 2) := by decide +kernel
theorem d_M_door_20 : decode b_M_door 20 = .ok (.ireturn, 1) := by decide +kernel
theorem d_M_door_21 : decode b_M_door 21 = .ok (.iload_n 1, 1) := by decide +kernel
theorem d_M_door_22 : decode b_M_door 22 = .ok (.iload_n 2, 1) := by decide +kernel
theorem d_M_door_23 : decode b_M_door 23 = .ok (.if_icmp .ne 6, 3) := by decide +kernel
theorem d_M_door_26 : decode b_M_door 26 = .ok (.bipush (-3), 2) := by decide +kernel
theorem d_M_door_28 : decode b_M_door 28 = .ok (.ireturn, 1) := by decide +kernel
theorem d_M_door_29 : decode b_M_door 29 = .ok (.aload_n 0, 1) := by decide +kernel
theorem d_M_door_30 : decode b_M_door 30 = .ok (.getfield 63, 3) := by decide +kernel
theorem d_M_door_33 : decode b_M_door 33 = .ok (.bipush 10, 2) := by decide +kernel
theorem d_M_door_35 : decode b_M_door 35 = .ok (.if_icmp .ne 6, 3) := by decide +kernel
theorem d_M_door_38 : decode b_M_door 38 = .ok (.bipush (-7), 2) := by decide +kernel
theorem d_M_door_40 : decode b_M_door 40 = .ok (.ireturn, 1) := by decide +kernel
theorem d_M_door_41 : decode b_M_door 41 = .ok (.aload_n 0, 1) := by decide +kernel
theorem d_M_door_42 : decode b_M_door 42 = .ok (.getfield 19, 3) := by decide +kernel
theorem d_M_door_45 : decode b_M_door 45 = .ok (.aload_n 0, 1) := by decide +kernel
theorem d_M_door_46 : decode b_M_door 46 = .ok (.getfield 63, 3) := by decide +kernel
theorem d_M_door_49 : decode b_M_door 49 = .ok (.iload_n 1, 1) := by decide +kernel
theorem d_M_door_50 : decode b_M_door 50 = .ok (.iastore, 1) := by decide +kernel
theorem d_M_door_51 : decode b_M_door 51 = .ok (.aload_n 0, 1) := by decide +kernel
theorem d_M_door_52 : decode b_M_door 52 = .ok (.getfield 22, 3) := by decide +kernel
theorem d_M_door_55 : decode b_M_door 55 = .ok (.aload_n 0, 1) := by decide +kernel
theorem d_M_door_56 : decode b_M_door 56 = .ok (.getfield 63, 3) := by decide +kernel
theorem d_M_door_59 : decode b_M_door 59 = .ok (.iload_n 2, 1) := by decide +kernel
theorem d_M_door_60 : decode b_M_door 60 = .ok (.iastore, 1) := by decide +kernel
theorem d_M_door_61 : decode b_M_door 61 = .ok (.aload_n 0, 1) := by decide +kernel
theorem d_M_door_62 : decode b_M_door 62 = .ok (.getfield 25, 3) := by decide +kernel
theorem d_M_door_65 : decode b_M_door 65 = .ok (.aload_n 0, 1) := by decide +kernel
theorem d_M_door_66 : decode b_M_door 66 = .ok (.getfield 63, 3) := by decide +kernel
theorem d_M_door_69 : decode b_M_door 69 = .ok (.iconst 0, 1) := by decide +kernel
theorem d_M_door_70 : decode b_M_door 70 = .ok (.iastore, 1) := by decide +kernel
theorem d_M_door_71 : decode b_M_door 71 = .ok (.aload_n 0, 1) := by decide +kernel
theorem d_M_door_72 : decode b_M_door 72 = .ok (.getfield 28, 3) := by decide +kernel
theorem d_M_door_75 : decode b_M_door 75 = .ok (.aload_n 0, 1) := by decide +kernel
theorem d_M_door_76 : decode b_M_door 76 = .ok (.getfield 63, 3) := by decide +kernel
theorem d_M_door_79 : decode b_M_door 79 = .ok (.iconst 0, 1) := by decide +kernel
theorem d_M_door_80 : decode b_M_door 80 = .ok (.iastore, 1) := by decide +kernel
theorem d_M_door_81 : decode b_M_door 81 = .ok (.aload_n 0, 1) := by decide +kernel
theorem d_M_door_82 : decode b_M_door 82 = .ok (.dup, 1) := by decide +kernel
theorem d_M_door_83 : decode b_M_door 83 = .ok (.getfield 63, 3) := by decide +kernel
theorem d_M_door_86 : decode b_M_door 86 = .ok (.iconst 1, 1) := by decide +kernel
theorem d_M_door_87 : decode b_M_door 87 = .ok (.iadd, 1) := by decide +kernel
theorem d_M_door_88 : decode b_M_door 88 = .ok (.putfield 63, 3) := by decide +kernel
theorem d_M_door_91 : decode b_M_door 91 = .ok (.aload_n 0, 1) := by decide +kernel
theorem d_M_door_92 : decode b_M_door 92 = .ok (.getfield 63, 3) := by decide +kernel
theorem d_M_door_95 : decode b_M_door 95 = .ok (.iconst 1, 1) := by decide +kernel
theorem d_M_door_96 : decode b_M_door 96 = .ok (.isub, 1) := by decide +kernel
theorem d_M_door_97 : decode b_M_door 97 = .ok (.ireturn, 1) := by decide +kernel
theorem d_M_turn_0 : decode b_M_turn 0 = .ok (.aload_n 0, 1) := by decide +kernel
theorem d_M_turn_1 : decode b_M_turn 1 = .ok (.iload_n 1, 1) := by decide +kernel
theorem d_M_turn_2 : decode b_M_turn 2 = .ok (.invokevirtual 76, 3) := by decide +kernel
theorem d_M_turn_5 : decode b_M_turn 5 = .ok (.ifCond .ne 6, 3) := by decide +kernel
theorem d_M_turn_8 : decode b_M_turn 8 = .ok (.bipush (-2), 2) := by decide +kernel
theorem d_M_turn_10 : decode b_M_turn 10 = .ok (.ireturn, 1) := by decide +kernel
theorem d_M_turn_11 : decode b_M_turn 11 = .ok (.iload_n 2, 1) := by decide +kernel
theorem d_M_turn_12 : decode b_M_turn 12 = .ok (.iconst 0, 1) := by decide +kernel
theorem d_M_turn_13 : decode b_M_turn 13 = .ok (.iconst 1, 1) := by decide +kernel
theorem d_M_turn_14 : decode b_M_turn 14 = .ok (.invokestatic 51, 3) := by decide +kernel
theorem d_M_turn_17 : decode b_M_turn 17 = .ok (.ifCond .eq 12, 3) := by decide +kernel
theorem d_M_turn_20 : decode b_M_turn 20 = .ok (.iload_n 3, 1) := by decide +kernel
theorem d_M_turn_21 : decode b_M_turn 21 = .ok (.iconst 0, 1) := by decide +kernel
theorem d_M_turn_22 : decode b_M_turn 22 = .ok (.iconst 1, 1) := by decide +kernel
theorem d_M_turn_23 : decode b_M_turn 23 = .ok (.invokestatic 51, 3) := by decide +kernel
theorem d_M_turn_26 : decode b_M_turn 26 = .ok (.ifCond .ne 6, 3) := by decide +kernel
theorem d_M_turn_29 : decode b_M_turn 29 = .ok (.bipush (-3), 2) := by decide +kernel
theorem d_M_turn_31 : decode b_M_turn 31 = .ok (.ireturn, 1) := by decide +kernel
theorem d_M_turn_32 : decode b_M_turn 32 = .ok (.iload_n 2, 1) := by decide +kernel
theorem d_M_turn_33 : decode b_M_turn 33 = .ok (.ifCond .ne 12, 3) := by decide +kernel
theorem d_M_turn_36 : decode b_M_turn 36 = .ok (.aload_n 0, 1) := by decide +kernel
theorem d_M_turn_37 : decode b_M_turn 37 = .ok (.getfield 25, 3) := by decide +kernel
theorem d_M_turn_40 : decode b_M_turn 40 = .ok (.iload_n 1, 1) := by decide +kernel
theorem d_M_turn_41 : decode b_M_turn 41 = .ok (.iaload, 1) := by decide +kernel
theorem d_M_turn_42 : decode b_M_turn 42 = .ok (.goto 9, 3) := by decide +kernel
theorem d_M_turn_45 : decode b_M_turn 45 = .ok (.aload_n 0, 1) := by decide +kernel
theorem d_M_turn_46 : decode b_M_turn 46 = .ok (.getfield 28, 3) := by decide +kernel
theorem d_M_turn_49 : decode b_M_turn 49 = .ok (.iload_n 1, 1) := by decide +kernel
theorem d_M_turn_50 : decode b_M_turn 50 = .ok (.iaload, 1) := by decide +kernel
theorem d_M_turn_51 : decode b_M_turn 51 = .ok (.istore 4, 2) := by decide +kernel
theorem d_M_turn_53 : decode b_M_turn 53 = .ok (.iload_n 2, 1) := by decide +kernel
theorem d_M_turn_54 : decode b_M_turn 54 = .ok (.ifCond .ne 13, 3) := by decide +kernel
theorem d_M_turn_57 : decode b_M_turn 57 = .ok (.aload_n 0, 1) := by decide +kernel
theorem d_M_turn_58 : decode b_M_turn 58 = .ok (.getfield 25, 3) := by decide +kernel
theorem d_M_turn_61 : decode b_M_turn 61 = .ok (.iload_n 1, 1) := by decide +kernel
theorem d_M_turn_62 : decode b_M_turn 62 = .ok (.iload_n 3, 1) := by decide +kernel
theorem d_M_turn_63 : decode b_M_turn 63 = .ok (.iastore, 1) := by decide +kernel
theorem d_M_turn_64 : decode b_M_turn 64 = .ok (.goto 10, 3) := by decide +kernel
theorem d_M_turn_67 : decode b_M_turn 67 = .ok (.aload_n 0, 1) := by decide +kernel
theorem d_M_turn_68 : decode b_M_turn 68 = .ok (.getfield 28, 3) := by decide +kernel
theorem d_M_turn_71 : decode b_M_turn 71 = .ok (.iload_n 1, 1) := by decide +kernel
theorem d_M_turn_72 : decode b_M_turn 72 = .ok (.iload_n 3, 1) := by decide +kernel
theorem d_M_turn_73 : decode b_M_turn 73 = .ok (.iastore, 1) := by decide +kernel
theorem d_M_turn_74 : decode b_M_turn 74 = .ok (.iload 4, 2) := by decide +kernel
theorem d_M_turn_76 : decode b_M_turn 76 = .ok (.ireturn, 1) := by decide +kernel
theorem d_M_findWay_0 : decode b_M_findWay 0 = .ok (.aload_n 0, 1) := by decide +kernel
theorem d_M_findWay_1 : decode b_M_findWay 1 = .ok (.iconst 0, 1) := by decide +kernel
theorem d_M_findWay_2 : decode b_M_findWay 2 = .ok (.putfield 79, 3) := by decide +kernel
theorem d_M_findWay_5 : decode b_M_findWay 5 = .ok (.aload_n 0, 1) := by decide +kernel
theorem d_M_findWay_6 : decode b_M_findWay 6 = .ok (.iconst 0, 1) := by decide +kernel
theorem d_M_findWay_7 : decode b_M_findWay 7 = .ok (.putfield 82, 3) := by decide +kernel
theorem d_M_findWay_10 : decode b_M_findWay 10 = .ok (.iload_n 1, 1) := by decide +kernel
theorem d_M_findWay_11 : decode b_M_findWay 11 = .ok (.istore_n 3, 1) := by decide +kernel
theorem d_M_findWay_12 : decode b_M_findWay 12 = .ok (.iload_n 3, 1) := by decide +kernel
theorem d_M_findWay_13 : decode b_M_findWay 13 = .ok (.iconst (-1), 1) := by decide +kernel
theorem d_M_findWay_14 : decode b_M_findWay 14 = .ok (.if_icmp .eq 52, 3) := by decide +kernel
theorem d_M_findWay_17 : decode b_M_findWay 17 = .ok (.iload_n 3, 1) := by decide +kernel
theorem d_M_findWay_18 : decode b_M_findWay 18 = .ok (.iload_n 2, 1) := by decide +kernel
theorem d_M_findWay_19 : decode b_M_findWay 19 = .ok (.if_icmp .eq 47, 3) := by decide +kernel
theorem d_M_findWay_22 : decode b_M_findWay 22 = .ok (.aload_n 0, 1) := by decide +kernel
theorem d_M_findWay_23 : decode b_M_findWay 23 = .ok (.iload_n 2, 1) := by decide +kernel
theorem d_M_findWay_24 : decode b_M_findWay 24 = .ok (.iload_n 3, 1) := by decide +kernel
theorem d_M_findWay_25 : decode b_M_findWay 25 = .ok (.invokevirtual 70, 3) := by decide +kernel
theorem d_M_findWay_28 : decode b_M_findWay 28 = .ok (.ifCond .ne 38, 3) := by decide +kernel
theorem d_M_findWay_31 : decode b_M_findWay 31 = .ok (.iload_n 3, 1) := by decide +kernel
theorem d_M_findWay_32 : decode b_M_findWay 32 = .ok (.iload_n 1, 1) := by decide +kernel
theorem d_M_findWay_33 : decode b_M_findWay 33 = .ok (.if_icmp .eq 23, 3) := by decide +kernel
theorem d_M_findWay_36 : decode b_M_findWay 36 = .ok (.aload_n 0, 1) := by decide +kernel
theorem d_M_findWay_37 : decode b_M_findWay 37 = .ok (.getfield 31, 3) := by decide +kernel
theorem d_M_findWay_40 : decode b_M_findWay 40 = .ok (.aload_n 0, 1) := by decide +kernel
theorem d_M_findWay_41 : decode b_M_findWay 41 = .ok (.getfield 79, 3) := by decide +kernel
theorem d_M_findWay_44 : decode b_M_findWay 44 = .ok (.iload_n 3, 1) := by decide +kernel
theorem d_M_findWay_45 : decode b_M_findWay 45 = .ok (.iastore, 1) := by decide +kernel
theorem d_M_findWay_46 : decode b_M_findWay 46 = .ok (.aload_n 0, 1) := by decide +kernel
theorem d_M_findWay_47 : decode b_M_findWay 47 = .ok (.dup, 1) := by decide +kernel
theorem d_M_findWay_48 : decode b_M_findWay 48 = .ok (.getfield 79, 3) := by decide +kernel
theorem d_M_findWay_51 : decode b_M_findWay 51 = .ok (.iconst 1, 1) := by decide +kernel
theorem d_M_findWay_52 : decode b_M_findWay 52 = .ok (.iadd, 1) := by decide +kernel
theorem d_M_findWay_53 : decode b_M_findWay 53 = .ok (.putfield 79, 3) := by decide +kernel
theorem d_M_findWay_56 : decode b_M_findWay 56 = .ok (.aload_n 0, 1) := by decide +kernel
theorem d_M_findWay_57 : decode b_M_findWay 57 = .ok (.getfield 13, 3) := by decide +kernel
theorem d_M_findWay_60 : decode b_M_findWay 60 = .ok (.iload_n 3, 1) := by decide +kernel
theorem d_M_findWay_61 : decode b_M_findWay 61 = .ok (.iaload, 1) := by decide +kernel
theorem d_M_findWay_62 : decode b_M_findWay 62 = .ok (.istore_n 3, 1) := by decide +kernel
theorem d_M_findWay_63 : decode b_M_findWay 63 = .ok (.goto (-51), 3) := by decide +kernel
theorem d_M_findWay_66 : decode b_M_findWay 66 = .ok (.iload_n 3, 1) := by decide +kernel
theorem d_M_findWay_67 : decode b_M_findWay 67 = .ok (.iconst (-1), 1) := by decide +kernel
theorem d_M_findWay_68 : decode b_M_findWay 68 = .ok (.if_icmp .ne 5, 3) := by decide +kernel
theorem d_M_findWay_71 : decode b_M_findWay 71 = .ok (.iconst 0, 1) := by decide +kernel
theorem d_M_findWay_72 : decode b_M_findWay 72 = .ok (.ireturn, 1) := by decide +kernel
theorem d_M_findWay_73 : decode b_M_findWay 73 = .ok (.iload_n 3, 1) := by decide +kernel
theorem d_M_findWay_74 : decode b_M_findWay 74 = .ok (.iload_n 2, 1) := by decide +kernel
theorem d_M_findWay_75 : decode b_M_findWay 75 = .ok (.if_icmp .ne 7, 3) := by decide +kernel
theorem d_M_findWay_78 : decode b_M_findWay 78 = .ok (.iload_n 3, 1) := by decide +kernel
theorem d_M_findWay_79 : decode b_M_findWay 79 = .ok (.goto 9, 3) := by decide +kernel
theorem d_M_findWay_82 : decode b_M_findWay 82 = .ok (.aload_n 0, 1) := by decide +kernel
theorem d_M_findWay_83 : decode b_M_findWay 83 = .ok (.getfield 13, 3) := by decide +kernel
theorem d_M_findWay_86 : decode b_M_findWay 86 = .ok (.iload_n 2, 1) := by decide +kernel
theorem d_M_findWay_87 : decode b_M_findWay 87 = .ok (.iaload, 1) := by decide +kernel
theorem d_M_findWay_88 : decode b_M_findWay 88 = .ok (.istore 4, 2) := by decide +kernel
theorem d_M_findWay_90 : decode b_M_findWay 90 = .ok (.iload 4, 2) := by decide +kernel
theorem d_M_findWay_92 : decode b_M_findWay 92 = .ok (.iload_n 3, 1) := by decide +kernel
theorem d_M_findWay_93 : decode b_M_findWay 93 = .ok (.if_icmp .eq 36, 3) := by decide +kernel
theorem d_M_findWay_96 : decode b_M_findWay 96 = .ok (.aload_n 0, 1) := by decide +kernel
theorem d_M_findWay_97 : decode b_M_findWay 97 = .ok (.getfield 34, 3) := by decide +kernel
theorem d_M_findWay_100 : decode b_M_findWay 100 = .ok (.aload_n 0, 1) := by decide +kernel
theorem d_M_findWay_101 : decode b_M_findWay 101 = .ok (.getfield 82, 3) := by decide +kernel
theorem d_M_findWay_104 : decode b_M_findWay 104 = .ok (.iload 4, 2) := by decide +kernel
theorem d_M_findWay_106 : decode b_M_findWay 106 = .ok (.iastore, 1) := by decide +kernel
theorem d_M_findWay_107 : decode b_M_findWay 107 = .ok (.aload_n 0, 1) := by decide +kernel
theorem d_M_findWay_108 : decode b_M_findWay 108 = .ok (.dup, 1) := by decide +kernel
theorem d_M_findWay_109 : decode b_M_findWay 109 = .ok (.getfield 82, 3) := by decide +kernel
theorem d_M_findWay_112 : decode b_M_findWay 112 = .ok (.iconst 1, 1) := by decide +kernel
theorem d_M_findWay_113 : decode b_M_findWay 113 = .ok (.iadd, 1) := by decide +kernel
theorem d_M_findWay_114 : decode b_M_findWay 114 = .ok (.putfield 82, 3) := by decide +kernel
theorem d_M_findWay_117 : decode b_M_findWay 117 = .ok (.aload_n 0, 1) := by decide +kernel
theorem d_M_findWay_118 : decode b_M_findWay 118 = .ok (.getfield 13, 3) := by decide +kernel
theorem d_M_findWay_121 : decode b_M_findWay 121 = .ok (.iload 4, 2) := by decide +kernel
theorem d_M_findWay_123 : decode b_M_findWay 123 = .ok (.iaload, 1) := by decide +kernel
theorem d_M_findWay_124 : decode b_M_findWay 124 = .ok (.istore 4, 2) := by decide +kernel
theorem d_M_findWay_126 : decode b_M_findWay 126 = .ok (.goto (-36), 3) := by decide +kernel
theorem d_M_findWay_129 : decode b_M_findWay 129 = .ok (.iconst 1, 1) := by decide +kernel
theorem d_M_findWay_130 : decode b_M_findWay 130 = .ok (.ireturn, 1) := by decide +kernel
theorem d_M_isShut_0 : decode b_M_isShut 0 = .ok (.aload_n 0, 1) := by decide +kernel
theorem d_M_isShut_1 : decode b_M_isShut 1 = .ok (.getfield 7, 3) := by decide +kernel
theorem d_M_isShut_4 : decode b_M_isShut 4 = .ok (.iload_n 1, 1) := by decide +kernel
theorem d_M_isShut_5 : decode b_M_isShut 5 = .ok (.iaload, 1) := by decide +kernel
theorem d_M_isShut_6 : decode b_M_isShut 6 = .ok (.iconst 1, 1) := by decide +kernel
theorem d_M_isShut_7 : decode b_M_isShut 7 = .ok (.if_icmp .ne 18, 3) := by decide +kernel
theorem d_M_isShut_10 : decode b_M_isShut 10 = .ok (.aload_n 0, 1) := by decide +kernel
theorem d_M_isShut_11 : decode b_M_isShut 11 = .ok (.getfield 16, 3) := by decide +kernel
theorem d_M_isShut_14 : decode b_M_isShut 14 = .ok (.iconst 4, 1) := by decide +kernel
theorem d_M_isShut_15 : decode b_M_isShut 15 = .ok (.iload_n 1, 1) := by decide +kernel
theorem d_M_isShut_16 : decode b_M_isShut 16 = .ok (.imul, 1) := by decide +kernel
theorem d_M_isShut_17 : decode b_M_isShut 17 = .ok (.iaload, 1) := by decide +kernel
theorem d_M_isShut_18 : decode b_M_isShut 18 = .ok (.ifCond .ne 7, 3) := by decide +kernel
theorem d_M_isShut_21 : decode b_M_isShut 21 = .ok (.iconst 1, 1) := by decide +kernel
theorem d_M_isShut_22 : decode b_M_isShut 22 = .ok (.goto 4, 3) := by decide +kernel
theorem d_M_isShut_25 : decode b_M_isShut 25 = .ok (.iconst 0, 1) := by decide +kernel
theorem d_M_isShut_26 : decode b_M_isShut 26 = .ok (.ireturn, 1) := by decide +kernel
theorem d_M_firstBarrier_0 : decode b_M_firstBarrier 0 = .ok (.iconst 0, 1) := by decide +kernel
theorem d_M_firstBarrier_1 : decode b_M_firstBarrier 1 = .ok (.istore_n 1, 1) := by decide +kernel
theorem d_M_firstBarrier_2 : decode b_M_firstBarrier 2 = .ok (.iload_n 1, 1) := by decide +kernel
theorem d_M_firstBarrier_3 : decode b_M_firstBarrier 3 = .ok (.aload_n 0, 1) := by decide +kernel
theorem d_M_firstBarrier_4 : decode b_M_firstBarrier 4 = .ok (.getfield 79, 3) := by decide +kernel
theorem d_M_firstBarrier_7 : decode b_M_firstBarrier 7 = .ok (.if_icmp .ge 29, 3) := by decide +kernel
theorem d_M_firstBarrier_10 : decode b_M_firstBarrier 10 = .ok (.aload_n 0, 1) := by decide +kernel
theorem d_M_firstBarrier_11 : decode b_M_firstBarrier 11 = .ok (.aload_n 0, 1) := by decide +kernel
theorem d_M_firstBarrier_12 : decode b_M_firstBarrier 12 = .ok (.getfield 31, 3) := by decide +kernel
theorem d_M_firstBarrier_15 : decode b_M_firstBarrier 15 = .ok (.iload_n 1, 1) := by decide +kernel
theorem d_M_firstBarrier_16 : decode b_M_firstBarrier 16 = .ok (.iaload, 1) := by decide +kernel
theorem d_M_firstBarrier_17 : decode b_M_firstBarrier 17 = .ok (.invokevirtual 85, 3) := by decide +kernel
theorem d_M_firstBarrier_20 : decode b_M_firstBarrier 20 = .ok (.ifCond .eq 10, 3) := by decide +kernel
theorem d_M_firstBarrier_23 : decode b_M_firstBarrier 23 = .ok (.aload_n 0, 1) := by decide +kernel
theorem d_M_firstBarrier_24 : decode b_M_firstBarrier 24 = .ok (.getfield 31, 3) := by decide +kernel
theorem d_M_firstBarrier_27 : decode b_M_firstBarrier 27 = .ok (.iload_n 1, 1) := by decide +kernel
theorem d_M_firstBarrier_28 : decode b_M_firstBarrier 28 = .ok (.iaload, 1) := by decide +kernel
theorem d_M_firstBarrier_29 : decode b_M_firstBarrier 29 = .ok (.ireturn, 1) := by decide +kernel
theorem d_M_firstBarrier_30 : decode b_M_firstBarrier 30 = .ok (.iinc 1 1, 3) := by decide +kernel
theorem d_M_firstBarrier_33 : decode b_M_firstBarrier 33 = .ok (.goto (-31), 3) := by decide +kernel
theorem d_M_firstBarrier_36 : decode b_M_firstBarrier 36 = .ok (.aload_n 0, 1) := by decide +kernel
theorem d_M_firstBarrier_37 : decode b_M_firstBarrier 37 = .ok (.getfield 82, 3) := by decide +kernel
theorem d_M_firstBarrier_40 : decode b_M_firstBarrier 40 = .ok (.iconst 1, 1) := by decide +kernel
theorem d_M_firstBarrier_41 : decode b_M_firstBarrier 41 = .ok (.isub, 1) := by decide +kernel
theorem d_M_firstBarrier_42 : decode b_M_firstBarrier 42 = .ok (.istore_n 1, 1) := by decide +kernel
theorem d_M_firstBarrier_43 : decode b_M_firstBarrier 43 = .ok (.iload_n 1, 1) := by decide +kernel
theorem d_M_firstBarrier_44 : decode b_M_firstBarrier 44 = .ok (.ifCond .lt 44, 3) := by decide +kernel
theorem d_M_firstBarrier_47 : decode b_M_firstBarrier 47 = .ok (.aload_n 0, 1) := by decide +kernel
theorem d_M_firstBarrier_48 : decode b_M_firstBarrier 48 = .ok (.aload_n 0, 1) := by decide +kernel
theorem d_M_firstBarrier_49 : decode b_M_firstBarrier 49 = .ok (.getfield 34, 3) := by decide +kernel
theorem d_M_firstBarrier_52 : decode b_M_firstBarrier 52 = .ok (.iload_n 1, 1) := by decide +kernel
theorem d_M_firstBarrier_53 : decode b_M_firstBarrier 53 = .ok (.iaload, 1) := by decide +kernel
theorem d_M_firstBarrier_54 : decode b_M_firstBarrier 54 = .ok (.invokevirtual 85, 3) := by decide +kernel
theorem d_M_firstBarrier_57 : decode b_M_firstBarrier 57 = .ok (.ifCond .ne 18, 3) := by decide +kernel
theorem d_M_firstBarrier_60 : decode b_M_firstBarrier 60 = .ok (.aload_n 0, 1) := by decide +kernel
theorem d_M_firstBarrier_61 : decode b_M_firstBarrier 61 = .ok (.getfield 7, 3) := by decide +kernel
theorem d_M_firstBarrier_64 : decode b_M_firstBarrier 64 = .ok (.aload_n 0, 1) := by decide +kernel
theorem d_M_firstBarrier_65 : decode b_M_firstBarrier 65 = .ok (.getfield 34, 3) := by decide +kernel
theorem d_M_firstBarrier_68 : decode b_M_firstBarrier 68 = .ok (.iload_n 1, 1) := by decide +kernel
theorem d_M_firstBarrier_69 : decode b_M_firstBarrier 69 = .ok (.iaload, 1) := by decide +kernel
theorem d_M_firstBarrier_70 : decode b_M_firstBarrier 70 = .ok (.iaload, 1) := by decide +kernel
theorem d_M_firstBarrier_71 : decode b_M_firstBarrier 71 = .ok (.iconst 3, 1) := by decide +kernel
theorem d_M_firstBarrier_72 : decode b_M_firstBarrier 72 = .ok (.if_icmp .ne 10, 3) := by decide +kernel
theorem d_M_firstBarrier_75 : decode b_M_firstBarrier 75 = .ok (.aload_n 0, 1) := by decide +kernel
theorem d_M_firstBarrier_76 : decode b_M_firstBarrier 76 = .ok (.getfield 34, 3) := by decide +kernel
theorem d_M_firstBarrier_79 : decode b_M_firstBarrier 79 = .ok (.iload_n 1, 1) := by decide +kernel
theorem d_M_firstBarrier_80 : decode b_M_firstBarrier 80 = .ok (.iaload, 1) := by decide +kernel
theorem d_M_firstBarrier_81 : decode b_M_firstBarrier 81 = .ok (.ireturn, 1) := by decide +kernel
theorem d_M_firstBarrier_82 : decode b_M_firstBarrier 82 = .ok (.iinc 1 (-1), 3) := by decide +kernel
theorem d_M_firstBarrier_85 : decode b_M_firstBarrier 85 = .ok (.goto (-42), 3) := by decide +kernel
theorem d_M_firstBarrier_88 : decode b_M_firstBarrier 88 = .ok (.iconst (-1), 1) := by decide +kernel
theorem d_M_firstBarrier_89 : decode b_M_firstBarrier 89 = .ok (.ireturn, 1) := by decide +kernel
theorem d_M_isReached_0 : decode b_M_isReached 0 = .ok (.aload_n 0, 1) := by decide +kernel
theorem d_M_isReached_1 : decode b_M_isReached 1 = .ok (.iload_n 1, 1) := by decide +kernel
theorem d_M_isReached_2 : decode b_M_isReached 2 = .ok (.iload_n 2, 1) := by decide +kernel
theorem d_M_isReached_3 : decode b_M_isReached 3 = .ok (.invokevirtual 88, 3) := by decide +kernel
theorem d_M_isReached_6 : decode b_M_isReached 6 = .ok (.ifCond .eq 15, 3) := by decide +kernel
theorem d_M_isReached_9 : decode b_M_isReached 9 = .ok (.aload_n 0, 1) := by decide +kernel
theorem d_M_isReached_10 : decode b_M_isReached 10 = .ok (.invokevirtual 91, 3) := by decide +kernel
theorem d_M_isReached_13 : decode b_M_isReached 13 = .ok (.iconst (-1), 1) := by decide +kernel
theorem d_M_isReached_14 : decode b_M_isReached 14 = .ok (.if_icmp .ne 7, 3) := by decide +kernel
theorem d_M_isReached_17 : decode b_M_isReached 17 = .ok (.iconst 1, 1) := by decide +kernel
theorem d_M_isReached_18 : decode b_M_isReached 18 = .ok (.goto 4, 3) := by decide +kernel
theorem d_M_isReached_21 : decode b_M_isReached 21 = .ok (.iconst 0, 1) := by decide +kernel
theorem d_M_isReached_22 : decode b_M_isReached 22 = .ok (.ireturn, 1) := by decide +kernel
theorem d_M_take_0 : decode b_M_take 0 = .ok (.aload_n 0, 1) := by decide +kernel
theorem d_M_take_1 : decode b_M_take 1 = .ok (.iload_n 1, 1) := by decide +kernel
theorem d_M_take_2 : decode b_M_take 2 = .ok (.iconst 3, 1) := by decide +kernel
theorem d_M_take_3 : decode b_M_take 3 = .ok (.invokevirtual 59, 3) := by decide +kernel
theorem d_M_take_6 : decode b_M_take 6 = .ok (.ifCond .eq 30, 3) := by decide +kernel
theorem d_M_take_9 : decode b_M_take 9 = .ok (.aload_n 0, 1) := by decide +kernel
theorem d_M_take_10 : decode b_M_take 10 = .ok (.iload_n 2, 1) := by decide +kernel
theorem d_M_take_11 : decode b_M_take 11 = .ok (.invokevirtual 55, 3) := by decide +kernel
theorem d_M_take_14 : decode b_M_take 14 = .ok (.ifCond .eq 22, 3) := by decide +kernel
theorem d_M_take_17 : decode b_M_take 17 = .ok (.aload_n 0, 1) := by decide +kernel
theorem d_M_take_18 : decode b_M_take 18 = .ok (.getfield 7, 3) := by decide +kernel
theorem d_M_take_21 : decode b_M_take 21 = .ok (.iload_n 2, 1) := by decide +kernel
theorem d_M_take_22 : decode b_M_take 22 = .ok (.iaload, 1) := by decide +kernel
theorem d_M_take_23 : decode b_M_take 23 = .ok (.ifCond .eq 13, 3) := by decide +kernel
theorem d_M_take_26 : decode b_M_take 26 = .ok (.aload_n 0, 1) := by decide +kernel
theorem d_M_take_27 : decode b_M_take 27 = .ok (.getfield 7, 3) := by decide +kernel
theorem d_M_take_30 : decode b_M_take 30 = .ok (.iload_n 2, 1) := by decide +kernel
theorem d_M_take_31 : decode b_M_take 31 = .ok (.iaload, 1) := by decide +kernel
theorem d_M_take_32 : decode b_M_take 32 = .ok (.iconst 3, 1) := by decide +kernel
theorem d_M_take_33 : decode b_M_take 33 = .ok (.if_icmp .ne 6, 3) := by decide +kernel
theorem d_M_take_36 : decode b_M_take 36 = .ok (.bipush (-2), 2) := by decide +kernel
theorem d_M_take_38 : decode b_M_take 38 = .ok (.ireturn, 1) := by decide +kernel
theorem d_M_take_39 : decode b_M_take 39 = .ok (.aload_n 0, 1) := by decide +kernel
theorem d_M_take_40 : decode b_M_take 40 = .ok (.getfield 13, 3) := by decide +kernel
theorem d_M_take_43 : decode b_M_take 43 = .ok (.iload_n 2, 1) := by decide +kernel
theorem d_M_take_44 : decode b_M_take 44 = .ok (.iaload, 1) := by decide +kernel
theorem d_M_take_45 : decode b_M_take 45 = .ok (.iload_n 1, 1) := by decide +kernel
theorem d_M_take_46 : decode b_M_take 46 = .ok (.if_icmp .ne 5, 3) := by decide +kernel
theorem d_M_take_49 : decode b_M_take 49 = .ok (.iconst 0, 1) := by decide +kernel
theorem d_M_take_50 : decode b_M_take 50 = .ok (.ireturn, 1) := by decide +kernel
theorem d_M_take_51 : decode b_M_take 51 = .ok (.aload_n 0, 1) := by decide +kernel
theorem d_M_take_52 : decode b_M_take 52 = .ok (.iload_n 1, 1) := by decide +kernel
theorem d_M_take_53 : decode b_M_take 53 = .ok (.iload_n 2, 1) := by decide +kernel
theorem d_M_take_54 : decode b_M_take 54 = .ok (.invokevirtual 70, 3) := by decide +kernel
theorem d_M_take_57 : decode b_M_take 57 = .ok (.ifCond .eq 6, 3) := by decide +kernel
theorem d_M_take_60 : decode b_M_take 60 = .ok (.bipush (-4), 2) := by decide +kernel
theorem d_M_take_62 : decode b_M_take 62 = .ok (.ireturn, 1) := by decide +kernel
theorem d_M_take_63 : decode b_M_take 63 = .ok (.aload_n 0, 1) := by decide +kernel
theorem d_M_take_64 : decode b_M_take 64 = .ok (.iload_n 1, 1) := by decide +kernel
theorem d_M_take_65 : decode b_M_take 65 = .ok (.iload_n 2, 1) := by decide +kernel
theorem d_M_take_66 : decode b_M_take 66 = .ok (.invokevirtual 88, 3) := by decide +kernel
theorem d_M_take_69 : decode b_M_take 69 = .ok (.ifCond .ne 6, 3) := by decide +kernel
theorem d_M_take_72 : decode b_M_take 72 = .ok (.bipush (-5), 2) := by decide +kernel
theorem d_M_take_74 : decode b_M_take 74 = .ok (.ireturn, 1) := by decide +kernel
theorem d_M_take_75 : decode b_M_take 75 = .ok (.aload_n 0, 1) := by decide +kernel
theorem d_M_take_76 : decode b_M_take 76 = .ok (.invokevirtual 91, 3) := by decide +kernel
theorem d_M_take_79 : decode b_M_take 79 = .ok (.iconst (-1), 1) := by decide +kernel
theorem d_M_take_80 : decode b_M_take 80 = .ok (.if_icmp .eq 6, 3) := by decide +kernel
theorem d_M_take_83 : decode b_M_take 83 = .ok (.bipush (-6), 2) := by decide +kernel
theorem d_M_take_85 : decode b_M_take 85 = .ok (.ireturn, 1) := by decide +kernel
theorem d_M_take_86 : decode b_M_take 86 = .ok (.aload_n 0, 1) := by decide +kernel
theorem d_M_take_87 : decode b_M_take 87 = .ok (.iload_n 1, 1) := by decide +kernel
theorem d_M_take_88 : decode b_M_take 88 = .ok (.invokevirtual 73, 3) := by decide +kernel
theorem d_M_take_91 : decode b_M_take 91 = .ok (.ifCond .ne 6, 3) := by decide +kernel
theorem d_M_take_94 : decode b_M_take 94 = .ok (.bipush (-7), 2) := by decide +kernel
theorem d_M_take_96 : decode b_M_take 96 = .ok (.ireturn, 1) := by decide +kernel
theorem d_M_take_97 : decode b_M_take 97 = .ok (.aload_n 0, 1) := by decide +kernel
theorem d_M_take_98 : decode b_M_take 98 = .ok (.getfield 13, 3) := by decide +kernel
theorem d_M_take_101 : decode b_M_take 101 = .ok (.iload_n 2, 1) := by decide +kernel
theorem d_M_take_102 : decode b_M_take 102 = .ok (.iload_n 1, 1) := by decide +kernel
theorem d_M_take_103 : decode b_M_take 103 = .ok (.iastore, 1) := by decide +kernel
theorem d_M_take_104 : decode b_M_take 104 = .ok (.iconst 1, 1) := by decide +kernel
theorem d_M_take_105 : decode b_M_take 105 = .ok (.ireturn, 1) := by decide +kernel
theorem d_M_give_0 : decode b_M_give 0 = .ok (.aload_n 0, 1) := by decide +kernel
theorem d_M_give_1 : decode b_M_give 1 = .ok (.iload_n 1, 1) := by decide +kernel
theorem d_M_give_2 : decode b_M_give 2 = .ok (.iconst 3, 1) := by decide +kernel
theorem d_M_give_3 : decode b_M_give 3 = .ok (.invokevirtual 59, 3) := by decide +kernel
theorem d_M_give_6 : decode b_M_give 6 = .ok (.ifCond .eq 23, 3) := by decide +kernel
theorem d_M_give_9 : decode b_M_give 9 = .ok (.aload_n 0, 1) := by decide +kernel
theorem d_M_give_10 : decode b_M_give 10 = .ok (.iload_n 2, 1) := by decide +kernel
theorem d_M_give_11 : decode b_M_give 11 = .ok (.invokevirtual 55, 3) := by decide +kernel
theorem d_M_give_14 : decode b_M_give 14 = .ok (.ifCond .eq 15, 3) := by decide +kernel
theorem d_M_give_17 : decode b_M_give 17 = .ok (.aload_n 0, 1) := by decide +kernel
theorem d_M_give_18 : decode b_M_give 18 = .ok (.iload_n 3, 1) := by decide +kernel
theorem d_M_give_19 : decode b_M_give 19 = .ok (.invokevirtual 55, 3) := by decide +kernel
theorem d_M_give_22 : decode b_M_give 22 = .ok (.ifCond .eq 7, 3) := by decide +kernel
theorem d_M_give_25 : decode b_M_give 25 = .ok (.iconst 1, 1) := by decide +kernel
theorem d_M_give_26 : decode b_M_give 26 = .ok (.goto 4, 3) := by decide +kernel
theorem d_M_give_29 : decode b_M_give 29 = .ok (.iconst 0, 1) := by decide +kernel
theorem d_M_give_30 : decode b_M_give 30 = .ok (.istore 4, 2) := by decide +kernel
theorem d_M_give_32 : decode b_M_give 32 = .ok (.iload 4, 2) := by decide +kernel
theorem d_M_give_34 : decode b_M_give 34 = .ok (.ifCond .eq 32, 3) := by decide +kernel
theorem d_M_give_37 : decode b_M_give 37 = .ok (.aload_n 0, 1) := by decide +kernel
theorem d_M_give_38 : decode b_M_give 38 = .ok (.getfield 13, 3) := by decide +kernel
theorem d_M_give_41 : decode b_M_give 41 = .ok (.iload_n 2, 1) := by decide +kernel
theorem d_M_give_42 : decode b_M_give 42 = .ok (.iaload, 1) := by decide +kernel
theorem d_M_give_43 : decode b_M_give 43 = .ok (.iload_n 1, 1) := by decide +kernel
theorem d_M_give_44 : decode b_M_give 44 = .ok (.if_icmp .ne 22, 3) := by decide +kernel
theorem d_M_give_47 : decode b_M_give 47 = .ok (.aload_n 0, 1) := by decide +kernel
theorem d_M_give_48 : decode b_M_give 48 = .ok (.getfield 7, 3) := by decide +kernel
theorem d_M_give_51 : decode b_M_give 51 = .ok (.iload_n 3, 1) := by decide +kernel
theorem d_M_give_52 : decode b_M_give 52 = .ok (.iaload, 1) := by decide +kernel
theorem d_M_give_53 : decode b_M_give 53 = .ok (.iconst 1, 1) := by decide +kernel
theorem d_M_give_54 : decode b_M_give 54 = .ok (.iconst 3, 1) := by decide +kernel
theorem d_M_give_55 : decode b_M_give 55 = .ok (.invokestatic 51, 3) := by decide +kernel
theorem d_M_give_58 : decode b_M_give 58 = .ok (.ifCond .eq 8, 3) := by decide +kernel
theorem d_M_give_61 : decode b_M_give 61 = .ok (.iload_n 3, 1) := by decide +kernel
theorem d_M_give_62 : decode b_M_give 62 = .ok (.iload_n 1, 1) := by decide +kernel
theorem d_M_give_63 : decode b_M_give 63 = .ok (.if_icmp .ne 6, 3) := by decide +kernel
theorem d_M_give_66 : decode b_M_give 66 = .ok (.bipush (-2), 2) := by decide +kernel
theorem d_M_give_68 : decode b_M_give 68 = .ok (.ireturn, 1) := by decide +kernel
theorem d_M_give_69 : decode b_M_give 69 = .ok (.iload_n 3, 1) := by decide +kernel
theorem d_M_give_70 : decode b_M_give 70 = .ok (.iload_n 2, 1) := by decide +kernel
theorem d_M_give_71 : decode b_M_give 71 = .ok (.if_icmp .eq 12, 3) := by decide +kernel
theorem d_M_give_74 : decode b_M_give 74 = .ok (.aload_n 0, 1) := by decide +kernel
theorem d_M_give_75 : decode b_M_give 75 = .ok (.iload_n 3, 1) := by decide +kernel
theorem d_M_give_76 : decode b_M_give 76 = .ok (.iload_n 2, 1) := by decide +kernel
theorem d_M_give_77 : decode b_M_give 77 = .ok (.invokevirtual 70, 3) := by decide +kernel
theorem d_M_give_80 : decode b_M_give 80 = .ok (.ifCond .eq 6, 3) := by decide +kernel
theorem d_M_give_83 : decode b_M_give 83 = .ok (.bipush (-4), 2) := by decide +kernel
theorem d_M_give_85 : decode b_M_give 85 = .ok (.ireturn, 1) := by decide +kernel
theorem d_M_give_86 : decode b_M_give 86 = .ok (.aload_n 0, 1) := by decide +kernel
theorem d_M_give_87 : decode b_M_give 87 = .ok (.iload_n 1, 1) := by decide +kernel
theorem d_M_give_88 : decode b_M_give 88 = .ok (.iload_n 3, 1) := by decide +kernel
theorem d_M_give_89 : decode b_M_give 89 = .ok (.invokevirtual 88, 3) := by decide +kernel
theorem d_M_give_92 : decode b_M_give 92 = .ok (.ifCond .ne 6, 3) := by decide +kernel
theorem d_M_give_95 : decode b_M_give 95 = .ok (.bipush (-5), 2) := by decide +kernel
theorem d_M_give_97 : decode b_M_give 97 = .ok (.ireturn, 1) := by decide +kernel
theorem d_M_give_98 : decode b_M_give 98 = .ok (.aload_n 0, 1) := by decide +kernel
theorem d_M_give_99 : decode b_M_give 99 = .ok (.invokevirtual 91, 3) := by decide +kernel
theorem d_M_give_102 : decode b_M_give 102 = .ok (.iconst (-1), 1) := by decide +kernel
theorem d_M_give_103 : decode b_M_give 103 = .ok (.if_icmp .ne 11, 3) := by decide +kernel
theorem d_M_give_106 : decode b_M_give 106 = .ok (.aload_n 0, 1) := by decide +kernel
theorem d_M_give_107 : decode b_M_give 107 = .ok (.iload_n 3, 1) := by decide +kernel
theorem d_M_give_108 : decode b_M_give 108 = .ok (.invokevirtual 85, 3) := by decide +kernel
theorem d_M_give_111 : decode b_M_give 111 = .ok (.ifCond .eq 6, 3) := by decide +kernel
theorem d_M_give_114 : decode b_M_give 114 = .ok (.bipush (-6), 2) := by decide +kernel
theorem d_M_give_116 : decode b_M_give 116 = .ok (.ireturn, 1) := by decide +kernel
theorem d_M_give_117 : decode b_M_give 117 = .ok (.aload_n 0, 1) := by decide +kernel
theorem d_M_give_118 : decode b_M_give 118 = .ok (.iload_n 3, 1) := by decide +kernel
theorem d_M_give_119 : decode b_M_give 119 = .ok (.invokevirtual 73, 3) := by decide +kernel
theorem d_M_give_122 : decode b_M_give 122 = .ok (.ifCond .ne 6, 3) := by decide +kernel
theorem d_M_give_125 : decode b_M_give 125 = .ok (.bipush (-7), 2) := by decide +kernel
theorem d_M_give_127 : decode b_M_give 127 = .ok (.ireturn, 1) := by decide +kernel
theorem d_M_give_128 : decode b_M_give 128 = .ok (.aload_n 0, 1) := by decide +kernel
theorem d_M_give_129 : decode b_M_give 129 = .ok (.getfield 13, 3) := by decide +kernel
theorem d_M_give_132 : decode b_M_give 132 = .ok (.iload_n 2, 1) := by decide +kernel
theorem d_M_give_133 : decode b_M_give 133 = .ok (.iload_n 3, 1) := by decide +kernel
theorem d_M_give_134 : decode b_M_give 134 = .ok (.iastore, 1) := by decide +kernel
theorem d_M_give_135 : decode b_M_give 135 = .ok (.iconst 1, 1) := by decide +kernel
theorem d_M_give_136 : decode b_M_give 136 = .ok (.ireturn, 1) := by decide +kernel
theorem d_M_drop_0 : decode b_M_drop 0 = .ok (.aload_n 0, 1) := by decide +kernel
theorem d_M_drop_1 : decode b_M_drop 1 = .ok (.iload_n 1, 1) := by decide +kernel
theorem d_M_drop_2 : decode b_M_drop 2 = .ok (.iconst 3, 1) := by decide +kernel
theorem d_M_drop_3 : decode b_M_drop 3 = .ok (.invokevirtual 59, 3) := by decide +kernel
theorem d_M_drop_6 : decode b_M_drop 6 = .ok (.ifCond .eq 21, 3) := by decide +kernel
theorem d_M_drop_9 : decode b_M_drop 9 = .ok (.aload_n 0, 1) := by decide +kernel
theorem d_M_drop_10 : decode b_M_drop 10 = .ok (.iload_n 2, 1) := by decide +kernel
theorem d_M_drop_11 : decode b_M_drop 11 = .ok (.invokevirtual 55, 3) := by decide +kernel
theorem d_M_drop_14 : decode b_M_drop 14 = .ok (.ifCond .eq 13, 3) := by decide +kernel
theorem d_M_drop_17 : decode b_M_drop 17 = .ok (.aload_n 0, 1) := by decide +kernel
theorem d_M_drop_18 : decode b_M_drop 18 = .ok (.getfield 13, 3) := by decide +kernel
theorem d_M_drop_21 : decode b_M_drop 21 = .ok (.iload_n 2, 1) := by decide +kernel
theorem d_M_drop_22 : decode b_M_drop 22 = .ok (.iaload, 1) := by decide +kernel
theorem d_M_drop_23 : decode b_M_drop 23 = .ok (.iload_n 1, 1) := by decide +kernel
theorem d_M_drop_24 : decode b_M_drop 24 = .ok (.if_icmp .eq 6, 3) := by decide +kernel
theorem d_M_drop_27 : decode b_M_drop 27 = .ok (.bipush (-2), 2) := by decide +kernel
theorem d_M_drop_29 : decode b_M_drop 29 = .ok (.ireturn, 1) := by decide +kernel
theorem d_M_drop_30 : decode b_M_drop 30 = .ok (.aload_n 0, 1) := by decide +kernel
theorem d_M_drop_31 : decode b_M_drop 31 = .ok (.getfield 13, 3) := by decide +kernel
theorem d_M_drop_34 : decode b_M_drop 34 = .ok (.iload_n 1, 1) := by decide +kernel
theorem d_M_drop_35 : decode b_M_drop 35 = .ok (.iaload, 1) := by decide +kernel
theorem d_M_drop_36 : decode b_M_drop 36 = .ok (.iconst (-1), 1) := by decide +kernel
theorem d_M_drop_37 : decode b_M_drop 37 = .ok (.if_icmp .ne 6, 3) := by decide +kernel
theorem d_M_drop_40 : decode b_M_drop 40 = .ok (.bipush (-5), 2) := by decide +kernel
theorem d_M_drop_42 : decode b_M_drop 42 = .ok (.ireturn, 1) := by decide +kernel
theorem d_M_drop_43 : decode b_M_drop 43 = .ok (.aload_n 0, 1) := by decide +kernel
theorem d_M_drop_44 : decode b_M_drop 44 = .ok (.aload_n 0, 1) := by decide +kernel
theorem d_M_drop_45 : decode b_M_drop 45 = .ok (.getfield 13, 3) := by decide +kernel
theorem d_M_drop_48 : decode b_M_drop 48 = .ok (.iload_n 1, 1) := by decide +kernel
theorem d_M_drop_49 : decode b_M_drop 49 = .ok (.iaload, 1) := by decide +kernel
theorem d_M_drop_50 : decode b_M_drop 50 = .ok (.invokevirtual 73, 3) := by decide +kernel
theorem d_M_drop_53 : decode b_M_drop 53 = .ok (.ifCond .ne 6, 3) := by decide +kernel
theorem d_M_drop_56 : decode b_M_drop 56 = .ok (.bipush (-7), 2) := by decide +kernel
theorem d_M_drop_58 : decode b_M_drop 58 = .ok (.ireturn, 1) := by decide +kernel
theorem d_M_drop_59 : decode b_M_drop 59 = .ok (.aload_n 0, 1) := by decide +kernel
theorem d_M_drop_60 : decode b_M_drop 60 = .ok (.getfield 13, 3) := by decide +kernel
theorem d_M_drop_63 : decode b_M_drop 63 = .ok (.iload_n 2, 1) := by decide +kernel
theorem d_M_drop_64 : decode b_M_drop 64 = .ok (.aload_n 0, 1) := by decide +kernel
theorem d_M_drop_65 : decode b_M_drop 65 = .ok (.getfield 13, 3) := by decide +kernel
theorem d_M_drop_68 : decode b_M_drop 68 = .ok (.iload_n 1, 1) := by decide +kernel
theorem d_M_drop_69 : decode b_M_drop 69 = .ok (.iaload, 1) := by decide +kernel
theorem d_M_drop_70 : decode b_M_drop 70 = .ok (.iastore, 1) := by decide +kernel
theorem d_M_drop_71 : decode b_M_drop 71 = .ok (.iconst 1, 1) := by decide +kernel
theorem d_M_drop_72 : decode b_M_drop 72 = .ok (.ireturn, 1) := by decide +kernel
theorem d_M_go_0 : decode b_M_go 0 = .ok (.aload_n 0, 1) := by decide +kernel
theorem d_M_go_1 : decode b_M_go 1 = .ok (.iload_n 1, 1) := by decide +kernel
theorem d_M_go_2 : decode b_M_go 2 = .ok (.iconst 3, 1) := by decide +kernel
theorem d_M_go_3 : decode b_M_go 3 = .ok (.invokevirtual 59, 3) := by decide +kernel
theorem d_M_go_6 : decode b_M_go 6 = .ok (.ifCond .eq 11, 3) := by decide +kernel
theorem d_M_go_9 : decode b_M_go 9 = .ok (.aload_n 0, 1) := by decide +kernel
theorem d_M_go_10 : decode b_M_go 10 = .ok (.iload_n 2, 1) := by decide +kernel
theorem d_M_go_11 : decode b_M_go 11 = .ok (.invokevirtual 76, 3) := by decide +kernel
theorem d_M_go_14 : decode b_M_go 14 = .ok (.ifCond .ne 6, 3) := by decide +kernel
theorem d_M_go_17 : decode b_M_go 17 = .ok (.bipush (-2), 2) := by decide +kernel
theorem d_M_go_19 : decode b_M_go 19 = .ok (.ireturn, 1) := by decide +kernel
theorem d_M_go_20 : decode b_M_go 20 = .ok (.aload_n 0, 1) := by decide +kernel
theorem d_M_go_21 : decode b_M_go 21 = .ok (.getfield 13, 3) := by decide +kernel
theorem d_M_go_24 : decode b_M_go 24 = .ok (.iload_n 1, 1) := by decide +kernel
theorem d_M_go_25 : decode b_M_go 25 = .ok (.iaload, 1) := by decide +kernel
theorem d_M_go_26 : decode b_M_go 26 = .ok (.istore_n 3, 1) := by decide +kernel
theorem d_M_go_27 : decode b_M_go 27 = .ok (.iload_n 3, 1) := by decide +kernel
theorem d_M_go_28 : decode b_M_go 28 = .ok (.iconst (-1), 1) := by decide +kernel
theorem d_M_go_29 : decode b_M_go 29 = .ok (.if_icmp .eq 23, 3) := by decide +kernel
theorem d_M_go_32 : decode b_M_go 32 = .ok (.iload_n 3, 1) := by decide +kernel
theorem d_M_go_33 : decode b_M_go 33 = .ok (.aload_n 0, 1) := by decide +kernel
theorem d_M_go_34 : decode b_M_go 34 = .ok (.getfield 19, 3) := by decide +kernel
theorem d_M_go_37 : decode b_M_go 37 = .ok (.iload_n 2, 1) := by decide +kernel
theorem d_M_go_38 : decode b_M_go 38 = .ok (.iaload, 1) := by decide +kernel
theorem d_M_go_39 : decode b_M_go 39 = .ok (.if_icmp .eq 16, 3) := by decide +kernel
theorem d_M_go_42 : decode b_M_go 42 = .ok (.iload_n 3, 1) := by decide +kernel
theorem d_M_go_43 : decode b_M_go 43 = .ok (.aload_n 0, 1) := by decide +kernel
theorem d_M_go_44 : decode b_M_go 44 = .ok (.getfield 22, 3) := by decide +kernel
theorem d_M_go_47 : decode b_M_go 47 = .ok (.iload_n 2, 1) := by decide +kernel
theorem d_M_go_48 : decode b_M_go 48 = .ok (.iaload, 1) := by decide +kernel
theorem d_M_go_49 : decode b_M_go 49 = .ok (.if_icmp .eq 6, 3) := by decide +kernel
theorem d_M_go_52 : decode b_M_go 52 = .ok (.bipush (-5), 2) := by decide +kernel
theorem d_M_go_54 : decode b_M_go 54 = .ok (.ireturn, 1) := by decide +kernel
theorem d_M_go_55 : decode b_M_go 55 = .ok (.aload_n 0, 1) := by decide +kernel
theorem d_M_go_56 : decode b_M_go 56 = .ok (.getfield 25, 3) := by decide +kernel
theorem d_M_go_59 : decode b_M_go 59 = .ok (.iload_n 2, 1) := by decide +kernel
theorem d_M_go_60 : decode b_M_go 60 = .ok (.iaload, 1) := by decide +kernel
theorem d_M_go_61 : decode b_M_go 61 = .ok (.ifCond .ne 6, 3) := by decide +kernel
theorem d_M_go_64 : decode b_M_go 64 = .ok (.bipush (-6), 2) := by decide +kernel
theorem d_M_go_66 : decode b_M_go 66 = .ok (.ireturn, 1) := by decide +kernel
theorem d_M_go_67 : decode b_M_go 67 = .ok (.aload_n 0, 1) := by decide +kernel
theorem d_M_go_68 : decode b_M_go 68 = .ok (.getfield 13, 3) := by decide +kernel
theorem d_M_go_71 : decode b_M_go 71 = .ok (.iload_n 1, 1) := by decide +kernel
theorem d_M_go_72 : decode b_M_go 72 = .ok (.iload_n 3, 1) := by decide +kernel
theorem d_M_go_73 : decode b_M_go 73 = .ok (.aload_n 0, 1) := by decide +kernel
theorem d_M_go_74 : decode b_M_go 74 = .ok (.getfield 19, 3) := by decide +kernel
theorem d_M_go_77 : decode b_M_go 77 = .ok (.iload_n 2, 1) := by decide +kernel
theorem d_M_go_78 : decode b_M_go 78 = .ok (.iaload, 1) := by decide +kernel
theorem d_M_go_79 : decode b_M_go 79 = .ok (.if_icmp .ne 12, 3) := by decide +kernel
theorem d_M_go_82 : decode b_M_go 82 = .ok (.aload_n 0, 1) := by decide +kernel
theorem d_M_go_83 : decode b_M_go 83 = .ok (.getfield 22, 3) := by decide +kernel
theorem d_M_go_86 : decode b_M_go 86 = .ok (.iload_n 2, 1) := by decide +kernel
theorem d_M_go_87 : decode b_M_go 87 = .ok (.iaload, 1) := by decide +kernel
theorem d_M_go_88 : decode b_M_go 88 = .ok (.goto 9, 3) := by decide +kernel
theorem d_M_go_91 : decode b_M_go 91 = .ok (.aload_n 0, 1) := by decide +kernel
theorem d_M_go_92 : decode b_M_go 92 = .ok (.getfield 19, 3) := by decide +kernel
theorem d_M_go_95 : decode b_M_go 95 = .ok (.iload_n 2, 1) := by decide +kernel
theorem d_M_go_96 : decode b_M_go 96 = .ok (.iaload, 1) := by decide +kernel
theorem d_M_go_97 : decode b_M_go 97 = .ok (.iastore, 1) := by decide +kernel
theorem d_M_go_98 : decode b_M_go 98 = .ok (.aload_n 0, 1) := by decide +kernel
theorem d_M_go_99 : decode b_M_go 99 = .ok (.getfield 13, 3) := by decide +kernel
theorem d_M_go_102 : decode b_M_go 102 = .ok (.iload_n 1, 1) := by decide +kernel
theorem d_M_go_103 : decode b_M_go 103 = .ok (.iaload, 1) := by decide +kernel
theorem d_M_go_104 : decode b_M_go 104 = .ok (.ireturn, 1) := by decide +kernel
theorem d_M_spaceOf_0 : decode b_M_spaceOf 0 = .ok (.aload_n 0, 1) := by decide +kernel
theorem d_M_spaceOf_1 : decode b_M_spaceOf 1 = .ok (.getfield 7, 3) := by decide +kernel
theorem d_M_spaceOf_4 : decode b_M_spaceOf 4 = .ok (.iload_n 1, 1) := by decide +kernel
theorem d_M_spaceOf_5 : decode b_M_spaceOf 5 = .ok (.iaload, 1) := by decide +kernel
theorem d_M_spaceOf_6 : decode b_M_spaceOf 6 = .ok (.ifCond .ne 5, 3) := by decide +kernel
theorem d_M_spaceOf_9 : decode b_M_spaceOf 9 = .ok (.iload_n 1, 1) := by decide +kernel
theorem d_M_spaceOf_10 : decode b_M_spaceOf 10 = .ok (.ireturn, 1) := by decide +kernel
theorem d_M_spaceOf_11 : decode b_M_spaceOf 11 = .ok (.aload_n 0, 1) := by decide +kernel
theorem d_M_spaceOf_12 : decode b_M_spaceOf 12 = .ok (.getfield 13, 3) := by decide +kernel
theorem d_M_spaceOf_15 : decode b_M_spaceOf 15 = .ok (.iload_n 1, 1) := by decide +kernel
theorem d_M_spaceOf_16 : decode b_M_spaceOf 16 = .ok (.iaload, 1) := by decide +kernel
theorem d_M_spaceOf_17 : decode b_M_spaceOf 17 = .ok (.istore_n 2, 1) := by decide +kernel
theorem d_M_spaceOf_18 : decode b_M_spaceOf 18 = .ok (.iload_n 2, 1) := by decide +kernel
theorem d_M_spaceOf_19 : decode b_M_spaceOf 19 = .ok (.iconst (-1), 1) := by decide +kernel
theorem d_M_spaceOf_20 : decode b_M_spaceOf 20 = .ok (.if_icmp .eq 21, 3) := by decide +kernel
theorem d_M_spaceOf_23 : decode b_M_spaceOf 23 = .ok (.aload_n 0, 1) := by decide +kernel
theorem d_M_spaceOf_24 : decode b_M_spaceOf 24 = .ok (.iload_n 2, 1) := by decide +kernel
theorem d_M_spaceOf_25 : decode b_M_spaceOf 25 = .ok (.invokevirtual 95, 3) := by decide +kernel
theorem d_M_spaceOf_28 : decode b_M_spaceOf 28 = .ok (.ifCond .ne 13, 3) := by decide +kernel
theorem d_M_spaceOf_31 : decode b_M_spaceOf 31 = .ok (.aload_n 0, 1) := by decide +kernel
theorem d_M_spaceOf_32 : decode b_M_spaceOf 32 = .ok (.getfield 13, 3) := by decide +kernel
theorem d_M_spaceOf_35 : decode b_M_spaceOf 35 = .ok (.iload_n 2, 1) := by decide +kernel
theorem d_M_spaceOf_36 : decode b_M_spaceOf 36 = .ok (.iaload, 1) := by decide +kernel
theorem d_M_spaceOf_37 : decode b_M_spaceOf 37 = .ok (.istore_n 2, 1) := by decide +kernel
theorem d_M_spaceOf_38 : decode b_M_spaceOf 38 = .ok (.goto (-20), 3) := by decide +kernel
theorem d_M_spaceOf_41 : decode b_M_spaceOf 41 = .ok (.iload_n 2, 1) := by decide +kernel
theorem d_M_spaceOf_42 : decode b_M_spaceOf 42 = .ok (.ireturn, 1) := by decide +kernel
theorem d_M_joins_0 : decode b_M_joins 0 = .ok (.aload_n 0, 1) := by decide +kernel
theorem d_M_joins_1 : decode b_M_joins 1 = .ok (.getfield 37, 3) := by decide +kernel
theorem d_M_joins_4 : decode b_M_joins 4 = .ok (.bipush 30, 2) := by decide +kernel
theorem d_M_joins_6 : decode b_M_joins 6 = .ok (.iload_n 1, 1) := by decide +kernel
theorem d_M_joins_7 : decode b_M_joins 7 = .ok (.imul, 1) := by decide +kernel
theorem d_M_joins_8 : decode b_M_joins 8 = .ok (.iload_n 2, 1) := by decide +kernel
theorem d_M_joins_9 : decode b_M_joins 9 = .ok (.iadd, 1) := by decide +kernel
theorem d_M_joins_10 : decode b_M_joins 10 = .ok (.iload_n 3, 1) := by decide +kernel
theorem d_M_joins_11 : decode b_M_joins 11 = .ok (.aload_n 0, 1) := by decide +kernel
theorem d_M_joins_12 : decode b_M_joins 12 = .ok (.getfield 37, 3) := by decide +kernel
theorem d_M_joins_15 : decode b_M_joins 15 = .ok (.bipush 30, 2) := by decide +kernel
theorem d_M_joins_17 : decode b_M_joins 17 = .ok (.iload_n 1, 1) := by decide +kernel
theorem d_M_joins_18 : decode b_M_joins 18 = .ok (.imul, 1) := by decide +kernel
theorem d_M_joins_19 : decode b_M_joins 19 = .ok (.iload_n 2, 1) := by decide +kernel
theorem d_M_joins_20 : decode b_M_joins 20 = .ok (.iadd, 1) := by decide +kernel
theorem d_M_joins_21 : decode b_M_joins 21 = .ok (.iaload, 1) := by decide +kernel
theorem d_M_joins_22 : decode b_M_joins 22 = .ok (.if_icmp .ge 7, 3) := by decide +kernel
theorem d_M_joins_25 : decode b_M_joins 25 = .ok (.iload_n 3, 1) := by decide +kernel
theorem d_M_joins_26 : decode b_M_joins 26 = .ok (.goto 14, 3) := by decide +kernel
theorem d_M_joins_29 : decode b_M_joins 29 = .ok (.aload_n 0, 1) := by decide +kernel
theorem d_M_joins_30 : decode b_M_joins 30 = .ok (.getfield 37, 3) := by decide +kernel
theorem d_M_joins_33 : decode b_M_joins 33 = .ok (.bipush 30, 2) := by decide +kernel
theorem d_M_joins_35 : decode b_M_joins 35 = .ok (.iload_n 1, 1) := by decide +kernel
theorem d_M_joins_36 : decode b_M_joins 36 = .ok (.imul, 1) := by decide +kernel
theorem d_M_joins_37 : decode b_M_joins 37 = .ok (.iload_n 2, 1) := by decide +kernel
theorem d_M_joins_38 : decode b_M_joins 38 = .ok (.iadd, 1) := by decide +kernel
theorem d_M_joins_39 : decode b_M_joins 39 = .ok (.iaload, 1) := by decide +kernel
theorem d_M_joins_40 : decode b_M_joins 40 = .ok (.iastore, 1) := by decide +kernel
theorem d_M_joins_41 : decode b_M_joins 41 = .ok (.aload_n 0, 1) := by decide +kernel
theorem d_M_joins_42 : decode b_M_joins 42 = .ok (.getfield 37, 3) := by decide +kernel
theorem d_M_joins_45 : decode b_M_joins 45 = .ok (.bipush 30, 2) := by decide +kernel
theorem d_M_joins_47 : decode b_M_joins 47 = .ok (.iload_n 2, 1) := by decide +kernel
theorem d_M_joins_48 : decode b_M_joins 48 = .ok (.imul, 1) := by decide +kernel
theorem d_M_joins_49 : decode b_M_joins 49 = .ok (.iload_n 1, 1) := by decide +kernel
theorem d_M_joins_50 : decode b_M_joins 50 = .ok (.iadd, 1) := by decide +kernel
theorem d_M_joins_51 : decode b_M_joins 51 = .ok (.aload_n 0, 1) := by decide +kernel
theorem d_M_joins_52 : decode b_M_joins 52 = .ok (.getfield 37, 3) := by decide +kernel
theorem d_M_joins_55 : decode b_M_joins 55 = .ok (.bipush 30, 2) := by decide +kernel
theorem d_M_joins_57 : decode b_M_joins 57 = .ok (.iload_n 1, 1) := by decide +kernel
theorem d_M_joins_58 : decode b_M_joins 58 = .ok (.imul, 1) := by decide +kernel
theorem d_M_joins_59 : decode b_M_joins 59 = .ok (.iload_n 2, 1) := by decide +kernel
theorem d_M_joins_60 : decode b_M_joins 60 = .ok (.iadd, 1) := by decide +kernel
theorem d_M_joins_61 : decode b_M_joins 61 = .ok (.iaload, 1) := by decide +kernel
theorem d_M_joins_62 : decode b_M_joins 62 = .ok (.iastore, 1) := by decide +kernel
theorem d_M_joins_63 : decode b_M_joins 63 = .ok (.return_, 1) := by decide +kernel
theorem d_M_lossOf_0 : decode b_M_lossOf 0 = .ok (.iload_n 0, 1) := by decide +kernel
theorem d_M_lossOf_1 : decode b_M_lossOf 1 = .ok (.ifCond .ne 39, 3) := by decide +kernel
theorem d_M_lossOf_4 : decode b_M_lossOf 4 = .ok (.iload_n 2, 1) := by decide +kernel
theorem d_M_lossOf_5 : decode b_M_lossOf 5 = .ok (.ifCond .eq 15, 3) := by decide +kernel
theorem d_M_lossOf_8 : decode b_M_lossOf 8 = .ok (.iload_n 1, 1) := by decide +kernel
theorem d_M_lossOf_9 : decode b_M_lossOf 9 = .ok (.ifCond .eq 7, 3) := by decide +kernel
theorem d_M_lossOf_12 : decode b_M_lossOf 12 = .ok (.iconst 2, 1) := by decide +kernel
theorem d_M_lossOf_13 : decode b_M_lossOf 13 = .ok (.goto 26, 3) := by decide +kernel
theorem d_M_lossOf_16 : decode b_M_lossOf 16 = .ok (.iconst 0, 1) := by decide +kernel
theorem d_M_lossOf_17 : decode b_M_lossOf 17 = .ok (.goto 22, 3) := by decide +kernel
theorem d_M_lossOf_20 : decode b_M_lossOf 20 = .ok (.iload_n 3, 1) := by decide +kernel
theorem d_M_lossOf_21 : decode b_M_lossOf 21 = .ok (.ifCond .eq 15, 3) := by decide +kernel
theorem d_M_lossOf_24 : decode b_M_lossOf 24 = .ok (.iload_n 1, 1) := by decide +kernel
theorem d_M_lossOf_25 : decode b_M_lossOf 25 = .ok (.ifCond .eq 7, 3) := by decide +kernel
theorem d_M_lossOf_28 : decode b_M_lossOf 28 = .ok (.iconst 3, 1) := by decide +kernel
theorem d_M_lossOf_29 : decode b_M_lossOf 29 = .ok (.goto 10, 3) := by decide +kernel
theorem d_M_lossOf_32 : decode b_M_lossOf 32 = .ok (.iconst 1, 1) := by decide +kernel
theorem d_M_lossOf_33 : decode b_M_lossOf 33 = .ok (.goto 6, 3) := by decide +kernel
theorem d_M_lossOf_36 : decode b_M_lossOf 36 = .ok (.sipush 1000, 3) := by decide +kernel
theorem d_M_lossOf_39 : decode b_M_lossOf 39 = .ok (.ireturn, 1) := by decide +kernel
theorem d_M_lossOf_40 : decode b_M_lossOf 40 = .ok (.iload_n 2, 1) := by decide +kernel
theorem d_M_lossOf_41 : decode b_M_lossOf 41 = .ok (.ifCond .eq 15, 3) := by decide +kernel
theorem d_M_lossOf_44 : decode b_M_lossOf 44 = .ok (.iload_n 1, 1) := by decide +kernel
theorem d_M_lossOf_45 : decode b_M_lossOf 45 = .ok (.ifCond .eq 7, 3) := by decide +kernel
theorem d_M_lossOf_48 : decode b_M_lossOf 48 = .ok (.iconst 1, 1) := by decide +kernel
theorem d_M_lossOf_49 : decode b_M_lossOf 49 = .ok (.goto 16, 3) := by decide +kernel
theorem d_M_lossOf_52 : decode b_M_lossOf 52 = .ok (.iconst 0, 1) := by decide +kernel
theorem d_M_lossOf_53 : decode b_M_lossOf 53 = .ok (.goto 12, 3) := by decide +kernel
theorem d_M_lossOf_56 : decode b_M_lossOf 56 = .ok (.iload_n 1, 1) := by decide +kernel
theorem d_M_lossOf_57 : decode b_M_lossOf 57 = .ok (.ifCond .eq 7, 3) := by decide +kernel
theorem d_M_lossOf_60 : decode b_M_lossOf 60 = .ok (.iconst 3, 1) := by decide +kernel
theorem d_M_lossOf_61 : decode b_M_lossOf 61 = .ok (.goto 4, 3) := by decide +kernel
theorem d_M_lossOf_64 : decode b_M_lossOf 64 = .ok (.iconst 2, 1) := by decide +kernel
theorem d_M_lossOf_65 : decode b_M_lossOf 65 = .ok (.ireturn, 1) := by decide +kernel
theorem d_M_findLosses_0 : decode b_M_findLosses 0 = .ok (.iconst 0, 1) := by decide +kernel
theorem d_M_findLosses_1 : decode b_M_findLosses 1 = .ok (.istore_n 3, 1) := by decide +kernel
theorem d_M_findLosses_2 : decode b_M_findLosses 2 = .ok (.iload_n 3, 1) := by decide +kernel
theorem d_M_findLosses_3 : decode b_M_findLosses 3 = .ok (.aload_n 0, 1) := by decide +kernel
theorem d_M_findLosses_4 : decode b_M_findLosses 4 = .ok (.getfield 47, 3) := by decide +kernel
theorem d_M_findLosses_7 : decode b_M_findLosses 7 = .ok (.if_icmp .ge 52, 3) := by decide +kernel
theorem d_M_findLosses_10 : decode b_M_findLosses 10 = .ok (.iconst 0, 1) := by decide +kernel
theorem d_M_findLosses_11 : decode b_M_findLosses 11 = .ok (.istore 4, 2) := by decide +kernel
theorem d_M_findLosses_13 : decode b_M_findLosses 13 = .ok (.iload 4, 2) := by decide +kernel
theorem d_M_findLosses_15 : decode b_M_findLosses 15 = .ok (.aload_n 0, 1) := by decide +kernel
theorem d_M_findLosses_16 : decode b_M_findLosses 16 = .ok (.getfield 47, 3) := by decide +kernel
theorem d_M_findLosses_19 : decode b_M_findLosses 19 = .ok (.if_icmp .ge 34, 3) := by decide +kernel
theorem d_M_findLosses_22 : decode b_M_findLosses 22 = .ok (.aload_n 0, 1) := by decide +kernel
theorem d_M_findLosses_23 : decode b_M_findLosses 23 = .ok (.getfield 37, 3) := by decide +kernel
theorem d_M_findLosses_26 : decode b_M_findLosses 26 = .ok (.bipush 30, 2) := by decide +kernel
theorem d_M_findLosses_28 : decode b_M_findLosses 28 = .ok (.iload_n 3, 1) := by decide +kernel
theorem d_M_findLosses_29 : decode b_M_findLosses 29 = .ok (.imul, 1) := by decide +kernel
theorem d_M_findLosses_30 : decode b_M_findLosses 30 = .ok (.iload 4, 2) := by decide +kernel
theorem d_M_findLosses_32 : decode b_M_findLosses 32 = .ok (.iadd, 1) := by decide +kernel
theorem d_M_findLosses_33 : decode b_M_findLosses 33 = .ok (.iload_n 3, 1) := by decide +kernel
theorem d_M_findLosses_34 : decode b_M_findLosses 34 = .ok (.iload 4, 2) := by decide +kernel
theorem d_M_findLosses_36 : decode b_M_findLosses 36 = .ok (.if_icmp .ne 7, 3) := by decide +kernel
theorem d_M_findLosses_39 : decode b_M_findLosses 39 = .ok (.iconst 0, 1) := by decide +kernel
theorem d_M_findLosses_40 : decode b_M_findLosses 40 = .ok (.goto 6, 3) := by decide +kernel
theorem d_M_findLosses_43 : decode b_M_findLosses 43 = .ok (.sipush 1000, 3) := by decide +kernel
theorem d_M_findLosses_46 : decode b_M_findLosses 46 = .ok (.iastore, 1) := by decide +kernel
theorem d_M_findLosses_47 : decode b_M_findLosses 47 = .ok (.iinc 4 1, 3) := by decide +kernel
theorem d_M_findLosses_50 : decode b_M_findLosses 50 = .ok (.goto (-37), 3) := by decide +kernel
theorem d_M_findLosses_53 : decode b_M_findLosses 53 = .ok (.iinc 3 1, 3) := by decide +kernel
theorem d_M_findLosses_56 : decode b_M_findLosses 56 = .ok (.goto (-54), 3) := by decide +kernel
theorem d_M_findLosses_59 : decode b_M_findLosses 59 = .ok (.iconst 0, 1) := by decide +kernel
theorem d_M_findLosses_60 : decode b_M_findLosses 60 = .ok (.istore_n 3, 1) := by decide +kernel
theorem d_M_findLosses_61 : decode b_M_findLosses 61 = .ok (.iload_n 3, 1) := by decide +kernel
theorem d_M_findLosses_62 : decode b_M_findLosses 62 = .ok (.aload_n 0, 1) := by decide +kernel
theorem d_M_findLosses_63 : decode b_M_findLosses 63 = .ok (.getfield 47, 3) := by decide +kernel
theorem d_M_findLosses_66 : decode b_M_findLosses 66 = .ok (.if_icmp .ge 79, 3) := by decide +kernel
theorem d_M_findLosses_69 : decode b_M_findLosses 69 = .ok (.aload_n 0, 1) := by decide +kernel
theorem d_M_findLosses_70 : decode b_M_findLosses 70 = .ok (.getfield 7, 3) := by decide +kernel
theorem d_M_findLosses_73 : decode b_M_findLosses 73 = .ok (.iload_n 3, 1) := by decide +kernel
theorem d_M_findLosses_74 : decode b_M_findLosses 74 = .ok (.iaload, 1) := by decide +kernel
theorem d_M_findLosses_75 : decode b_M_findLosses 75 = .ok (.iconst 1, 1) := by decide +kernel
theorem d_M_findLosses_76 : decode b_M_findLosses 76 = .ok (.if_icmp .ne 63, 3) := by decide +kernel
theorem d_M_findLosses_79 : decode b_M_findLosses 79 = .ok (.aload_n 0, 1) := by decide +kernel
theorem d_M_findLosses_80 : decode b_M_findLosses 80 = .ok (.iload_n 3, 1) := by decide +kernel
theorem d_M_findLosses_81 : decode b_M_findLosses 81 = .ok (.invokevirtual 98, 3) := by decide +kernel
theorem d_M_findLosses_84 : decode b_M_findLosses 84 = .ok (.iconst (-1), 1) := by decide +kernel
theorem d_M_findLosses_85 : decode b_M_findLosses 85 = .ok (.if_icmp .eq 54, 3) := by decide +kernel
theorem d_M_findLosses_88 : decode b_M_findLosses 88 = .ok (.aload_n 0, 1) := by decide +kernel
theorem d_M_findLosses_89 : decode b_M_findLosses 89 = .ok (.iload_n 3, 1) := by decide +kernel
theorem d_M_findLosses_90 : decode b_M_findLosses 90 = .ok (.aload_n 0, 1) := by decide +kernel
theorem d_M_findLosses_91 : decode b_M_findLosses 91 = .ok (.iload_n 3, 1) := by decide +kernel
theorem d_M_findLosses_92 : decode b_M_findLosses 92 = .ok (.invokevirtual 98, 3) := by decide +kernel
theorem d_M_findLosses_95 : decode b_M_findLosses 95 = .ok (.iload_n 1, 1) := by decide +kernel
theorem d_M_findLosses_96 : decode b_M_findLosses 96 = .ok (.iconst 0, 1) := by decide +kernel
theorem d_M_findLosses_97 : decode b_M_findLosses 97 = .ok (.aload_n 0, 1) := by decide +kernel
theorem d_M_findLosses_98 : decode b_M_findLosses 98 = .ok (.getfield 16, 3) := by decide +kernel
theorem d_M_findLosses_101 : decode b_M_findLosses 101 = .ok (.iconst 4, 1) := by decide +kernel
theorem d_M_findLosses_102 : decode b_M_findLosses 102 = .ok (.iload_n 3, 1) := by decide +kernel
theorem d_M_findLosses_103 : decode b_M_findLosses 103 = .ok (.imul, 1) := by decide +kernel
theorem d_M_findLosses_104 : decode b_M_findLosses 104 = .ok (.iaload, 1) := by decide +kernel
theorem d_M_findLosses_105 : decode b_M_findLosses 105 = .ok (.iconst 1, 1) := by decide +kernel
theorem d_M_findLosses_106 : decode b_M_findLosses 106 = .ok (.if_icmp .ne 7, 3) := by decide +kernel
theorem d_M_findLosses_109 : decode b_M_findLosses 109 = .ok (.iconst 1, 1) := by decide +kernel
theorem d_M_findLosses_110 : decode b_M_findLosses 110 = .ok (.goto 4, 3) := by decide +kernel
theorem d_M_findLosses_113 : decode b_M_findLosses 113 = .ok (.iconst 0, 1) := by decide +kernel
theorem d_M_findLosses_114 : decode b_M_findLosses 114 = .ok (.aload_n 0, 1) := by decide +kernel
theorem d_M_findLosses_115 : decode b_M_findLosses 115 = .ok (.getfield 16, 3) := by decide +kernel
theorem d_M_findLosses_118 : decode b_M_findLosses 118 = .ok (.iconst 4, 1) := by decide +kernel
theorem d_M_findLosses_119 : decode b_M_findLosses 119 = .ok (.iload_n 3, 1) := by decide +kernel
theorem d_M_findLosses_120 : decode b_M_findLosses 120 = .ok (.imul, 1) := by decide +kernel
theorem d_M_findLosses_121 : decode b_M_findLosses 121 = .ok (.iconst 1, 1) := by decide +kernel
theorem d_M_findLosses_122 : decode b_M_findLosses 122 = .ok (.iadd, 1) := by decide +kernel
theorem d_M_findLosses_123 : decode b_M_findLosses 123 = .ok (.iaload, 1) := by decide +kernel
theorem d_M_findLosses_124 : decode b_M_findLosses 124 = .ok (.iconst 1, 1) := by decide +kernel
theorem d_M_findLosses_125 : decode b_M_findLosses 125 = .ok (.if_icmp .ne 7, 3) := by decide +kernel
theorem d_M_findLosses_128 : decode b_M_findLosses 128 = .ok (.iconst 1, 1) := by decide +kernel
theorem d_M_findLosses_129 : decode b_M_findLosses 129 = .ok (.goto 4, 3) := by decide +kernel
theorem d_M_findLosses_132 : decode b_M_findLosses 132 = .ok (.iconst 0, 1) := by decide +kernel
theorem d_M_findLosses_133 : decode b_M_findLosses 133 = .ok (.invokestatic 101, 3) := by decide +kernel
theorem d_M_findLosses_136 : decode b_M_findLosses 136 = .ok (.invokevirtual 105, 3) := by decide +kernel
theorem d_M_findLosses_139 : decode b_M_findLosses 139 = .ok (.iinc 3 1, 3) := by decide +kernel
theorem d_M_findLosses_142 : decode b_M_findLosses 142 = .ok (.goto (-81), 3) := by decide +kernel
theorem d_M_findLosses_145 : decode b_M_findLosses 145 = .ok (.iconst 0, 1) := by decide +kernel
theorem d_M_findLosses_146 : decode b_M_findLosses 146 = .ok (.istore_n 3, 1) := by decide +kernel
theorem d_M_findLosses_147 : decode b_M_findLosses 147 = .ok (.iload_n 3, 1) := by decide +kernel
theorem d_M_findLosses_148 : decode b_M_findLosses 148 = .ok (.aload_n 0, 1) := by decide +kernel
theorem d_M_findLosses_149 : decode b_M_findLosses 149 = .ok (.getfield 63, 3) := by decide +kernel
theorem d_M_findLosses_152 : decode b_M_findLosses 152 = .ok (.if_icmp .ge 64, 3) := by decide +kernel
theorem d_M_findLosses_155 : decode b_M_findLosses 155 = .ok (.iload_n 2, 1) := by decide +kernel
theorem d_M_findLosses_156 : decode b_M_findLosses 156 = .ok (.ifCond .eq 60, 3) := by decide +kernel
theorem d_M_findLosses_159 : decode b_M_findLosses 159 = .ok (.aload_n 0, 1) := by decide +kernel
theorem d_M_findLosses_160 : decode b_M_findLosses 160 = .ok (.aload_n 0, 1) := by decide +kernel
theorem d_M_findLosses_161 : decode b_M_findLosses 161 = .ok (.getfield 19, 3) := by decide +kernel
theorem d_M_findLosses_164 : decode b_M_findLosses 164 = .ok (.iload_n 3, 1) := by decide +kernel
theorem d_M_findLosses_165 : decode b_M_findLosses 165 = .ok (.iaload, 1) := by decide +kernel
theorem d_M_findLosses_166 : decode b_M_findLosses 166 = .ok (.aload_n 0, 1) := by decide +kernel
theorem d_M_findLosses_167 : decode b_M_findLosses 167 = .ok (.getfield 22, 3) := by decide +kernel
theorem d_M_findLosses_170 : decode b_M_findLosses 170 = .ok (.iload_n 3, 1) := by decide +kernel
theorem d_M_findLosses_171 : decode b_M_findLosses 171 = .ok (.iaload, 1) := by decide +kernel
theorem d_M_findLosses_172 : decode b_M_findLosses 172 = .ok (.iload_n 1, 1) := by decide +kernel
theorem d_M_findLosses_173 : decode b_M_findLosses 173 = .ok (.iconst 1, 1) := by decide +kernel
theorem d_M_findLosses_174 : decode b_M_findLosses 174 = .ok (.aload_n 0, 1) := by decide +kernel
theorem d_M_findLosses_175 : decode b_M_findLosses 175 = .ok (.getfield 25, 3) := by decide +kernel
theorem d_M_findLosses_178 : decode b_M_findLosses 178 = .ok (.iload_n 3, 1) := by decide +kernel
theorem d_M_findLosses_179 : decode b_M_findLosses 179 = .ok (.iaload, 1) := by decide +kernel
theorem d_M_findLosses_180 : decode b_M_findLosses 180 = .ok (.iconst 1, 1) := by decide +kernel
theorem d_M_findLosses_181 : decode b_M_findLosses 181 = .ok (.if_icmp .ne 7, 3) := by decide +kernel
theorem d_M_findLosses_184 : decode b_M_findLosses 184 = .ok (.iconst 1, 1) := by decide +kernel
theorem d_M_findLosses_185 : decode b_M_findLosses 185 = .ok (.goto 4, 3) := by decide +kernel
theorem d_M_findLosses_188 : decode b_M_findLosses 188 = .ok (.iconst 0, 1) := by decide +kernel
theorem d_M_findLosses_189 : decode b_M_findLosses 189 = .ok (.aload_n 0, 1) := by decide +kernel
theorem d_M_findLosses_190 : decode b_M_findLosses 190 = .ok (.getfield 28, 3) := by decide +kernel
theorem d_M_findLosses_193 : decode b_M_findLosses 193 = .ok (.iload_n 3, 1) := by decide +kernel
theorem d_M_findLosses_194 : decode b_M_findLosses 194 = .ok (.iaload, 1) := by decide +kernel
theorem d_M_findLosses_195 : decode b_M_findLosses 195 = .ok (.iconst 1, 1) := by decide +kernel
theorem d_M_findLosses_196 : decode b_M_findLosses 196 = .ok (.if_icmp .ne 7, 3) := by decide +kernel
theorem d_M_findLosses_199 : decode b_M_findLosses 199 = .ok (.iconst 1, 1) := by decide +kernel
theorem d_M_findLosses_200 : decode b_M_findLosses 200 = .ok (.goto 4, 3) := by decide +kernel
theorem d_M_findLosses_203 : decode b_M_findLosses 203 = .ok (.iconst 0, 1) := by decide +kernel
theorem d_M_findLosses_204 : decode b_M_findLosses 204 = .ok (.invokestatic 101, 3) := by decide +kernel
theorem d_M_findLosses_207 : decode b_M_findLosses 207 = .ok (.invokevirtual 105, 3) := by decide +kernel
theorem d_M_findLosses_210 : decode b_M_findLosses 210 = .ok (.iinc 3 1, 3) := by decide +kernel
theorem d_M_findLosses_213 : decode b_M_findLosses 213 = .ok (.goto (-66), 3) := by decide +kernel
theorem d_M_findLosses_216 : decode b_M_findLosses 216 = .ok (.iconst 0, 1) := by decide +kernel
theorem d_M_findLosses_217 : decode b_M_findLosses 217 = .ok (.istore_n 3, 1) := by decide +kernel
theorem d_M_findLosses_218 : decode b_M_findLosses 218 = .ok (.iload_n 3, 1) := by decide +kernel
theorem d_M_findLosses_219 : decode b_M_findLosses 219 = .ok (.aload_n 0, 1) := by decide +kernel
theorem d_M_findLosses_220 : decode b_M_findLosses 220 = .ok (.getfield 47, 3) := by decide +kernel
theorem d_M_findLosses_223 : decode b_M_findLosses 223 = .ok (.if_icmp .ge 121, 3) := by decide +kernel
theorem d_M_findLosses_226 : decode b_M_findLosses 226 = .ok (.iconst 0, 1) := by decide +kernel
theorem d_M_findLosses_227 : decode b_M_findLosses 227 = .ok (.istore 4, 2) := by decide +kernel
theorem d_M_findLosses_229 : decode b_M_findLosses 229 = .ok (.iload 4, 2) := by decide +kernel
theorem d_M_findLosses_231 : decode b_M_findLosses 231 = .ok (.aload_n 0, 1) := by decide +kernel
theorem d_M_findLosses_232 : decode b_M_findLosses 232 = .ok (.getfield 47, 3) := by decide +kernel
theorem d_M_findLosses_235 : decode b_M_findLosses 235 = .ok (.if_icmp .ge 103, 3) := by decide +kernel
theorem d_M_findLosses_238 : decode b_M_findLosses 238 = .ok (.iconst 0, 1) := by decide +kernel
theorem d_M_findLosses_239 : decode b_M_findLosses 239 = .ok (.istore 5, 2) := by decide +kernel
theorem d_M_findLosses_241 : decode b_M_findLosses 241 = .ok (.iload 5, 2) := by decide +kernel
theorem d_M_findLosses_243 : decode b_M_findLosses 243 = .ok (.aload_n 0, 1) := by decide +kernel
theorem d_M_findLosses_244 : decode b_M_findLosses 244 = .ok (.getfield 47, 3) := by decide +kernel
theorem d_M_findLosses_247 : decode b_M_findLosses 247 = .ok (.if_icmp .ge 85, 3) := by decide +kernel
theorem d_M_findLosses_250 : decode b_M_findLosses 250 = .ok (.aload_n 0, 1) := by decide +kernel
theorem d_M_findLosses_251 : decode b_M_findLosses 251 = .ok (.getfield 37, 3) := by decide +kernel
theorem d_M_findLosses_254 : decode b_M_findLosses 254 = .ok (.bipush 30, 2) := by decide +kernel
theorem d_M_findLosses_256 : decode b_M_findLosses 256 = .ok (.iload 4, 2) := by decide +kernel
theorem d_M_findLosses_258 : decode b_M_findLosses 258 = .ok (.imul, 1) := by decide +kernel
theorem d_M_findLosses_259 : decode b_M_findLosses 259 = .ok (.iload_n 3, 1) := by decide +kernel
theorem d_M_findLosses_260 : decode b_M_findLosses 260 = .ok (.iadd, 1) := by decide +kernel
theorem d_M_findLosses_261 : decode b_M_findLosses 261 = .ok (.iaload, 1) := by decide +kernel
theorem d_M_findLosses_262 : decode b_M_findLosses 262 = .ok (.aload_n 0, 1) := by decide +kernel
theorem d_M_findLosses_263 : decode b_M_findLosses 263 = .ok (.getfield 37, 3) := by decide +kernel
theorem d_M_findLosses_266 : decode b_M_findLosses 266 = .ok (.bipush 30, 2) := by decide +kernel
theorem d_M_findLosses_268 : decode b_M_findLosses 268 = .ok (.iload_n 3, 1) := by decide +kernel
theorem d_M_findLosses_269 : decode b_M_findLosses 269 = .ok (.imul, 1) := by decide +kernel
theorem d_M_findLosses_270 : decode b_M_findLosses 270 = .ok (.iload 5, 2) := by decide +kernel
theorem d_M_findLosses_272 : decode b_M_findLosses 272 = .ok (.iadd, 1) := by decide +kernel
theorem d_M_findLosses_273 : decode b_M_findLosses 273 = .ok (.iaload, 1) := by decide +kernel
theorem d_M_findLosses_274 : decode b_M_findLosses 274 = .ok (.iadd, 1) := by decide +kernel
theorem d_M_findLosses_275 : decode b_M_findLosses 275 = .ok (.istore 6, 2) := by decide +kernel
theorem d_M_findLosses_277 : decode b_M_findLosses 277 = .ok (.aload_n 0, 1) := by decide +kernel
theorem d_M_findLosses_278 : decode b_M_findLosses 278 = .ok (.getfield 37, 3) := by decide +kernel
theorem d_M_findLosses_281 : decode b_M_findLosses 281 = .ok (.bipush 30, 2) := by decide +kernel
theorem d_M_findLosses_283 : decode b_M_findLosses 283 = .ok (.iload 4, 2) := by decide +kernel
theorem d_M_findLosses_285 : decode b_M_findLosses 285 = .ok (.imul, 1) := by decide +kernel
theorem d_M_findLosses_286 : decode b_M_findLosses 286 = .ok (.iload 5, 2) := by decide +kernel
theorem d_M_findLosses_288 : decode b_M_findLosses 288 = .ok (.iadd, 1) := by decide +kernel
theorem d_M_findLosses_289 : decode b_M_findLosses 289 = .ok (.iload 6, 2) := by decide +kernel
theorem d_M_findLosses_291 : decode b_M_findLosses 291 = .ok (.aload_n 0, 1) := by decide +kernel
theorem d_M_findLosses_292 : decode b_M_findLosses 292 = .ok (.getfield 37, 3) := by decide +kernel
theorem d_M_findLosses_295 : decode b_M_findLosses 295 = .ok (.bipush 30, 2) := by decide +kernel
theorem d_M_findLosses_297 : decode b_M_findLosses 297 = .ok (.iload 4, 2) := by decide +kernel
theorem d_M_findLosses_299 : decode b_M_findLosses 299 = .ok (.imul, 1) := by decide +kernel
theorem d_M_findLosses_300 : decode b_M_findLosses 300 = .ok (.iload 5, 2) := by decide +kernel
theorem d_M_findLosses_302 : decode b_M_findLosses 302 = .ok (.iadd, 1) := by decide +kernel
theorem d_M_findLosses_303 : decode b_M_findLosses 303 = .ok (.iaload, 1) := by decide +kernel
theorem d_M_findLosses_304 : decode b_M_findLosses 304 = .ok (.if_icmp .ge 8, 3) := by decide +kernel
theorem d_M_findLosses_307 : decode b_M_findLosses 307 = .ok (.iload 6, 2) := by decide +kernel
theorem d_M_findLosses_309 : decode b_M_findLosses 309 = .ok (.goto 16, 3) := by decide +kernel
theorem d_M_findLosses_312 : decode b_M_findLosses 312 = .ok (.aload_n 0, 1) := by decide +kernel
theorem d_M_findLosses_313 : decode b_M_findLosses 313 = .ok (.getfield 37, 3) := by decide +kernel
theorem d_M_findLosses_316 : decode b_M_findLosses 316 = .ok (.bipush 30, 2) := by decide +kernel
theorem d_M_findLosses_318 : decode b_M_findLosses 318 = .ok (.iload 4, 2) := by decide +kernel
theorem d_M_findLosses_320 : decode b_M_findLosses 320 = .ok (.imul, 1) := by decide +kernel
theorem d_M_findLosses_321 : decode b_M_findLosses 321 = .ok (.iload 5, 2) := by decide +kernel
theorem d_M_findLosses_323 : decode b_M_findLosses 323 = .ok (.iadd, 1) := by decide +kernel
theorem d_M_findLosses_324 : decode b_M_findLosses 324 = .ok (.iaload, 1) := by decide +kernel
theorem d_M_findLosses_325 : decode b_M_findLosses 325 = .ok (.iastore, 1) := by decide +kernel
theorem d_M_findLosses_326 : decode b_M_findLosses 326 = .ok (.iinc 5 1, 3) := by decide +kernel
theorem d_M_findLosses_329 : decode b_M_findLosses 329 = .ok (.goto (-88), 3) := by decide +kernel
theorem d_M_findLosses_332 : decode b_M_findLosses 332 = .ok (.iinc 4 1, 3) := by decide +kernel
theorem d_M_findLosses_335 : decode b_M_findLosses 335 = .ok (.goto (-106), 3) := by decide +kernel
theorem d_M_findLosses_338 : decode b_M_findLosses 338 = .ok (.iinc 3 1, 3) := by decide +kernel
theorem d_M_findLosses_341 : decode b_M_findLosses 341 = .ok (.goto (-123), 3) := by decide +kernel
theorem d_M_findLosses_344 : decode b_M_findLosses 344 = .ok (.return_, 1) := by decide +kernel
theorem d_M_greatest_0 : decode b_M_greatest 0 = .ok (.iconst 0, 1) := by decide +kernel
theorem d_M_greatest_1 : decode b_M_greatest 1 = .ok (.istore_n 3, 1) := by decide +kernel
theorem d_M_greatest_2 : decode b_M_greatest 2 = .ok (.iconst 0, 1) := by decide +kernel
theorem d_M_greatest_3 : decode b_M_greatest 3 = .ok (.istore 4, 2) := by decide +kernel
theorem d_M_greatest_5 : decode b_M_greatest 5 = .ok (.iload 4, 2) := by decide +kernel
theorem d_M_greatest_7 : decode b_M_greatest 7 = .ok (.aload_n 0, 1) := by decide +kernel
theorem d_M_greatest_8 : decode b_M_greatest 8 = .ok (.getfield 47, 3) := by decide +kernel
theorem d_M_greatest_11 : decode b_M_greatest 11 = .ok (.if_icmp .ge 86, 3) := by decide +kernel
theorem d_M_greatest_14 : decode b_M_greatest 14 = .ok (.aload_n 0, 1) := by decide +kernel
theorem d_M_greatest_15 : decode b_M_greatest 15 = .ok (.iload 4, 2) := by decide +kernel
theorem d_M_greatest_17 : decode b_M_greatest 17 = .ok (.invokevirtual 98, 3) := by decide +kernel
theorem d_M_greatest_20 : decode b_M_greatest 20 = .ok (.istore 5, 2) := by decide +kernel
theorem d_M_greatest_22 : decode b_M_greatest 22 = .ok (.iload 5, 2) := by decide +kernel
theorem d_M_greatest_24 : decode b_M_greatest 24 = .ok (.iconst (-1), 1) := by decide +kernel
theorem d_M_greatest_25 : decode b_M_greatest 25 = .ok (.if_icmp .eq 21, 3) := by decide +kernel
theorem d_M_greatest_28 : decode b_M_greatest 28 = .ok (.aload_n 0, 1) := by decide +kernel
theorem d_M_greatest_29 : decode b_M_greatest 29 = .ok (.getfield 37, 3) := by decide +kernel
theorem d_M_greatest_32 : decode b_M_greatest 32 = .ok (.bipush 30, 2) := by decide +kernel
theorem d_M_greatest_34 : decode b_M_greatest 34 = .ok (.iload 5, 2) := by decide +kernel
theorem d_M_greatest_36 : decode b_M_greatest 36 = .ok (.imul, 1) := by decide +kernel
theorem d_M_greatest_37 : decode b_M_greatest 37 = .ok (.iload_n 1, 1) := by decide +kernel
theorem d_M_greatest_38 : decode b_M_greatest 38 = .ok (.iadd, 1) := by decide +kernel
theorem d_M_greatest_39 : decode b_M_greatest 39 = .ok (.iaload, 1) := by decide +kernel
theorem d_M_greatest_40 : decode b_M_greatest 40 = .ok (.sipush 1000, 3) := by decide +kernel
theorem d_M_greatest_43 : decode b_M_greatest 43 = .ok (.if_icmp .lt 7, 3) := by decide +kernel
theorem d_M_greatest_46 : decode b_M_greatest 46 = .ok (.iconst 0, 1) := by decide +kernel
theorem d_M_greatest_47 : decode b_M_greatest 47 = .ok (.goto 29, 3) := by decide +kernel
theorem d_M_greatest_50 : decode b_M_greatest 50 = .ok (.aload_n 0, 1) := by decide +kernel
theorem d_M_greatest_51 : decode b_M_greatest 51 = .ok (.getfield 16, 3) := by decide +kernel
theorem d_M_greatest_54 : decode b_M_greatest 54 = .ok (.iconst 4, 1) := by decide +kernel
theorem d_M_greatest_55 : decode b_M_greatest 55 = .ok (.iload 4, 2) := by decide +kernel
theorem d_M_greatest_57 : decode b_M_greatest 57 = .ok (.imul, 1) := by decide +kernel
theorem d_M_greatest_58 : decode b_M_greatest 58 = .ok (.iconst 2, 1) := by decide +kernel
theorem d_M_greatest_59 : decode b_M_greatest 59 = .ok (.iadd, 1) := by decide +kernel
theorem d_M_greatest_60 : decode b_M_greatest 60 = .ok (.iload_n 2, 1) := by decide +kernel
theorem d_M_greatest_61 : decode b_M_greatest 61 = .ok (.iadd, 1) := by decide +kernel
theorem d_M_greatest_62 : decode b_M_greatest 62 = .ok (.iaload, 1) := by decide +kernel
theorem d_M_greatest_63 : decode b_M_greatest 63 = .ok (.aload_n 0, 1) := by decide +kernel
theorem d_M_greatest_64 : decode b_M_greatest 64 = .ok (.getfield 37, 3) := by decide +kernel
theorem d_M_greatest_67 : decode b_M_greatest 67 = .ok (.bipush 30, 2) := by decide +kernel
theorem d_M_greatest_69 : decode b_M_greatest 69 = .ok (.iload 5, 2) := by decide +kernel
theorem d_M_greatest_71 : decode b_M_greatest 71 = .ok (.imul, 1) := by decide +kernel
theorem d_M_greatest_72 : decode b_M_greatest 72 = .ok (.iload_n 1, 1) := by decide +kernel
theorem d_M_greatest_73 : decode b_M_greatest 73 = .ok (.iadd, 1) := by decide +kernel
theorem d_M_greatest_74 : decode b_M_greatest 74 = .ok (.iaload, 1) := by decide +kernel
theorem d_M_greatest_75 : decode b_M_greatest 75 = .ok (.isub, 1) := by decide +kernel
theorem d_M_greatest_76 : decode b_M_greatest 76 = .ok (.istore 6, 2) := by decide +kernel
theorem d_M_greatest_78 : decode b_M_greatest 78 = .ok (.iload 6, 2) := by decide +kernel
theorem d_M_greatest_80 : decode b_M_greatest 80 = .ok (.iload_n 3, 1) := by decide +kernel
theorem d_M_greatest_81 : decode b_M_greatest 81 = .ok (.if_icmp .le 8, 3) := by decide +kernel
theorem d_M_greatest_84 : decode b_M_greatest 84 = .ok (.iload 6, 2) := by decide +kernel
theorem d_M_greatest_86 : decode b_M_greatest 86 = .ok (.goto 4, 3) := by decide +kernel
theorem d_M_greatest_89 : decode b_M_greatest 89 = .ok (.iload_n 3, 1) := by decide +kernel
theorem d_M_greatest_90 : decode b_M_greatest 90 = .ok (.istore_n 3, 1) := by decide +kernel
theorem d_M_greatest_91 : decode b_M_greatest 91 = .ok (.iinc 4 1, 3) := by decide +kernel
theorem d_M_greatest_94 : decode b_M_greatest 94 = .ok (.goto (-89), 3) := by decide +kernel
theorem d_M_greatest_97 : decode b_M_greatest 97 = .ok (.iload_n 3, 1) := by decide +kernel
theorem d_M_greatest_98 : decode b_M_greatest 98 = .ok (.ireturn, 1) := by decide +kernel
theorem d_M_count_0 : decode b_M_count 0 = .ok (.iload_n 1, 1) := by decide +kernel
theorem d_M_count_1 : decode b_M_count 1 = .ok (.ifCond .ne 10, 3) := by decide +kernel
theorem d_M_count_4 : decode b_M_count 4 = .ok (.aload_n 0, 1) := by decide +kernel
theorem d_M_count_5 : decode b_M_count 5 = .ok (.getfield 47, 3) := by decide +kernel
theorem d_M_count_8 : decode b_M_count 8 = .ok (.goto 17, 3) := by decide +kernel
theorem d_M_count_11 : decode b_M_count 11 = .ok (.iload_n 1, 1) := by decide +kernel
theorem d_M_count_12 : decode b_M_count 12 = .ok (.iconst 1, 1) := by decide +kernel
theorem d_M_count_13 : decode b_M_count 13 = .ok (.if_icmp .ne 10, 3) := by decide +kernel
theorem d_M_count_16 : decode b_M_count 16 = .ok (.aload_n 0, 1) := by decide +kernel
theorem d_M_count_17 : decode b_M_count 17 = .ok (.getfield 63, 3) := by decide +kernel
theorem d_M_count_20 : decode b_M_count 20 = .ok (.goto 5, 3) := by decide +kernel
theorem d_M_count_23 : decode b_M_count 23 = .ok (.bipush (-3), 2) := by decide +kernel
theorem d_M_count_25 : decode b_M_count 25 = .ok (.ireturn, 1) := by decide +kernel
theorem d_M_told_0 : decode b_M_told 0 = .ok (.aload_n 0, 1) := by decide +kernel
theorem d_M_told_1 : decode b_M_told 1 = .ok (.iload_n 1, 1) := by decide +kernel
theorem d_M_told_2 : decode b_M_told 2 = .ok (.invokevirtual 55, 3) := by decide +kernel
theorem d_M_told_5 : decode b_M_told 5 = .ok (.ifCond .ne 6, 3) := by decide +kernel
theorem d_M_told_8 : decode b_M_told 8 = .ok (.bipush (-2), 2) := by decide +kernel
theorem d_M_told_10 : decode b_M_told 10 = .ok (.ireturn, 1) := by decide +kernel
theorem d_M_told_11 : decode b_M_told 11 = .ok (.iconst 0, 1) := by decide +kernel
theorem d_M_told_12 : decode b_M_told 12 = .ok (.istore_n 3, 1) := by decide +kernel
theorem d_M_told_13 : decode b_M_told 13 = .ok (.iconst 0, 1) := by decide +kernel
theorem d_M_told_14 : decode b_M_told 14 = .ok (.istore 4, 2) := by decide +kernel
theorem d_M_told_16 : decode b_M_told 16 = .ok (.iload 4, 2) := by decide +kernel
theorem d_M_told_18 : decode b_M_told 18 = .ok (.aload_n 0, 1) := by decide +kernel
theorem d_M_told_19 : decode b_M_told 19 = .ok (.getfield 47, 3) := by decide +kernel
theorem d_M_told_22 : decode b_M_told 22 = .ok (.if_icmp .ge 27, 3) := by decide +kernel
theorem d_M_told_25 : decode b_M_told 25 = .ok (.iload_n 3, 1) := by decide +kernel
theorem d_M_told_26 : decode b_M_told 26 = .ok (.aload_n 0, 1) := by decide +kernel
theorem d_M_told_27 : decode b_M_told 27 = .ok (.iload 4, 2) := by decide +kernel
theorem d_M_told_29 : decode b_M_told 29 = .ok (.iload_n 1, 1) := by decide +kernel
theorem d_M_told_30 : decode b_M_told 30 = .ok (.invokevirtual 70, 3) := by decide +kernel
theorem d_M_told_33 : decode b_M_told 33 = .ok (.ifCond .eq 7, 3) := by decide +kernel
theorem d_M_told_36 : decode b_M_told 36 = .ok (.iconst 1, 1) := by decide +kernel
theorem d_M_told_37 : decode b_M_told 37 = .ok (.goto 4, 3) := by decide +kernel
theorem d_M_told_40 : decode b_M_told 40 = .ok (.iconst 0, 1) := by decide +kernel
theorem d_M_told_41 : decode b_M_told 41 = .ok (.iadd, 1) := by decide +kernel
theorem d_M_told_42 : decode b_M_told 42 = .ok (.istore_n 3, 1) := by decide +kernel
theorem d_M_told_43 : decode b_M_told 43 = .ok (.iinc 4 1, 3) := by decide +kernel
theorem d_M_told_46 : decode b_M_told 46 = .ok (.goto (-30), 3) := by decide +kernel
theorem d_M_told_49 : decode b_M_told 49 = .ok (.iload_n 2, 1) := by decide +kernel
theorem d_M_told_50 : decode b_M_told 50 = .ok (.tableswitch 62 0 4 #[34, 41, 48, 54, 60], 34) := by decide +kernel
theorem d_M_told_84 : decode b_M_told 84 = .ok (.aload_n 0, 1) := by decide +kernel
theorem d_M_told_85 : decode b_M_told 85 = .ok (.getfield 7, 3) := by decide +kernel
theorem d_M_told_88 : decode b_M_told 88 = .ok (.iload_n 1, 1) := by decide +kernel
theorem d_M_told_89 : decode b_M_told 89 = .ok (.iaload, 1) := by decide +kernel
theorem d_M_told_90 : decode b_M_told 90 = .ok (.ireturn, 1) := by decide +kernel
theorem d_M_told_91 : decode b_M_told 91 = .ok (.aload_n 0, 1) := by decide +kernel
theorem d_M_told_92 : decode b_M_told 92 = .ok (.getfield 13, 3) := by decide +kernel
theorem d_M_told_95 : decode b_M_told 95 = .ok (.iload_n 1, 1) := by decide +kernel
theorem d_M_told_96 : decode b_M_told 96 = .ok (.iaload, 1) := by decide +kernel
theorem d_M_told_97 : decode b_M_told 97 = .ok (.ireturn, 1) := by decide +kernel
theorem d_M_told_98 : decode b_M_told 98 = .ok (.aload_n 0, 1) := by decide +kernel
theorem d_M_told_99 : decode b_M_told 99 = .ok (.iload_n 1, 1) := by decide +kernel
theorem d_M_told_100 : decode b_M_told 100 = .ok (.invokevirtual 98, 3) := by decide +kernel
theorem d_M_told_103 : decode b_M_told 103 = .ok (.ireturn, 1) := by decide +kernel
theorem d_M_told_104 : decode b_M_told 104 = .ok (.aload_n 0, 1) := by decide +kernel
theorem d_M_told_105 : decode b_M_told 105 = .ok (.iload_n 1, 1) := by decide +kernel
theorem d_M_told_106 : decode b_M_told 106 = .ok (.invokevirtual 66, 3) := by decide +kernel
theorem d_M_told_109 : decode b_M_told 109 = .ok (.ireturn, 1) := by decide +kernel
theorem d_M_told_110 : decode b_M_told 110 = .ok (.iload_n 3, 1) := by decide +kernel
theorem d_M_told_111 : decode b_M_told 111 = .ok (.ireturn, 1) := by decide +kernel
theorem d_M_told_112 : decode b_M_told 112 = .ok (.iload_n 2, 1) := by decide +kernel
theorem d_M_told_113 : decode b_M_told 113 = .ok (.iconst 5, 1) := by decide +kernel
theorem d_M_told_114 : decode b_M_told 114 = .ok (.bipush 8, 2) := by decide +kernel
theorem d_M_told_116 : decode b_M_told 116 = .ok (.invokestatic 51, 3) := by decide +kernel
theorem d_M_told_119 : decode b_M_told 119 = .ok (.ifCond .eq 18, 3) := by decide +kernel
theorem d_M_told_122 : decode b_M_told 122 = .ok (.aload_n 0, 1) := by decide +kernel
theorem d_M_told_123 : decode b_M_told 123 = .ok (.getfield 16, 3) := by decide +kernel
theorem d_M_told_126 : decode b_M_told 126 = .ok (.iconst 4, 1) := by decide +kernel
theorem d_M_told_127 : decode b_M_told 127 = .ok (.iload_n 1, 1) := by decide +kernel
theorem d_M_told_128 : decode b_M_told 128 = .ok (.imul, 1) := by decide +kernel
theorem d_M_told_129 : decode b_M_told 129 = .ok (.iload_n 2, 1) := by decide +kernel
theorem d_M_told_130 : decode b_M_told 130 = .ok (.iadd, 1) := by decide +kernel
theorem d_M_told_131 : decode b_M_told 131 = .ok (.iconst 5, 1) := by decide +kernel
theorem d_M_told_132 : decode b_M_told 132 = .ok (.isub, 1) := by decide +kernel
theorem d_M_told_133 : decode b_M_told 133 = .ok (.iaload, 1) := by decide +kernel
theorem d_M_told_134 : decode b_M_told 134 = .ok (.goto 5, 3) := by decide +kernel
theorem d_M_told_137 : decode b_M_told 137 = .ok (.bipush (-3), 2) := by decide +kernel
theorem d_M_told_139 : decode b_M_told 139 = .ok (.ireturn, 1) := by decide +kernel
theorem d_M_held_0 : decode b_M_held 0 = .ok (.aload_n 0, 1) := by decide +kernel
theorem d_M_held_1 : decode b_M_held 1 = .ok (.iload_n 1, 1) := by decide +kernel
theorem d_M_held_2 : decode b_M_held 2 = .ok (.invokevirtual 55, 3) := by decide +kernel
theorem d_M_held_5 : decode b_M_held 5 = .ok (.ifCond .ne 6, 3) := by decide +kernel
theorem d_M_held_8 : decode b_M_held 8 = .ok (.bipush (-2), 2) := by decide +kernel
theorem d_M_held_10 : decode b_M_held 10 = .ok (.ireturn, 1) := by decide +kernel
theorem d_M_held_11 : decode b_M_held 11 = .ok (.iload_n 2, 1) := by decide +kernel
theorem d_M_held_12 : decode b_M_held 12 = .ok (.istore_n 3, 1) := by decide +kernel
theorem d_M_held_13 : decode b_M_held 13 = .ok (.iconst 0, 1) := by decide +kernel
theorem d_M_held_14 : decode b_M_held 14 = .ok (.istore 4, 2) := by decide +kernel
theorem d_M_held_16 : decode b_M_held 16 = .ok (.iload 4, 2) := by decide +kernel
theorem d_M_held_18 : decode b_M_held 18 = .ok (.aload_n 0, 1) := by decide +kernel
theorem d_M_held_19 : decode b_M_held 19 = .ok (.getfield 47, 3) := by decide +kernel
theorem d_M_held_22 : decode b_M_held 22 = .ok (.if_icmp .ge 34, 3) := by decide +kernel
theorem d_M_held_25 : decode b_M_held 25 = .ok (.iload_n 2, 1) := by decide +kernel
theorem d_M_held_26 : decode b_M_held 26 = .ok (.ifCond .lt 30, 3) := by decide +kernel
theorem d_M_held_29 : decode b_M_held 29 = .ok (.aload_n 0, 1) := by decide +kernel
theorem d_M_held_30 : decode b_M_held 30 = .ok (.getfield 13, 3) := by decide +kernel
theorem d_M_held_33 : decode b_M_held 33 = .ok (.iload 4, 2) := by decide +kernel
theorem d_M_held_35 : decode b_M_held 35 = .ok (.iaload, 1) := by decide +kernel
theorem d_M_held_36 : decode b_M_held 36 = .ok (.iload_n 1, 1) := by decide +kernel
theorem d_M_held_37 : decode b_M_held 37 = .ok (.if_icmp .ne 13, 3) := by decide +kernel
theorem d_M_held_40 : decode b_M_held 40 = .ok (.iload_n 3, 1) := by decide +kernel
theorem d_M_held_41 : decode b_M_held 41 = .ok (.ifCond .ne 6, 3) := by decide +kernel
theorem d_M_held_44 : decode b_M_held 44 = .ok (.iload 4, 2) := by decide +kernel
theorem d_M_held_46 : decode b_M_held 46 = .ok (.ireturn, 1) := by decide +kernel
theorem d_M_held_47 : decode b_M_held 47 = .ok (.iinc 3 (-1), 3) := by decide +kernel
theorem d_M_held_50 : decode b_M_held 50 = .ok (.iinc 4 1, 3) := by decide +kernel
theorem d_M_held_53 : decode b_M_held 53 = .ok (.goto (-37), 3) := by decide +kernel
theorem d_M_held_56 : decode b_M_held 56 = .ok (.iconst (-1), 1) := by decide +kernel
theorem d_M_held_57 : decode b_M_held 57 = .ok (.ireturn, 1) := by decide +kernel
theorem d_M_space_0 : decode b_M_space 0 = .ok (.aload_n 0, 1) := by decide +kernel
theorem d_M_space_1 : decode b_M_space 1 = .ok (.iload_n 1, 1) := by decide +kernel
theorem d_M_space_2 : decode b_M_space 2 = .ok (.invokevirtual 95, 3) := by decide +kernel
theorem d_M_space_5 : decode b_M_space 5 = .ok (.ifCond .ne 6, 3) := by decide +kernel
theorem d_M_space_8 : decode b_M_space 8 = .ok (.bipush (-2), 2) := by decide +kernel
theorem d_M_space_10 : decode b_M_space 10 = .ok (.ireturn, 1) := by decide +kernel
theorem d_M_space_11 : decode b_M_space 11 = .ok (.iload_n 2, 1) := by decide +kernel
theorem d_M_space_12 : decode b_M_space 12 = .ok (.iconst 0, 1) := by decide +kernel
theorem d_M_space_13 : decode b_M_space 13 = .ok (.iconst 1, 1) := by decide +kernel
theorem d_M_space_14 : decode b_M_space 14 = .ok (.invokestatic 51, 3) := by decide +kernel
theorem d_M_space_17 : decode b_M_space 17 = .ok (.ifCond .ne 6, 3) := by decide +kernel
theorem d_M_space_20 : decode b_M_space 20 = .ok (.bipush (-3), 2) := by decide +kernel
theorem d_M_space_22 : decode b_M_space 22 = .ok (.ireturn, 1) := by decide +kernel
theorem d_M_space_23 : decode b_M_space 23 = .ok (.aload_n 0, 1) := by decide +kernel
theorem d_M_space_24 : decode b_M_space 24 = .ok (.iload_n 2, 1) := by decide +kernel
theorem d_M_space_25 : decode b_M_space 25 = .ok (.iconst 1, 1) := by decide +kernel
theorem d_M_space_26 : decode b_M_space 26 = .ok (.invokevirtual 109, 3) := by decide +kernel
theorem d_M_space_29 : decode b_M_space 29 = .ok (.aload_n 0, 1) := by decide +kernel
theorem d_M_space_30 : decode b_M_space 30 = .ok (.iload_n 1, 1) := by decide +kernel
theorem d_M_space_31 : decode b_M_space 31 = .ok (.iload_n 2, 1) := by decide +kernel
theorem d_M_space_32 : decode b_M_space 32 = .ok (.invokevirtual 113, 3) := by decide +kernel
theorem d_M_space_35 : decode b_M_space 35 = .ok (.ireturn, 1) := by decide +kernel
theorem d_M_loses_0 : decode b_M_loses 0 = .ok (.aload_n 0, 1) := by decide +kernel
theorem d_M_loses_1 : decode b_M_loses 1 = .ok (.iload_n 1, 1) := by decide +kernel
theorem d_M_loses_2 : decode b_M_loses 2 = .ok (.invokevirtual 95, 3) := by decide +kernel
theorem d_M_loses_5 : decode b_M_loses 5 = .ok (.ifCond .eq 11, 3) := by decide +kernel
theorem d_M_loses_8 : decode b_M_loses 8 = .ok (.aload_n 0, 1) := by decide +kernel
theorem d_M_loses_9 : decode b_M_loses 9 = .ok (.iload_n 2, 1) := by decide +kernel
theorem d_M_loses_10 : decode b_M_loses 10 = .ok (.invokevirtual 95, 3) := by decide +kernel
theorem d_M_loses_13 : decode b_M_loses 13 = .ok (.ifCond .ne 6, 3) := by decide +kernel
theorem d_M_loses_16 : decode b_M_loses 16 = .ok (.bipush (-2), 2) := by decide +kernel
theorem d_M_loses_18 : decode b_M_loses 18 = .ok (.ireturn, 1) := by decide +kernel
theorem d_M_loses_19 : decode b_M_loses 19 = .ok (.iload_n 3, 1) := by decide +kernel
theorem d_M_loses_20 : decode b_M_loses 20 = .ok (.iconst 0, 1) := by decide +kernel
theorem d_M_loses_21 : decode b_M_loses 21 = .ok (.iconst 1, 1) := by decide +kernel
theorem d_M_loses_22 : decode b_M_loses 22 = .ok (.invokestatic 51, 3) := by decide +kernel
theorem d_M_loses_25 : decode b_M_loses 25 = .ok (.ifCond .ne 6, 3) := by decide +kernel
theorem d_M_loses_28 : decode b_M_loses 28 = .ok (.bipush (-3), 2) := by decide +kernel
theorem d_M_loses_30 : decode b_M_loses 30 = .ok (.ireturn, 1) := by decide +kernel
theorem d_M_loses_31 : decode b_M_loses 31 = .ok (.aload_n 0, 1) := by decide +kernel
theorem d_M_loses_32 : decode b_M_loses 32 = .ok (.iload_n 3, 1) := by decide +kernel
theorem d_M_loses_33 : decode b_M_loses 33 = .ok (.iconst 1, 1) := by decide +kernel
theorem d_M_loses_34 : decode b_M_loses 34 = .ok (.invokevirtual 109, 3) := by decide +kernel
theorem d_M_loses_37 : decode b_M_loses 37 = .ok (.aload_n 0, 1) := by decide +kernel
theorem d_M_loses_38 : decode b_M_loses 38 = .ok (.getfield 37, 3) := by decide +kernel
theorem d_M_loses_41 : decode b_M_loses 41 = .ok (.bipush 30, 2) := by decide +kernel
theorem d_M_loses_43 : decode b_M_loses 43 = .ok (.iload_n 1, 1) := by decide +kernel
theorem d_M_loses_44 : decode b_M_loses 44 = .ok (.imul, 1) := by decide +kernel
theorem d_M_loses_45 : decode b_M_loses 45 = .ok (.iload_n 2, 1) := by decide +kernel
theorem d_M_loses_46 : decode b_M_loses 46 = .ok (.iadd, 1) := by decide +kernel
theorem d_M_loses_47 : decode b_M_loses 47 = .ok (.iaload, 1) := by decide +kernel
theorem d_M_loses_48 : decode b_M_loses 48 = .ok (.sipush 1000, 3) := by decide +kernel
theorem d_M_loses_51 : decode b_M_loses 51 = .ok (.if_icmp .lt 7, 3) := by decide +kernel
theorem d_M_loses_54 : decode b_M_loses 54 = .ok (.iconst (-1), 1) := by decide +kernel
theorem d_M_loses_55 : decode b_M_loses 55 = .ok (.goto 14, 3) := by decide +kernel
theorem d_M_loses_58 : decode b_M_loses 58 = .ok (.aload_n 0, 1) := by decide +kernel
theorem d_M_loses_59 : decode b_M_loses 59 = .ok (.getfield 37, 3) := by decide +kernel
theorem d_M_loses_62 : decode b_M_loses 62 = .ok (.bipush 30, 2) := by decide +kernel
theorem d_M_loses_64 : decode b_M_loses 64 = .ok (.iload_n 1, 1) := by decide +kernel
theorem d_M_loses_65 : decode b_M_loses 65 = .ok (.imul, 1) := by decide +kernel
theorem d_M_loses_66 : decode b_M_loses 66 = .ok (.iload_n 2, 1) := by decide +kernel
theorem d_M_loses_67 : decode b_M_loses 67 = .ok (.iadd, 1) := by decide +kernel
theorem d_M_loses_68 : decode b_M_loses 68 = .ok (.iaload, 1) := by decide +kernel
theorem d_M_loses_69 : decode b_M_loses 69 = .ok (.ireturn, 1) := by decide +kernel
theorem d_M_looks_0 : decode b_M_looks 0 = .ok (.aload_n 0, 1) := by decide +kernel
theorem d_M_looks_1 : decode b_M_looks 1 = .ok (.iconst 0, 1) := by decide +kernel
theorem d_M_looks_2 : decode b_M_looks 2 = .ok (.iconst 1, 1) := by decide +kernel
theorem d_M_looks_3 : decode b_M_looks 3 = .ok (.invokevirtual 109, 3) := by decide +kernel
theorem d_M_looks_6 : decode b_M_looks 6 = .ok (.iconst 0, 1) := by decide +kernel
theorem d_M_looks_7 : decode b_M_looks 7 = .ok (.istore_n 1, 1) := by decide +kernel
theorem d_M_looks_8 : decode b_M_looks 8 = .ok (.iload_n 1, 1) := by decide +kernel
theorem d_M_looks_9 : decode b_M_looks 9 = .ok (.aload_n 0, 1) := by decide +kernel
theorem d_M_looks_10 : decode b_M_looks 10 = .ok (.getfield 47, 3) := by decide +kernel
theorem d_M_looks_13 : decode b_M_looks 13 = .ok (.if_icmp .ge 37, 3) := by decide +kernel
theorem d_M_looks_16 : decode b_M_looks 16 = .ok (.aload_n 0, 1) := by decide +kernel
theorem d_M_looks_17 : decode b_M_looks 17 = .ok (.getfield 44, 3) := by decide +kernel
theorem d_M_looks_20 : decode b_M_looks 20 = .ok (.iload_n 1, 1) := by decide +kernel
theorem d_M_looks_21 : decode b_M_looks 21 = .ok (.aload_n 0, 1) := by decide +kernel
theorem d_M_looks_22 : decode b_M_looks 22 = .ok (.iload_n 1, 1) := by decide +kernel
theorem d_M_looks_23 : decode b_M_looks 23 = .ok (.invokevirtual 95, 3) := by decide +kernel
theorem d_M_looks_26 : decode b_M_looks 26 = .ok (.ifCond .eq 16, 3) := by decide +kernel
theorem d_M_looks_29 : decode b_M_looks 29 = .ok (.aload_n 0, 1) := by decide +kernel
theorem d_M_looks_30 : decode b_M_looks 30 = .ok (.iload_n 1, 1) := by decide +kernel
theorem d_M_looks_31 : decode b_M_looks 31 = .ok (.iconst 0, 1) := by decide +kernel
theorem d_M_looks_32 : decode b_M_looks 32 = .ok (.invokevirtual 113, 3) := by decide +kernel
theorem d_M_looks_35 : decode b_M_looks 35 = .ok (.ifCond .le 7, 3) := by decide +kernel
theorem d_M_looks_38 : decode b_M_looks 38 = .ok (.iconst 1, 1) := by decide +kernel
theorem d_M_looks_39 : decode b_M_looks 39 = .ok (.goto 4, 3) := by decide +kernel
theorem d_M_looks_42 : decode b_M_looks 42 = .ok (.iconst 0, 1) := by decide +kernel
theorem d_M_looks_43 : decode b_M_looks 43 = .ok (.bastore, 1) := by decide +kernel
theorem d_M_looks_44 : decode b_M_looks 44 = .ok (.iinc 1 1, 3) := by decide +kernel
theorem d_M_looks_47 : decode b_M_looks 47 = .ok (.goto (-39), 3) := by decide +kernel
theorem d_M_looks_50 : decode b_M_looks 50 = .ok (.aload_n 0, 1) := by decide +kernel
theorem d_M_looks_51 : decode b_M_looks 51 = .ok (.iconst 0, 1) := by decide +kernel
theorem d_M_looks_52 : decode b_M_looks 52 = .ok (.iconst 0, 1) := by decide +kernel
theorem d_M_looks_53 : decode b_M_looks 53 = .ok (.invokevirtual 109, 3) := by decide +kernel
theorem d_M_looks_56 : decode b_M_looks 56 = .ok (.iconst 0, 1) := by decide +kernel
theorem d_M_looks_57 : decode b_M_looks 57 = .ok (.istore_n 1, 1) := by decide +kernel
theorem d_M_looks_58 : decode b_M_looks 58 = .ok (.iload_n 1, 1) := by decide +kernel
theorem d_M_looks_59 : decode b_M_looks 59 = .ok (.sipush 900, 3) := by decide +kernel
theorem d_M_looks_62 : decode b_M_looks 62 = .ok (.if_icmp .ge 32, 3) := by decide +kernel
theorem d_M_looks_65 : decode b_M_looks 65 = .ok (.aload_n 0, 1) := by decide +kernel
theorem d_M_looks_66 : decode b_M_looks 66 = .ok (.getfield 40, 3) := by decide +kernel
theorem d_M_looks_69 : decode b_M_looks 69 = .ok (.iload_n 1, 1) := by decide +kernel
theorem d_M_looks_70 : decode b_M_looks 70 = .ok (.aload_n 0, 1) := by decide +kernel
theorem d_M_looks_71 : decode b_M_looks 71 = .ok (.getfield 37, 3) := by decide +kernel
theorem d_M_looks_74 : decode b_M_looks 74 = .ok (.iload_n 1, 1) := by decide +kernel
theorem d_M_looks_75 : decode b_M_looks 75 = .ok (.iaload, 1) := by decide +kernel
theorem d_M_looks_76 : decode b_M_looks 76 = .ok (.sipush 1000, 3) := by decide +kernel
theorem d_M_looks_79 : decode b_M_looks 79 = .ok (.if_icmp .ge 7, 3) := by decide +kernel
theorem d_M_looks_82 : decode b_M_looks 82 = .ok (.iconst 1, 1) := by decide +kernel
theorem d_M_looks_83 : decode b_M_looks 83 = .ok (.goto 4, 3) := by decide +kernel
theorem d_M_looks_86 : decode b_M_looks 86 = .ok (.iconst 0, 1) := by decide +kernel
theorem d_M_looks_87 : decode b_M_looks 87 = .ok (.bastore, 1) := by decide +kernel
theorem d_M_looks_88 : decode b_M_looks 88 = .ok (.iinc 1 1, 3) := by decide +kernel
theorem d_M_looks_91 : decode b_M_looks 91 = .ok (.goto (-33), 3) := by decide +kernel
theorem d_M_looks_94 : decode b_M_looks 94 = .ok (.return_, 1) := by decide +kernel
theorem d_M_passes_0 : decode b_M_passes 0 = .ok (.aload_n 0, 1) := by decide +kernel
theorem d_M_passes_1 : decode b_M_passes 1 = .ok (.getfield 40, 3) := by decide +kernel
theorem d_M_passes_4 : decode b_M_passes 4 = .ok (.bipush 30, 2) := by decide +kernel
theorem d_M_passes_6 : decode b_M_passes 6 = .ok (.iload_n 1, 1) := by decide +kernel
theorem d_M_passes_7 : decode b_M_passes 7 = .ok (.imul, 1) := by decide +kernel
theorem d_M_passes_8 : decode b_M_passes 8 = .ok (.iload_n 2, 1) := by decide +kernel
theorem d_M_passes_9 : decode b_M_passes 9 = .ok (.iadd, 1) := by decide +kernel
theorem d_M_passes_10 : decode b_M_passes 10 = .ok (.baload, 1) := by decide +kernel
theorem d_M_passes_11 : decode b_M_passes 11 = .ok (.istore_n 3, 1) := by decide +kernel
theorem d_M_passes_12 : decode b_M_passes 12 = .ok (.iconst 0, 1) := by decide +kernel
theorem d_M_passes_13 : decode b_M_passes 13 = .ok (.istore 4, 2) := by decide +kernel
theorem d_M_passes_15 : decode b_M_passes 15 = .ok (.iload 4, 2) := by decide +kernel
theorem d_M_passes_17 : decode b_M_passes 17 = .ok (.aload_n 0, 1) := by decide +kernel
theorem d_M_passes_18 : decode b_M_passes 18 = .ok (.getfield 63, 3) := by decide +kernel
theorem d_M_passes_21 : decode b_M_passes 21 = .ok (.if_icmp .ge 157, 3) := by decide +kernel
theorem d_M_passes_24 : decode b_M_passes 24 = .ok (.aload_n 0, 1) := by decide +kernel
theorem d_M_passes_25 : decode b_M_passes 25 = .ok (.getfield 25, 3) := by decide +kernel
theorem d_M_passes_28 : decode b_M_passes 28 = .ok (.iload 4, 2) := by decide +kernel
theorem d_M_passes_30 : decode b_M_passes 30 = .ok (.iaload, 1) := by decide +kernel
theorem d_M_passes_31 : decode b_M_passes 31 = .ok (.iconst 1, 1) := by decide +kernel
theorem d_M_passes_32 : decode b_M_passes 32 = .ok (.if_icmp .eq 14, 3) := by decide +kernel
theorem d_M_passes_35 : decode b_M_passes 35 = .ok (.aload_n 0, 1) := by decide +kernel
theorem d_M_passes_36 : decode b_M_passes 36 = .ok (.getfield 28, 3) := by decide +kernel
theorem d_M_passes_39 : decode b_M_passes 39 = .ok (.iload 4, 2) := by decide +kernel
theorem d_M_passes_41 : decode b_M_passes 41 = .ok (.iaload, 1) := by decide +kernel
theorem d_M_passes_42 : decode b_M_passes 42 = .ok (.iconst 1, 1) := by decide +kernel
theorem d_M_passes_43 : decode b_M_passes 43 = .ok (.if_icmp .ne 7, 3) := by decide +kernel
theorem d_M_passes_46 : decode b_M_passes 46 = .ok (.iconst 1, 1) := by decide +kernel
theorem d_M_passes_47 : decode b_M_passes 47 = .ok (.goto 4, 3) := by decide +kernel
theorem d_M_passes_50 : decode b_M_passes 50 = .ok (.iconst 0, 1) := by decide +kernel
theorem d_M_passes_51 : decode b_M_passes 51 = .ok (.istore 5, 2) := by decide +kernel
theorem d_M_passes_53 : decode b_M_passes 53 = .ok (.aload_n 0, 1) := by decide +kernel
theorem d_M_passes_54 : decode b_M_passes 54 = .ok (.getfield 40, 3) := by decide +kernel
theorem d_M_passes_57 : decode b_M_passes 57 = .ok (.bipush 30, 2) := by decide +kernel
theorem d_M_passes_59 : decode b_M_passes 59 = .ok (.iload_n 1, 1) := by decide +kernel
theorem d_M_passes_60 : decode b_M_passes 60 = .ok (.imul, 1) := by decide +kernel
theorem d_M_passes_61 : decode b_M_passes 61 = .ok (.aload_n 0, 1) := by decide +kernel
theorem d_M_passes_62 : decode b_M_passes 62 = .ok (.getfield 19, 3) := by decide +kernel
theorem d_M_passes_65 : decode b_M_passes 65 = .ok (.iload 4, 2) := by decide +kernel
theorem d_M_passes_67 : decode b_M_passes 67 = .ok (.iaload, 1) := by decide +kernel
theorem d_M_passes_68 : decode b_M_passes 68 = .ok (.iadd, 1) := by decide +kernel
theorem d_M_passes_69 : decode b_M_passes 69 = .ok (.baload, 1) := by decide +kernel
theorem d_M_passes_70 : decode b_M_passes 70 = .ok (.ifCond .eq 27, 3) := by decide +kernel
theorem d_M_passes_73 : decode b_M_passes 73 = .ok (.aload_n 0, 1) := by decide +kernel
theorem d_M_passes_74 : decode b_M_passes 74 = .ok (.getfield 40, 3) := by decide +kernel
theorem d_M_passes_77 : decode b_M_passes 77 = .ok (.bipush 30, 2) := by decide +kernel
theorem d_M_passes_79 : decode b_M_passes 79 = .ok (.aload_n 0, 1) := by decide +kernel
theorem d_M_passes_80 : decode b_M_passes 80 = .ok (.getfield 22, 3) := by decide +kernel
theorem d_M_passes_83 : decode b_M_passes 83 = .ok (.iload 4, 2) := by decide +kernel
theorem d_M_passes_85 : decode b_M_passes 85 = .ok (.iaload, 1) := by decide +kernel
theorem d_M_passes_86 : decode b_M_passes 86 = .ok (.imul, 1) := by decide +kernel
theorem d_M_passes_87 : decode b_M_passes 87 = .ok (.iload_n 2, 1) := by decide +kernel
theorem d_M_passes_88 : decode b_M_passes 88 = .ok (.iadd, 1) := by decide +kernel
theorem d_M_passes_89 : decode b_M_passes 89 = .ok (.baload, 1) := by decide +kernel
theorem d_M_passes_90 : decode b_M_passes 90 = .ok (.ifCond .eq 7, 3) := by decide +kernel
theorem d_M_passes_93 : decode b_M_passes 93 = .ok (.iconst 1, 1) := by decide +kernel
theorem d_M_passes_94 : decode b_M_passes 94 = .ok (.goto 4, 3) := by decide +kernel
theorem d_M_passes_97 : decode b_M_passes 97 = .ok (.iconst 0, 1) := by decide +kernel
theorem d_M_passes_98 : decode b_M_passes 98 = .ok (.istore 6, 2) := by decide +kernel
theorem d_M_passes_100 : decode b_M_passes 100 = .ok (.aload_n 0, 1) := by decide +kernel
theorem d_M_passes_101 : decode b_M_passes 101 = .ok (.getfield 40, 3) := by decide +kernel
theorem d_M_passes_104 : decode b_M_passes 104 = .ok (.bipush 30, 2) := by decide +kernel
theorem d_M_passes_106 : decode b_M_passes 106 = .ok (.iload_n 1, 1) := by decide +kernel
theorem d_M_passes_107 : decode b_M_passes 107 = .ok (.imul, 1) := by decide +kernel
theorem d_M_passes_108 : decode b_M_passes 108 = .ok (.aload_n 0, 1) := by decide +kernel
theorem d_M_passes_109 : decode b_M_passes 109 = .ok (.getfield 22, 3) := by decide +kernel
theorem d_M_passes_112 : decode b_M_passes 112 = .ok (.iload 4, 2) := by decide +kernel
theorem d_M_passes_114 : decode b_M_passes 114 = .ok (.iaload, 1) := by decide +kernel
theorem d_M_passes_115 : decode b_M_passes 115 = .ok (.iadd, 1) := by decide +kernel
theorem d_M_passes_116 : decode b_M_passes 116 = .ok (.baload, 1) := by decide +kernel
theorem d_M_passes_117 : decode b_M_passes 117 = .ok (.ifCond .eq 27, 3) := by decide +kernel
theorem d_M_passes_120 : decode b_M_passes 120 = .ok (.aload_n 0, 1) := by decide +kernel
theorem d_M_passes_121 : decode b_M_passes 121 = .ok (.getfield 40, 3) := by decide +kernel
theorem d_M_passes_124 : decode b_M_passes 124 = .ok (.bipush 30, 2) := by decide +kernel
theorem d_M_passes_126 : decode b_M_passes 126 = .ok (.aload_n 0, 1) := by decide +kernel
theorem d_M_passes_127 : decode b_M_passes 127 = .ok (.getfield 19, 3) := by decide +kernel
theorem d_M_passes_130 : decode b_M_passes 130 = .ok (.iload 4, 2) := by decide +kernel
theorem d_M_passes_132 : decode b_M_passes 132 = .ok (.iaload, 1) := by decide +kernel
theorem d_M_passes_133 : decode b_M_passes 133 = .ok (.imul, 1) := by decide +kernel
theorem d_M_passes_134 : decode b_M_passes 134 = .ok (.iload_n 2, 1) := by decide +kernel
theorem d_M_passes_135 : decode b_M_passes 135 = .ok (.iadd, 1) := by decide +kernel
theorem d_M_passes_136 : decode b_M_passes 136 = .ok (.baload, 1) := by decide +kernel
theorem d_M_passes_137 : decode b_M_passes 137 = .ok (.ifCond .eq 7, 3) := by decide +kernel
theorem d_M_passes_140 : decode b_M_passes 140 = .ok (.iconst 1, 1) := by decide +kernel
theorem d_M_passes_141 : decode b_M_passes 141 = .ok (.goto 4, 3) := by decide +kernel
theorem d_M_passes_144 : decode b_M_passes 144 = .ok (.iconst 0, 1) := by decide +kernel
theorem d_M_passes_145 : decode b_M_passes 145 = .ok (.istore 7, 2) := by decide +kernel
theorem d_M_passes_147 : decode b_M_passes 147 = .ok (.iload_n 3, 1) := by decide +kernel
theorem d_M_passes_148 : decode b_M_passes 148 = .ok (.ifCond .ne 18, 3) := by decide +kernel
theorem d_M_passes_151 : decode b_M_passes 151 = .ok (.iload 5, 2) := by decide +kernel
theorem d_M_passes_153 : decode b_M_passes 153 = .ok (.ifCond .eq 17, 3) := by decide +kernel
theorem d_M_passes_156 : decode b_M_passes 156 = .ok (.iload 6, 2) := by decide +kernel
theorem d_M_passes_158 : decode b_M_passes 158 = .ok (.ifCond .ne 8, 3) := by decide +kernel
theorem d_M_passes_161 : decode b_M_passes 161 = .ok (.iload 7, 2) := by decide +kernel
theorem d_M_passes_163 : decode b_M_passes 163 = .ok (.ifCond .eq 7, 3) := by decide +kernel
theorem d_M_passes_166 : decode b_M_passes 166 = .ok (.iconst 1, 1) := by decide +kernel
theorem d_M_passes_167 : decode b_M_passes 167 = .ok (.goto 4, 3) := by decide +kernel
theorem d_M_passes_170 : decode b_M_passes 170 = .ok (.iconst 0, 1) := by decide +kernel
theorem d_M_passes_171 : decode b_M_passes 171 = .ok (.istore_n 3, 1) := by decide +kernel
theorem d_M_passes_172 : decode b_M_passes 172 = .ok (.iinc 4 1, 3) := by decide +kernel
theorem d_M_passes_175 : decode b_M_passes 175 = .ok (.goto (-160), 3) := by decide +kernel
theorem d_M_passes_178 : decode b_M_passes 178 = .ok (.iload_n 3, 1) := by decide +kernel
theorem d_M_passes_179 : decode b_M_passes 179 = .ok (.ireturn, 1) := by decide +kernel
theorem d_M_isSeen_0 : decode b_M_isSeen 0 = .ok (.aload_n 0, 1) := by decide +kernel
theorem d_M_isSeen_1 : decode b_M_isSeen 1 = .ok (.iload_n 1, 1) := by decide +kernel
theorem d_M_isSeen_2 : decode b_M_isSeen 2 = .ok (.invokevirtual 98, 3) := by decide +kernel
theorem d_M_isSeen_5 : decode b_M_isSeen 5 = .ok (.istore_n 3, 1) := by decide +kernel
theorem d_M_isSeen_6 : decode b_M_isSeen 6 = .ok (.aload_n 0, 1) := by decide +kernel
theorem d_M_isSeen_7 : decode b_M_isSeen 7 = .ok (.iload_n 2, 1) := by decide +kernel
theorem d_M_isSeen_8 : decode b_M_isSeen 8 = .ok (.invokevirtual 98, 3) := by decide +kernel
theorem d_M_isSeen_11 : decode b_M_isSeen 11 = .ok (.istore 4, 2) := by decide +kernel
theorem d_M_isSeen_13 : decode b_M_isSeen 13 = .ok (.iload_n 1, 1) := by decide +kernel
theorem d_M_isSeen_14 : decode b_M_isSeen 14 = .ok (.iload_n 2, 1) := by decide +kernel
theorem d_M_isSeen_15 : decode b_M_isSeen 15 = .ok (.if_icmp .eq 51, 3) := by decide +kernel
theorem d_M_isSeen_18 : decode b_M_isSeen 18 = .ok (.iload_n 3, 1) := by decide +kernel
theorem d_M_isSeen_19 : decode b_M_isSeen 19 = .ok (.iconst (-1), 1) := by decide +kernel
theorem d_M_isSeen_20 : decode b_M_isSeen 20 = .ok (.if_icmp .eq 46, 3) := by decide +kernel
theorem d_M_isSeen_23 : decode b_M_isSeen 23 = .ok (.iload 4, 2) := by decide +kernel
theorem d_M_isSeen_25 : decode b_M_isSeen 25 = .ok (.iconst (-1), 1) := by decide +kernel
theorem d_M_isSeen_26 : decode b_M_isSeen 26 = .ok (.if_icmp .eq 40, 3) := by decide +kernel
theorem d_M_isSeen_29 : decode b_M_isSeen 29 = .ok (.aload_n 0, 1) := by decide +kernel
theorem d_M_isSeen_30 : decode b_M_isSeen 30 = .ok (.getfield 16, 3) := by decide +kernel
theorem d_M_isSeen_33 : decode b_M_isSeen 33 = .ok (.iconst 4, 1) := by decide +kernel
theorem d_M_isSeen_34 : decode b_M_isSeen 34 = .ok (.iload_n 2, 1) := by decide +kernel
theorem d_M_isSeen_35 : decode b_M_isSeen 35 = .ok (.imul, 1) := by decide +kernel
theorem d_M_isSeen_36 : decode b_M_isSeen 36 = .ok (.iconst 2, 1) := by decide +kernel
theorem d_M_isSeen_37 : decode b_M_isSeen 37 = .ok (.iadd, 1) := by decide +kernel
theorem d_M_isSeen_38 : decode b_M_isSeen 38 = .ok (.iaload, 1) := by decide +kernel
theorem d_M_isSeen_39 : decode b_M_isSeen 39 = .ok (.ifCond .gt 13, 3) := by decide +kernel
theorem d_M_isSeen_42 : decode b_M_isSeen 42 = .ok (.aload_n 0, 1) := by decide +kernel
theorem d_M_isSeen_43 : decode b_M_isSeen 43 = .ok (.getfield 44, 3) := by decide +kernel
theorem d_M_isSeen_46 : decode b_M_isSeen 46 = .ok (.iload 4, 2) := by decide +kernel
theorem d_M_isSeen_48 : decode b_M_isSeen 48 = .ok (.baload, 1) := by decide +kernel
theorem d_M_isSeen_49 : decode b_M_isSeen 49 = .ok (.ifCond .eq 17, 3) := by decide +kernel
theorem d_M_isSeen_52 : decode b_M_isSeen 52 = .ok (.aload_n 0, 1) := by decide +kernel
theorem d_M_isSeen_53 : decode b_M_isSeen 53 = .ok (.iload_n 3, 1) := by decide +kernel
theorem d_M_isSeen_54 : decode b_M_isSeen 54 = .ok (.iload 4, 2) := by decide +kernel
theorem d_M_isSeen_56 : decode b_M_isSeen 56 = .ok (.invokevirtual 117, 3) := by decide +kernel
theorem d_M_isSeen_59 : decode b_M_isSeen 59 = .ok (.ifCond .eq 7, 3) := by decide +kernel
theorem d_M_isSeen_62 : decode b_M_isSeen 62 = .ok (.iconst 1, 1) := by decide +kernel
theorem d_M_isSeen_63 : decode b_M_isSeen 63 = .ok (.goto 4, 3) := by decide +kernel
theorem d_M_isSeen_66 : decode b_M_isSeen 66 = .ok (.iconst 0, 1) := by decide +kernel
theorem d_M_isSeen_67 : decode b_M_isSeen 67 = .ok (.ireturn, 1) := by decide +kernel
theorem d_M_sees_0 : decode b_M_sees 0 = .ok (.aload_n 0, 1) := by decide +kernel
theorem d_M_sees_1 : decode b_M_sees 1 = .ok (.iload_n 1, 1) := by decide +kernel
theorem d_M_sees_2 : decode b_M_sees 2 = .ok (.iconst 3, 1) := by decide +kernel
theorem d_M_sees_3 : decode b_M_sees 3 = .ok (.invokevirtual 59, 3) := by decide +kernel
theorem d_M_sees_6 : decode b_M_sees 6 = .ok (.ifCond .eq 11, 3) := by decide +kernel
theorem d_M_sees_9 : decode b_M_sees 9 = .ok (.aload_n 0, 1) := by decide +kernel
theorem d_M_sees_10 : decode b_M_sees 10 = .ok (.iload_n 2, 1) := by decide +kernel
theorem d_M_sees_11 : decode b_M_sees 11 = .ok (.invokevirtual 55, 3) := by decide +kernel
theorem d_M_sees_14 : decode b_M_sees 14 = .ok (.ifCond .ne 6, 3) := by decide +kernel
theorem d_M_sees_17 : decode b_M_sees 17 = .ok (.bipush (-2), 2) := by decide +kernel
theorem d_M_sees_19 : decode b_M_sees 19 = .ok (.ireturn, 1) := by decide +kernel
theorem d_M_sees_20 : decode b_M_sees 20 = .ok (.aload_n 0, 1) := by decide +kernel
theorem d_M_sees_21 : decode b_M_sees 21 = .ok (.invokevirtual 120, 3) := by decide +kernel
theorem d_M_sees_24 : decode b_M_sees 24 = .ok (.aload_n 0, 1) := by decide +kernel
theorem d_M_sees_25 : decode b_M_sees 25 = .ok (.iload_n 1, 1) := by decide +kernel
theorem d_M_sees_26 : decode b_M_sees 26 = .ok (.iload_n 2, 1) := by decide +kernel
theorem d_M_sees_27 : decode b_M_sees 27 = .ok (.invokevirtual 123, 3) := by decide +kernel
theorem d_M_sees_30 : decode b_M_sees 30 = .ok (.ifCond .eq 7, 3) := by decide +kernel
theorem d_M_sees_33 : decode b_M_sees 33 = .ok (.iconst 1, 1) := by decide +kernel
theorem d_M_sees_34 : decode b_M_sees 34 = .ok (.goto 4, 3) := by decide +kernel
theorem d_M_sees_37 : decode b_M_sees 37 = .ok (.iconst 0, 1) := by decide +kernel
theorem d_M_sees_38 : decode b_M_sees 38 = .ok (.ireturn, 1) := by decide +kernel
theorem d_M_barrier_0 : decode b_M_barrier 0 = .ok (.aload_n 0, 1) := by decide +kernel
theorem d_M_barrier_1 : decode b_M_barrier 1 = .ok (.iload_n 1, 1) := by decide +kernel
theorem d_M_barrier_2 : decode b_M_barrier 2 = .ok (.iconst 3, 1) := by decide +kernel
theorem d_M_barrier_3 : decode b_M_barrier 3 = .ok (.invokevirtual 59, 3) := by decide +kernel
theorem d_M_barrier_6 : decode b_M_barrier 6 = .ok (.ifCond .eq 11, 3) := by decide +kernel
theorem d_M_barrier_9 : decode b_M_barrier 9 = .ok (.aload_n 0, 1) := by decide +kernel
theorem d_M_barrier_10 : decode b_M_barrier 10 = .ok (.iload_n 2, 1) := by decide +kernel
theorem d_M_barrier_11 : decode b_M_barrier 11 = .ok (.invokevirtual 55, 3) := by decide +kernel
theorem d_M_barrier_14 : decode b_M_barrier 14 = .ok (.ifCond .ne 6, 3) := by decide +kernel
theorem d_M_barrier_17 : decode b_M_barrier 17 = .ok (.bipush (-2), 2) := by decide +kernel
theorem d_M_barrier_19 : decode b_M_barrier 19 = .ok (.ireturn, 1) := by decide +kernel
theorem d_M_barrier_20 : decode b_M_barrier 20 = .ok (.iload_n 1, 1) := by decide +kernel
theorem d_M_barrier_21 : decode b_M_barrier 21 = .ok (.iload_n 2, 1) := by decide +kernel
theorem d_M_barrier_22 : decode b_M_barrier 22 = .ok (.if_icmp .ne 5, 3) := by decide +kernel
theorem d_M_barrier_25 : decode b_M_barrier 25 = .ok (.iconst (-1), 1) := by decide +kernel
theorem d_M_barrier_26 : decode b_M_barrier 26 = .ok (.ireturn, 1) := by decide +kernel
theorem d_M_barrier_27 : decode b_M_barrier 27 = .ok (.aload_n 0, 1) := by decide +kernel
theorem d_M_barrier_28 : decode b_M_barrier 28 = .ok (.iload_n 1, 1) := by decide +kernel
theorem d_M_barrier_29 : decode b_M_barrier 29 = .ok (.iload_n 2, 1) := by decide +kernel
theorem d_M_barrier_30 : decode b_M_barrier 30 = .ok (.invokevirtual 88, 3) := by decide +kernel
theorem d_M_barrier_33 : decode b_M_barrier 33 = .ok (.ifCond .eq 10, 3) := by decide +kernel
theorem d_M_barrier_36 : decode b_M_barrier 36 = .ok (.aload_n 0, 1) := by decide +kernel
theorem d_M_barrier_37 : decode b_M_barrier 37 = .ok (.invokevirtual 91, 3) := by decide +kernel
theorem d_M_barrier_40 : decode b_M_barrier 40 = .ok (.goto 5, 3) := by decide +kernel
theorem d_M_barrier_43 : decode b_M_barrier 43 = .ok (.bipush (-5), 2) := by decide +kernel
theorem d_M_barrier_45 : decode b_M_barrier 45 = .ok (.ireturn, 1) := by decide +kernel
theorem d_M_scope_0 : decode b_M_scope 0 = .ok (.aload_n 0, 1) := by decide +kernel
theorem d_M_scope_1 : decode b_M_scope 1 = .ok (.iload_n 1, 1) := by decide +kernel
theorem d_M_scope_2 : decode b_M_scope 2 = .ok (.iconst 3, 1) := by decide +kernel
theorem d_M_scope_3 : decode b_M_scope 3 = .ok (.invokevirtual 59, 3) := by decide +kernel
theorem d_M_scope_6 : decode b_M_scope 6 = .ok (.ifCond .ne 6, 3) := by decide +kernel
theorem d_M_scope_9 : decode b_M_scope 9 = .ok (.bipush (-2), 2) := by decide +kernel
theorem d_M_scope_11 : decode b_M_scope 11 = .ok (.ireturn, 1) := by decide +kernel
theorem d_M_scope_12 : decode b_M_scope 12 = .ok (.aload_n 0, 1) := by decide +kernel
theorem d_M_scope_13 : decode b_M_scope 13 = .ok (.invokevirtual 120, 3) := by decide +kernel
theorem d_M_scope_16 : decode b_M_scope 16 = .ok (.iload_n 2, 1) := by decide +kernel
theorem d_M_scope_17 : decode b_M_scope 17 = .ok (.istore_n 3, 1) := by decide +kernel
theorem d_M_scope_18 : decode b_M_scope 18 = .ok (.iconst 0, 1) := by decide +kernel
theorem d_M_scope_19 : decode b_M_scope 19 = .ok (.istore 4, 2) := by decide +kernel
theorem d_M_scope_21 : decode b_M_scope 21 = .ok (.iload 4, 2) := by decide +kernel
theorem d_M_scope_23 : decode b_M_scope 23 = .ok (.aload_n 0, 1) := by decide +kernel
theorem d_M_scope_24 : decode b_M_scope 24 = .ok (.getfield 47, 3) := by decide +kernel
theorem d_M_scope_27 : decode b_M_scope 27 = .ok (.if_icmp .ge 49, 3) := by decide +kernel
theorem d_M_scope_30 : decode b_M_scope 30 = .ok (.iload_n 2, 1) := by decide +kernel
theorem d_M_scope_31 : decode b_M_scope 31 = .ok (.ifCond .lt 45, 3) := by decide +kernel
theorem d_M_scope_34 : decode b_M_scope 34 = .ok (.iload 4, 2) := by decide +kernel
theorem d_M_scope_36 : decode b_M_scope 36 = .ok (.iload_n 1, 1) := by decide +kernel
theorem d_M_scope_37 : decode b_M_scope 37 = .ok (.if_icmp .eq 33, 3) := by decide +kernel
theorem d_M_scope_40 : decode b_M_scope 40 = .ok (.aload_n 0, 1) := by decide +kernel
theorem d_M_scope_41 : decode b_M_scope 41 = .ok (.iload_n 1, 1) := by decide +kernel
theorem d_M_scope_42 : decode b_M_scope 42 = .ok (.iload 4, 2) := by decide +kernel
theorem d_M_scope_44 : decode b_M_scope 44 = .ok (.invokevirtual 123, 3) := by decide +kernel
theorem d_M_scope_47 : decode b_M_scope 47 = .ok (.ifCond .ne 13, 3) := by decide +kernel
theorem d_M_scope_50 : decode b_M_scope 50 = .ok (.aload_n 0, 1) := by decide +kernel
theorem d_M_scope_51 : decode b_M_scope 51 = .ok (.iload_n 1, 1) := by decide +kernel
theorem d_M_scope_52 : decode b_M_scope 52 = .ok (.iload 4, 2) := by decide +kernel
theorem d_M_scope_54 : decode b_M_scope 54 = .ok (.invokevirtual 126, 3) := by decide +kernel
theorem d_M_scope_57 : decode b_M_scope 57 = .ok (.ifCond .eq 13, 3) := by decide +kernel
theorem d_M_scope_60 : decode b_M_scope 60 = .ok (.iload_n 3, 1) := by decide +kernel
theorem d_M_scope_61 : decode b_M_scope 61 = .ok (.ifCond .ne 6, 3) := by decide +kernel
theorem d_M_scope_64 : decode b_M_scope 64 = .ok (.iload 4, 2) := by decide +kernel
theorem d_M_scope_66 : decode b_M_scope 66 = .ok (.ireturn, 1) := by decide +kernel
theorem d_M_scope_67 : decode b_M_scope 67 = .ok (.iinc 3 (-1), 3) := by decide +kernel
theorem d_M_scope_70 : decode b_M_scope 70 = .ok (.iinc 4 1, 3) := by decide +kernel
theorem d_M_scope_73 : decode b_M_scope 73 = .ok (.goto (-52), 3) := by decide +kernel
theorem d_M_scope_76 : decode b_M_scope 76 = .ok (.iconst (-1), 1) := by decide +kernel
theorem d_M_scope_77 : decode b_M_scope 77 = .ok (.ireturn, 1) := by decide +kernel
theorem d_M_hears_0 : decode b_M_hears 0 = .ok (.aload_n 0, 1) := by decide +kernel
theorem d_M_hears_1 : decode b_M_hears 1 = .ok (.iload_n 1, 1) := by decide +kernel
theorem d_M_hears_2 : decode b_M_hears 2 = .ok (.iconst 3, 1) := by decide +kernel
theorem d_M_hears_3 : decode b_M_hears 3 = .ok (.invokevirtual 59, 3) := by decide +kernel
theorem d_M_hears_6 : decode b_M_hears 6 = .ok (.ifCond .ne 6, 3) := by decide +kernel
theorem d_M_hears_9 : decode b_M_hears 9 = .ok (.bipush (-2), 2) := by decide +kernel
theorem d_M_hears_11 : decode b_M_hears 11 = .ok (.ireturn, 1) := by decide +kernel
theorem d_M_hears_12 : decode b_M_hears 12 = .ok (.aload_n 0, 1) := by decide +kernel
theorem d_M_hears_13 : decode b_M_hears 13 = .ok (.iload_n 1, 1) := by decide +kernel
theorem d_M_hears_14 : decode b_M_hears 14 = .ok (.invokevirtual 98, 3) := by decide +kernel
theorem d_M_hears_17 : decode b_M_hears 17 = .ok (.istore_n 2, 1) := by decide +kernel
theorem d_M_hears_18 : decode b_M_hears 18 = .ok (.iload_n 2, 1) := by decide +kernel
theorem d_M_hears_19 : decode b_M_hears 19 = .ok (.iconst (-1), 1) := by decide +kernel
theorem d_M_hears_20 : decode b_M_hears 20 = .ok (.if_icmp .ne 5, 3) := by decide +kernel
theorem d_M_hears_23 : decode b_M_hears 23 = .ok (.iconst (-1), 1) := by decide +kernel
theorem d_M_hears_24 : decode b_M_hears 24 = .ok (.ireturn, 1) := by decide +kernel
theorem d_M_hears_25 : decode b_M_hears 25 = .ok (.aload_n 0, 1) := by decide +kernel
theorem d_M_hears_26 : decode b_M_hears 26 = .ok (.iconst 1, 1) := by decide +kernel
theorem d_M_hears_27 : decode b_M_hears 27 = .ok (.iconst 1, 1) := by decide +kernel
theorem d_M_hears_28 : decode b_M_hears 28 = .ok (.invokevirtual 109, 3) := by decide +kernel
theorem d_M_hears_31 : decode b_M_hears 31 = .ok (.iconst (-1), 1) := by decide +kernel
theorem d_M_hears_32 : decode b_M_hears 32 = .ok (.istore_n 3, 1) := by decide +kernel
theorem d_M_hears_33 : decode b_M_hears 33 = .ok (.iconst 0, 1) := by decide +kernel
theorem d_M_hears_34 : decode b_M_hears 34 = .ok (.istore 4, 2) := by decide +kernel
theorem d_M_hears_36 : decode b_M_hears 36 = .ok (.iconst 0, 1) := by decide +kernel
theorem d_M_hears_37 : decode b_M_hears 37 = .ok (.istore 5, 2) := by decide +kernel
theorem d_M_hears_39 : decode b_M_hears 39 = .ok (.iload 5, 2) := by decide +kernel
theorem d_M_hears_41 : decode b_M_hears 41 = .ok (.aload_n 0, 1) := by decide +kernel
theorem d_M_hears_42 : decode b_M_hears 42 = .ok (.getfield 47, 3) := by decide +kernel
theorem d_M_hears_45 : decode b_M_hears 45 = .ok (.if_icmp .ge 105, 3) := by decide +kernel
theorem d_M_hears_48 : decode b_M_hears 48 = .ok (.aload_n 0, 1) := by decide +kernel
theorem d_M_hears_49 : decode b_M_hears 49 = .ok (.iload 5, 2) := by decide +kernel
theorem d_M_hears_51 : decode b_M_hears 51 = .ok (.invokevirtual 98, 3) := by decide +kernel
theorem d_M_hears_54 : decode b_M_hears 54 = .ok (.istore 6, 2) := by decide +kernel
theorem d_M_hears_56 : decode b_M_hears 56 = .ok (.iload 5, 2) := by decide +kernel
theorem d_M_hears_58 : decode b_M_hears 58 = .ok (.iload_n 1, 1) := by decide +kernel
theorem d_M_hears_59 : decode b_M_hears 59 = .ok (.if_icmp .eq 85, 3) := by decide +kernel
theorem d_M_hears_62 : decode b_M_hears 62 = .ok (.iload 6, 2) := by decide +kernel
theorem d_M_hears_64 : decode b_M_hears 64 = .ok (.iconst (-1), 1) := by decide +kernel
theorem d_M_hears_65 : decode b_M_hears 65 = .ok (.if_icmp .eq 79, 3) := by decide +kernel
theorem d_M_hears_68 : decode b_M_hears 68 = .ok (.aload_n 0, 1) := by decide +kernel
theorem d_M_hears_69 : decode b_M_hears 69 = .ok (.getfield 37, 3) := by decide +kernel
theorem d_M_hears_72 : decode b_M_hears 72 = .ok (.bipush 30, 2) := by decide +kernel
theorem d_M_hears_74 : decode b_M_hears 74 = .ok (.iload 6, 2) := by decide +kernel
theorem d_M_hears_76 : decode b_M_hears 76 = .ok (.imul, 1) := by decide +kernel
theorem d_M_hears_77 : decode b_M_hears 77 = .ok (.iload_n 2, 1) := by decide +kernel
theorem d_M_hears_78 : decode b_M_hears 78 = .ok (.iadd, 1) := by decide +kernel
theorem d_M_hears_79 : decode b_M_hears 79 = .ok (.iaload, 1) := by decide +kernel
theorem d_M_hears_80 : decode b_M_hears 80 = .ok (.sipush 1000, 3) := by decide +kernel
theorem d_M_hears_83 : decode b_M_hears 83 = .ok (.if_icmp .ge 61, 3) := by decide +kernel
theorem d_M_hears_86 : decode b_M_hears 86 = .ok (.aload_n 0, 1) := by decide +kernel
theorem d_M_hears_87 : decode b_M_hears 87 = .ok (.getfield 16, 3) := by decide +kernel
theorem d_M_hears_90 : decode b_M_hears 90 = .ok (.iconst 4, 1) := by decide +kernel
theorem d_M_hears_91 : decode b_M_hears 91 = .ok (.iload 5, 2) := by decide +kernel
theorem d_M_hears_93 : decode b_M_hears 93 = .ok (.imul, 1) := by decide +kernel
theorem d_M_hears_94 : decode b_M_hears 94 = .ok (.iconst 3, 1) := by decide +kernel
theorem d_M_hears_95 : decode b_M_hears 95 = .ok (.iadd, 1) := by decide +kernel
theorem d_M_hears_96 : decode b_M_hears 96 = .ok (.iaload, 1) := by decide +kernel
theorem d_M_hears_97 : decode b_M_hears 97 = .ok (.aload_n 0, 1) := by decide +kernel
theorem d_M_hears_98 : decode b_M_hears 98 = .ok (.getfield 37, 3) := by decide +kernel
theorem d_M_hears_101 : decode b_M_hears 101 = .ok (.bipush 30, 2) := by decide +kernel
theorem d_M_hears_103 : decode b_M_hears 103 = .ok (.iload 6, 2) := by decide +kernel
theorem d_M_hears_105 : decode b_M_hears 105 = .ok (.imul, 1) := by decide +kernel
theorem d_M_hears_106 : decode b_M_hears 106 = .ok (.iload_n 2, 1) := by decide +kernel
theorem d_M_hears_107 : decode b_M_hears 107 = .ok (.iadd, 1) := by decide +kernel
theorem d_M_hears_108 : decode b_M_hears 108 = .ok (.iaload, 1) := by decide +kernel
theorem d_M_hears_109 : decode b_M_hears 109 = .ok (.isub, 1) := by decide +kernel
theorem d_M_hears_110 : decode b_M_hears 110 = .ok (.iload 4, 2) := by decide +kernel
theorem d_M_hears_112 : decode b_M_hears 112 = .ok (.if_icmp .le 32, 3) := by decide +kernel
theorem d_M_hears_115 : decode b_M_hears 115 = .ok (.aload_n 0, 1) := by decide +kernel
theorem d_M_hears_116 : decode b_M_hears 116 = .ok (.getfield 16, 3) := by decide +kernel
theorem d_M_hears_119 : decode b_M_hears 119 = .ok (.iconst 4, 1) := by decide +kernel
theorem d_M_hears_120 : decode b_M_hears 120 = .ok (.iload 5, 2) := by decide +kernel
theorem d_M_hears_122 : decode b_M_hears 122 = .ok (.imul, 1) := by decide +kernel
theorem d_M_hears_123 : decode b_M_hears 123 = .ok (.iconst 3, 1) := by decide +kernel
theorem d_M_hears_124 : decode b_M_hears 124 = .ok (.iadd, 1) := by decide +kernel
theorem d_M_hears_125 : decode b_M_hears 125 = .ok (.iaload, 1) := by decide +kernel
theorem d_M_hears_126 : decode b_M_hears 126 = .ok (.aload_n 0, 1) := by decide +kernel
theorem d_M_hears_127 : decode b_M_hears 127 = .ok (.getfield 37, 3) := by decide +kernel
theorem d_M_hears_130 : decode b_M_hears 130 = .ok (.bipush 30, 2) := by decide +kernel
theorem d_M_hears_132 : decode b_M_hears 132 = .ok (.iload 6, 2) := by decide +kernel
theorem d_M_hears_134 : decode b_M_hears 134 = .ok (.imul, 1) := by decide +kernel
theorem d_M_hears_135 : decode b_M_hears 135 = .ok (.iload_n 2, 1) := by decide +kernel
theorem d_M_hears_136 : decode b_M_hears 136 = .ok (.iadd, 1) := by decide +kernel
theorem d_M_hears_137 : decode b_M_hears 137 = .ok (.iaload, 1) := by decide +kernel
theorem d_M_hears_138 : decode b_M_hears 138 = .ok (.isub, 1) := by decide +kernel
theorem d_M_hears_139 : decode b_M_hears 139 = .ok (.istore 4, 2) := by decide +kernel
theorem d_M_hears_141 : decode b_M_hears 141 = .ok (.iload 5, 2) := by decide +kernel
theorem d_M_hears_143 : decode b_M_hears 143 = .ok (.istore_n 3, 1) := by decide +kernel
theorem d_M_hears_144 : decode b_M_hears 144 = .ok (.iinc 5 1, 3) := by decide +kernel
theorem d_M_hears_147 : decode b_M_hears 147 = .ok (.goto (-108), 3) := by decide +kernel
theorem d_M_hears_150 : decode b_M_hears 150 = .ok (.iload_n 3, 1) := by decide +kernel
theorem d_M_hears_151 : decode b_M_hears 151 = .ok (.ireturn, 1) := by decide +kernel
