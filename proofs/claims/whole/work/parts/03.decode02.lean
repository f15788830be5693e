theorem dX4_beepIn_70 : decode cX4_beepIn 70 = .ok (.if_icmp .lt 10, 3) := by decide +kernel
theorem dX4_beepIn_73 : decode cX4_beepIn 73 = .ok (.iload 6, 2) := by decide +kernel
theorem dX4_beepIn_75 : decode cX4_beepIn 75 = .ok (.istore 4, 2) := by decide +kernel
theorem dX4_beepIn_77 : decode cX4_beepIn 77 = .ok (.iload 5, 2) := by decide +kernel
theorem dX4_beepIn_79 : decode cX4_beepIn 79 = .ok (.istore_n 3, 1) := by decide +kernel
theorem dX4_beepIn_80 : decode cX4_beepIn 80 = .ok (.iinc 5 1, 3) := by decide +kernel
theorem dX4_beepIn_83 : decode cX4_beepIn 83 = .ok (.goto (-75), 3) := by decide +kernel
theorem dX4_beepIn_86 : decode cX4_beepIn 86 = .ok (.iload_n 3, 1) := by decide +kernel
theorem dX4_beepIn_87 : decode cX4_beepIn 87 = .ok (.ireturn, 1) := by decide +kernel
theorem dX4_dugIfHeard_0 : decode cX4_dugIfHeard 0 = .ok (.iconst 0, 1) := by decide +kernel
theorem dX4_dugIfHeard_1 : decode cX4_dugIfHeard 1 = .ok (.istore_n 2, 1) := by decide +kernel
theorem dX4_dugIfHeard_2 : decode cX4_dugIfHeard 2 = .ok (.iconst 0, 1) := by decide +kernel
theorem dX4_dugIfHeard_3 : decode cX4_dugIfHeard 3 = .ok (.istore_n 3, 1) := by decide +kernel
theorem dX4_dugIfHeard_4 : decode cX4_dugIfHeard 4 = .ok (.iload_n 3, 1) := by decide +kernel
theorem dX4_dugIfHeard_5 : decode cX4_dugIfHeard 5 = .ok (.aload_n 1, 1) := by decide +kernel
theorem dX4_dugIfHeard_6 : decode cX4_dugIfHeard 6 = .ok (.getfield 49, 3) := by decide +kernel
theorem dX4_dugIfHeard_9 : decode cX4_dugIfHeard 9 = .ok (.if_icmp .ge 65, 3) := by decide +kernel
theorem dX4_dugIfHeard_12 : decode cX4_dugIfHeard 12 = .ok (.aload_n 1, 1) := by decide +kernel
theorem dX4_dugIfHeard_13 : decode cX4_dugIfHeard 13 = .ok (.iload_n 3, 1) := by decide +kernel
theorem dX4_dugIfHeard_14 : decode cX4_dugIfHeard 14 = .ok (.invokevirtual 26, 3) := by decide +kernel
theorem dX4_dugIfHeard_17 : decode cX4_dugIfHeard 17 = .ok (.ifCond .ne 6, 3) := by decide +kernel
theorem dX4_dugIfHeard_20 : decode cX4_dugIfHeard 20 = .ok (.goto 48, 3) := by decide +kernel
theorem dX4_dugIfHeard_23 : decode cX4_dugIfHeard 23 = .ok (.aload_n 1, 1) := by decide +kernel
theorem dX4_dugIfHeard_24 : decode cX4_dugIfHeard 24 = .ok (.iload_n 3, 1) := by decide +kernel
theorem dX4_dugIfHeard_25 : decode cX4_dugIfHeard 25 = .ok (.invokevirtual 36, 3) := by decide +kernel
theorem dX4_dugIfHeard_28 : decode cX4_dugIfHeard 28 = .ok (.istore 4, 2) := by decide +kernel
theorem dX4_dugIfHeard_30 : decode cX4_dugIfHeard 30 = .ok (.iload 4, 2) := by decide +kernel
theorem dX4_dugIfHeard_32 : decode cX4_dugIfHeard 32 = .ok (.aload_n 0, 1) := by decide +kernel
theorem dX4_dugIfHeard_33 : decode cX4_dugIfHeard 33 = .ok (.getfield 15, 3) := by decide +kernel
theorem dX4_dugIfHeard_36 : decode cX4_dugIfHeard 36 = .ok (.iconst 1, 1) := by decide +kernel
theorem dX4_dugIfHeard_37 : decode cX4_dugIfHeard 37 = .ok (.aload_n 1, 1) := by decide +kernel
theorem dX4_dugIfHeard_38 : decode cX4_dugIfHeard 38 = .ok (.iload_n 3, 1) := by decide +kernel
theorem dX4_dugIfHeard_39 : decode cX4_dugIfHeard 39 = .ok (.iload 4, 2) := by decide +kernel
theorem dX4_dugIfHeard_41 : decode cX4_dugIfHeard 41 = .ok (.invokevirtual 40, 3) := by decide +kernel
theorem dX4_dugIfHeard_44 : decode cX4_dugIfHeard 44 = .ok (.if_icmp .lt 24, 3) := by decide +kernel
theorem dX4_dugIfHeard_47 : decode cX4_dugIfHeard 47 = .ok (.aload_n 0, 1) := by decide +kernel
theorem dX4_dugIfHeard_48 : decode cX4_dugIfHeard 48 = .ok (.getfield 15, 3) := by decide +kernel
theorem dX4_dugIfHeard_51 : decode cX4_dugIfHeard 51 = .ok (.iconst 0, 1) := by decide +kernel
theorem dX4_dugIfHeard_52 : decode cX4_dugIfHeard 52 = .ok (.aload_n 1, 1) := by decide +kernel
theorem dX4_dugIfHeard_53 : decode cX4_dugIfHeard 53 = .ok (.iload_n 3, 1) := by decide +kernel
theorem dX4_dugIfHeard_54 : decode cX4_dugIfHeard 54 = .ok (.iload 4, 2) := by decide +kernel
theorem dX4_dugIfHeard_56 : decode cX4_dugIfHeard 56 = .ok (.invokevirtual 40, 3) := by decide +kernel
theorem dX4_dugIfHeard_59 : decode cX4_dugIfHeard 59 = .ok (.ifCond .eq 9, 3) := by decide +kernel
theorem dX4_dugIfHeard_62 : decode cX4_dugIfHeard 62 = .ok (.iload_n 2, 1) := by decide +kernel
theorem dX4_dugIfHeard_63 : decode cX4_dugIfHeard 63 = .ok (.iconst 1, 1) := by decide +kernel
theorem dX4_dugIfHeard_64 : decode cX4_dugIfHeard 64 = .ok (.iload_n 3, 1) := by decide +kernel
theorem dX4_dugIfHeard_65 : decode cX4_dugIfHeard 65 = .ok (.ishl, 1) := by decide +kernel
theorem dX4_dugIfHeard_66 : decode cX4_dugIfHeard 66 = .ok (.ior, 1) := by decide +kernel
theorem dX4_dugIfHeard_67 : decode cX4_dugIfHeard 67 = .ok (.istore_n 2, 1) := by decide +kernel
theorem dX4_dugIfHeard_68 : decode cX4_dugIfHeard 68 = .ok (.iinc 3 1, 3) := by decide +kernel
theorem dX4_dugIfHeard_71 : decode cX4_dugIfHeard 71 = .ok (.goto (-67), 3) := by decide +kernel
theorem dX4_dugIfHeard_74 : decode cX4_dugIfHeard 74 = .ok (.iload_n 2, 1) := by decide +kernel
theorem dX4_dugIfHeard_75 : decode cX4_dugIfHeard 75 = .ok (.ireturn, 1) := by decide +kernel
theorem dX5_init_0 : decode cX5_init 0 = .ok (.aload_n 0, 1) := by decide +kernel
theorem dX5_init_1 : decode cX5_init 1 = .ok (.invokespecial 3, 3) := by decide +kernel
theorem dX5_init_4 : decode cX5_init 4 = .ok (.aload_n 0, 1) := by decide +kernel
theorem dX5_init_5 : decode cX5_init 5 = .ok (.new 9, 3) := by decide +kernel
theorem dX5_init_8 : decode cX5_init 8 = .ok (.dup, 1) := by decide +kernel
theorem dX5_init_9 : decode cX5_init 9 = .ok (.invokespecial 11, 3) := by decide +kernel
theorem dX5_init_12 : decode cX5_init 12 = .ok (.putfield 12, 3) := by decide +kernel
theorem dX5_init_15 : decode cX5_init 15 = .ok (.aload_n 0, 1) := by decide +kernel
theorem dX5_init_16 : decode cX5_init 16 = .ok (.new 9, 3) := by decide +kernel
theorem dX5_init_19 : decode cX5_init 19 = .ok (.dup, 1) := by decide +kernel
theorem dX5_init_20 : decode cX5_init 20 = .ok (.invokespecial 11, 3) := by decide +kernel
theorem dX5_init_23 : decode cX5_init 23 = .ok (.putfield 16, 3) := by decide +kernel
theorem dX5_init_26 : decode cX5_init 26 = .ok (.aload_n 0, 1) := by decide +kernel
theorem dX5_init_27 : decode cX5_init 27 = .ok (.new 9, 3) := by decide +kernel
theorem dX5_init_30 : decode cX5_init 30 = .ok (.dup, 1) := by decide +kernel
theorem dX5_init_31 : decode cX5_init 31 = .ok (.invokespecial 11, 3) := by decide +kernel
theorem dX5_init_34 : decode cX5_init 34 = .ok (.putfield 19, 3) := by decide +kernel
theorem dX5_init_37 : decode cX5_init 37 = .ok (.aload_n 0, 1) := by decide +kernel
theorem dX5_init_38 : decode cX5_init 38 = .ok (.new 9, 3) := by decide +kernel
theorem dX5_init_41 : decode cX5_init 41 = .ok (.dup, 1) := by decide +kernel
theorem dX5_init_42 : decode cX5_init 42 = .ok (.invokespecial 11, 3) := by decide +kernel
theorem dX5_init_45 : decode cX5_init 45 = .ok (.putfield 22, 3) := by decide +kernel
theorem dX5_init_48 : decode cX5_init 48 = .ok (.aload_n 0, 1) := by decide +kernel
theorem dX5_init_49 : decode cX5_init 49 = .ok (.new 25, 3) := by decide +kernel
theorem dX5_init_52 : decode cX5_init 52 = .ok (.dup, 1) := by decide +kernel
theorem dX5_init_53 : decode cX5_init 53 = .ok (.invokespecial 27, 3) := by decide +kernel
theorem dX5_init_56 : decode cX5_init 56 = .ok (.putfield 28, 3) := by decide +kernel
theorem dX5_init_59 : decode cX5_init 59 = .ok (.aload_n 0, 1) := by decide +kernel
theorem dX5_init_60 : decode cX5_init 60 = .ok (.new 32, 3) := by decide +kernel
theorem dX5_init_63 : decode cX5_init 63 = .ok (.dup, 1) := by decide +kernel
theorem dX5_init_64 : decode cX5_init 64 = .ok (.aload_n 0, 1) := by decide +kernel
theorem dX5_init_65 : decode cX5_init 65 = .ok (.getfield 28, 3) := by decide +kernel
theorem dX5_init_68 : decode cX5_init 68 = .ok (.invokespecial 34, 3) := by decide +kernel
theorem dX5_init_71 : decode cX5_init 71 = .ok (.putfield 37, 3) := by decide +kernel
theorem dX5_init_74 : decode cX5_init 74 = .ok (.aload_n 0, 1) := by decide +kernel
theorem dX5_init_75 : decode cX5_init 75 = .ok (.new 41, 3) := by decide +kernel
theorem dX5_init_78 : decode cX5_init 78 = .ok (.dup, 1) := by decide +kernel
theorem dX5_init_79 : decode cX5_init 79 = .ok (.aload_n 0, 1) := by decide +kernel
theorem dX5_init_80 : decode cX5_init 80 = .ok (.getfield 28, 3) := by decide +kernel
theorem dX5_init_83 : decode cX5_init 83 = .ok (.invokespecial 43, 3) := by decide +kernel
theorem dX5_init_86 : decode cX5_init 86 = .ok (.putfield 44, 3) := by decide +kernel
theorem dX5_init_89 : decode cX5_init 89 = .ok (.aload_n 0, 1) := by decide +kernel
theorem dX5_init_90 : decode cX5_init 90 = .ok (.new 48, 3) := by decide +kernel
theorem dX5_init_93 : decode cX5_init 93 = .ok (.dup, 1) := by decide +kernel
theorem dX5_init_94 : decode cX5_init 94 = .ok (.invokespecial 50, 3) := by decide +kernel
theorem dX5_init_97 : decode cX5_init 97 = .ok (.putfield 51, 3) := by decide +kernel
theorem dX5_init_100 : decode cX5_init 100 = .ok (.aload_n 0, 1) := by decide +kernel
theorem dX5_init_101 : decode cX5_init 101 = .ok (.iconst 0, 1) := by decide +kernel
theorem dX5_init_102 : decode cX5_init 102 = .ok (.putfield 55, 3) := by decide +kernel
theorem dX5_init_105 : decode cX5_init 105 = .ok (.return_, 1) := by decide +kernel
theorem dX5_find_0 : decode cX5_find 0 = .ok (.iload_n 1, 1) := by decide +kernel
theorem dX5_find_1 : decode cX5_find 1 = .ok (.iconst 0, 1) := by decide +kernel
theorem dX5_find_2 : decode cX5_find 2 = .ok (.iconst 5, 1) := by decide +kernel
theorem dX5_find_3 : decode cX5_find 3 = .ok (.invokestatic 59, 3) := by decide +kernel
theorem dX5_find_6 : decode cX5_find 6 = .ok (.ifCond .eq 14, 3) := by decide +kernel
theorem dX5_find_9 : decode cX5_find 9 = .ok (.iload_n 2, 1) := by decide +kernel
theorem dX5_find_10 : decode cX5_find 10 = .ok (.invokestatic 63, 3) := by decide +kernel
theorem dX5_find_13 : decode cX5_find 13 = .ok (.ifCond .eq 7, 3) := by decide +kernel
theorem dX5_find_16 : decode cX5_find 16 = .ok (.iload_n 3, 1) := by decide +kernel
theorem dX5_find_17 : decode cX5_find 17 = .ok (.ifCond .ge 6, 3) := by decide +kernel
theorem dX5_find_20 : decode cX5_find 20 = .ok (.bipush (-2), 2) := by decide +kernel
theorem dX5_find_22 : decode cX5_find 22 = .ok (.ireturn, 1) := by decide +kernel
theorem dX5_find_23 : decode cX5_find 23 = .ok (.iload_n 3, 1) := by decide +kernel
theorem dX5_find_24 : decode cX5_find 24 = .ok (.bipush 10, 2) := by decide +kernel
theorem dX5_find_26 : decode cX5_find 26 = .ok (.idiv, 1) := by decide +kernel
theorem dX5_find_27 : decode cX5_find 27 = .ok (.istore 4, 2) := by decide +kernel
theorem dX5_find_29 : decode cX5_find 29 = .ok (.iload_n 3, 1) := by decide +kernel
theorem dX5_find_30 : decode cX5_find 30 = .ok (.bipush 10, 2) := by decide +kernel
theorem dX5_find_32 : decode cX5_find 32 = .ok (.irem, 1) := by decide +kernel
theorem dX5_find_33 : decode cX5_find 33 = .ok (.istore 5, 2) := by decide +kernel
theorem dX5_find_35 : decode cX5_find 35 = .ok (.iload 4, 2) := by decide +kernel
theorem dX5_find_37 : decode cX5_find 37 = .ok (.bipush 20, 2) := by decide +kernel
theorem dX5_find_39 : decode cX5_find 39 = .ok (.if_icmp .gt 8, 3) := by decide +kernel
theorem dX5_find_42 : decode cX5_find 42 = .ok (.iload 5, 2) := by decide +kernel
theorem dX5_find_44 : decode cX5_find 44 = .ok (.ifCond .ne 6, 3) := by decide +kernel
theorem dX5_find_47 : decode cX5_find 47 = .ok (.bipush (-2), 2) := by decide +kernel
theorem dX5_find_49 : decode cX5_find 49 = .ok (.ireturn, 1) := by decide +kernel
theorem dX5_find_50 : decode cX5_find 50 = .ok (.aload_n 0, 1) := by decide +kernel
theorem dX5_find_51 : decode cX5_find 51 = .ok (.getfield 12, 3) := by decide +kernel
theorem dX5_find_54 : decode cX5_find 54 = .ok (.iload_n 1, 1) := by decide +kernel
theorem dX5_find_55 : decode cX5_find 55 = .ok (.iload_n 2, 1) := by decide +kernel
theorem dX5_find_56 : decode cX5_find 56 = .ok (.iload 4, 2) := by decide +kernel
theorem dX5_find_58 : decode cX5_find 58 = .ok (.iload 5, 2) := by decide +kernel
theorem dX5_find_60 : decode cX5_find 60 = .ok (.invokevirtual 67, 3) := by decide +kernel
theorem dX5_find_63 : decode cX5_find 63 = .ok (.ireturn, 1) := by decide +kernel
theorem dX5_set_0 : decode cX5_set 0 = .ok (.iload_n 1, 1) := by decide +kernel
theorem dX5_set_1 : decode cX5_set 1 = .ok (.tableswitch 107 0 4 #[35, 41, 47, 65, 86], 35) := by decide +kernel
theorem dX5_set_36 : decode cX5_set 36 = .ok (.aload_n 0, 1) := by decide +kernel
theorem dX5_set_37 : decode cX5_set 37 = .ok (.iload_n 3, 1) := by decide +kernel
theorem dX5_set_38 : decode cX5_set 38 = .ok (.invokevirtual 71, 3) := by decide +kernel
theorem dX5_set_41 : decode cX5_set 41 = .ok (.ireturn, 1) := by decide +kernel
theorem dX5_set_42 : decode cX5_set 42 = .ok (.aload_n 0, 1) := by decide +kernel
theorem dX5_set_43 : decode cX5_set 43 = .ok (.iload_n 3, 1) := by decide +kernel
theorem dX5_set_44 : decode cX5_set 44 = .ok (.invokevirtual 75, 3) := by decide +kernel
theorem dX5_set_47 : decode cX5_set 47 = .ok (.ireturn, 1) := by decide +kernel
theorem dX5_set_48 : decode cX5_set 48 = .ok (.aload_n 0, 1) := by decide +kernel
theorem dX5_set_49 : decode cX5_set 49 = .ok (.aload_n 0, 1) := by decide +kernel
theorem dX5_set_50 : decode cX5_set 50 = .ok (.getfield 12, 3) := by decide +kernel
theorem dX5_set_53 : decode cX5_set 53 = .ok (.getfield 78, 3) := by decide +kernel
theorem dX5_set_56 : decode cX5_set 56 = .ok (.iload_n 2, 1) := by decide +kernel
theorem dX5_set_57 : decode cX5_set 57 = .ok (.iload_n 3, 1) := by decide +kernel
theorem dX5_set_58 : decode cX5_set 58 = .ok (.iload_n 3, 1) := by decide +kernel
theorem dX5_set_59 : decode cX5_set 59 = .ok (.invokestatic 63, 3) := by decide +kernel
theorem dX5_set_62 : decode cX5_set 62 = .ok (.invokevirtual 82, 3) := by decide +kernel
theorem dX5_set_65 : decode cX5_set 65 = .ok (.ireturn, 1) := by decide +kernel
theorem dX5_set_66 : decode cX5_set 66 = .ok (.aload_n 0, 1) := by decide +kernel
theorem dX5_set_67 : decode cX5_set 67 = .ok (.aload_n 0, 1) := by decide +kernel
theorem dX5_set_68 : decode cX5_set 68 = .ok (.getfield 12, 3) := by decide +kernel
theorem dX5_set_71 : decode cX5_set 71 = .ok (.getfield 86, 3) := by decide +kernel
theorem dX5_set_74 : decode cX5_set 74 = .ok (.iload_n 2, 1) := by decide +kernel
theorem dX5_set_75 : decode cX5_set 75 = .ok (.iload_n 3, 1) := by decide +kernel
theorem dX5_set_76 : decode cX5_set 76 = .ok (.iload_n 3, 1) := by decide +kernel
theorem dX5_set_77 : decode cX5_set 77 = .ok (.iconst 0, 1) := by decide +kernel
theorem dX5_set_78 : decode cX5_set 78 = .ok (.bipush 20, 2) := by decide +kernel
theorem dX5_set_80 : decode cX5_set 80 = .ok (.invokestatic 59, 3) := by decide +kernel
theorem dX5_set_83 : decode cX5_set 83 = .ok (.invokevirtual 82, 3) := by decide +kernel
theorem dX5_set_86 : decode cX5_set 86 = .ok (.ireturn, 1) := by decide +kernel
theorem dX5_set_87 : decode cX5_set 87 = .ok (.aload_n 0, 1) := by decide +kernel
theorem dX5_set_88 : decode cX5_set 88 = .ok (.aload_n 0, 1) := by decide +kernel
theorem dX5_set_89 : decode cX5_set 89 = .ok (.getfield 12, 3) := by decide +kernel
theorem dX5_set_92 : decode cX5_set 92 = .ok (.getfield 89, 3) := by decide +kernel
theorem dX5_set_95 : decode cX5_set 95 = .ok (.iload_n 2, 1) := by decide +kernel
theorem dX5_set_96 : decode cX5_set 96 = .ok (.iload_n 3, 1) := by decide +kernel
theorem dX5_set_97 : decode cX5_set 97 = .ok (.iload_n 3, 1) := by decide +kernel
theorem dX5_set_98 : decode cX5_set 98 = .ok (.iconst 1, 1) := by decide +kernel
theorem dX5_set_99 : decode cX5_set 99 = .ok (.bipush 9, 2) := by decide +kernel
theorem dX5_set_101 : decode cX5_set 101 = .ok (.invokestatic 59, 3) := by decide +kernel
theorem dX5_set_104 : decode cX5_set 104 = .ok (.invokevirtual 82, 3) := by decide +kernel
theorem dX5_set_107 : decode cX5_set 107 = .ok (.ireturn, 1) := by decide +kernel
theorem dX5_set_108 : decode cX5_set 108 = .ok (.bipush (-2), 2) := by decide +kernel
theorem dX5_set_110 : decode cX5_set 110 = .ok (.ireturn, 1) := by decide +kernel
theorem dX5_changeWet_0 : decode cX5_changeWet 0 = .ok (.iload_n 1, 1) := by decide +kernel
theorem dX5_changeWet_1 : decode cX5_changeWet 1 = .ok (.iconst 0, 1) := by decide +kernel
theorem dX5_changeWet_2 : decode cX5_changeWet 2 = .ok (.bipush 9, 2) := by decide +kernel
theorem dX5_changeWet_4 : decode cX5_changeWet 4 = .ok (.invokestatic 59, 3) := by decide +kernel
theorem dX5_changeWet_7 : decode cX5_changeWet 7 = .ok (.ifCond .ne 6, 3) := by decide +kernel
theorem dX5_changeWet_10 : decode cX5_changeWet 10 = .ok (.bipush (-2), 2) := by decide +kernel
theorem dX5_changeWet_12 : decode cX5_changeWet 12 = .ok (.ireturn, 1) := by decide +kernel
theorem dX5_changeWet_13 : decode cX5_changeWet 13 = .ok (.aload_n 0, 1) := by decide +kernel
theorem dX5_changeWet_14 : decode cX5_changeWet 14 = .ok (.getfield 12, 3) := by decide +kernel
theorem dX5_changeWet_17 : decode cX5_changeWet 17 = .ok (.getfield 92, 3) := by decide +kernel
theorem dX5_changeWet_20 : decode cX5_changeWet 20 = .ok (.istore_n 2, 1) := by decide +kernel
theorem dX5_changeWet_21 : decode cX5_changeWet 21 = .ok (.aload_n 0, 1) := by decide +kernel
theorem dX5_changeWet_22 : decode cX5_changeWet 22 = .ok (.getfield 12, 3) := by decide +kernel
theorem dX5_changeWet_25 : decode cX5_changeWet 25 = .ok (.iload_n 1, 1) := by decide +kernel
theorem dX5_changeWet_26 : decode cX5_changeWet 26 = .ok (.putfield 92, 3) := by decide +kernel
theorem dX5_changeWet_29 : decode cX5_changeWet 29 = .ok (.iload_n 2, 1) := by decide +kernel
theorem dX5_changeWet_30 : decode cX5_changeWet 30 = .ok (.ireturn, 1) := by decide +kernel
theorem dX5_changePlate_0 : decode cX5_changePlate 0 = .ok (.iload_n 1, 1) := by decide +kernel
theorem dX5_changePlate_1 : decode cX5_changePlate 1 = .ok (.iconst 1, 1) := by decide +kernel
theorem dX5_changePlate_2 : decode cX5_changePlate 2 = .ok (.bipush 9, 2) := by decide +kernel
theorem dX5_changePlate_4 : decode cX5_changePlate 4 = .ok (.invokestatic 59, 3) := by decide +kernel
theorem dX5_changePlate_7 : decode cX5_changePlate 7 = .ok (.ifCond .ne 6, 3) := by decide +kernel
theorem dX5_changePlate_10 : decode cX5_changePlate 10 = .ok (.bipush (-2), 2) := by decide +kernel
theorem dX5_changePlate_12 : decode cX5_changePlate 12 = .ok (.ireturn, 1) := by decide +kernel
theorem dX5_changePlate_13 : decode cX5_changePlate 13 = .ok (.aload_n 0, 1) := by decide +kernel
theorem dX5_changePlate_14 : decode cX5_changePlate 14 = .ok (.getfield 12, 3) := by decide +kernel
theorem dX5_changePlate_17 : decode cX5_changePlate 17 = .ok (.getfield 96, 3) := by decide +kernel
theorem dX5_changePlate_20 : decode cX5_changePlate 20 = .ok (.istore_n 2, 1) := by decide +kernel
theorem dX5_changePlate_21 : decode cX5_changePlate 21 = .ok (.aload_n 0, 1) := by decide +kernel
theorem dX5_changePlate_22 : decode cX5_changePlate 22 = .ok (.getfield 12, 3) := by decide +kernel
theorem dX5_changePlate_25 : decode cX5_changePlate 25 = .ok (.iload_n 1, 1) := by decide +kernel
theorem dX5_changePlate_26 : decode cX5_changePlate 26 = .ok (.putfield 96, 3) := by decide +kernel
theorem dX5_changePlate_29 : decode cX5_changePlate 29 = .ok (.iload_n 2, 1) := by decide +kernel
theorem dX5_changePlate_30 : decode cX5_changePlate 30 = .ok (.ireturn, 1) := by decide +kernel
theorem dX5_changeFind_0 : decode cX5_changeFind 0 = .ok (.iload 4, 2) := by decide +kernel
theorem dX5_changeFind_2 : decode cX5_changeFind 2 = .ok (.ifCond .eq 20, 3) := by decide +kernel
theorem dX5_changeFind_5 : decode cX5_changeFind 5 = .ok (.aload_n 0, 1) := by decide +kernel
theorem dX5_changeFind_6 : decode cX5_changeFind 6 = .ok (.getfield 12, 3) := by decide +kernel
theorem dX5_changeFind_9 : decode cX5_changeFind 9 = .ok (.iload_n 2, 1) := by decide +kernel
theorem dX5_changeFind_10 : decode cX5_changeFind 10 = .ok (.invokevirtual 99, 3) := by decide +kernel
theorem dX5_changeFind_13 : decode cX5_changeFind 13 = .ok (.ifCond .eq 9, 3) := by decide +kernel
theorem dX5_changeFind_16 : decode cX5_changeFind 16 = .ok (.iload_n 2, 1) := by decide +kernel
theorem dX5_changeFind_17 : decode cX5_changeFind 17 = .ok (.aload_n 1, 1) := by decide +kernel
theorem dX5_changeFind_18 : decode cX5_changeFind 18 = .ok (.arraylength, 1) := by decide +kernel
theorem dX5_changeFind_19 : decode cX5_changeFind 19 = .ok (.if_icmp .lt 6, 3) := by decide +kernel
theorem dX5_changeFind_22 : decode cX5_changeFind 22 = .ok (.bipush (-2), 2) := by decide +kernel
theorem dX5_changeFind_24 : decode cX5_changeFind 24 = .ok (.ireturn, 1) := by decide +kernel
theorem dX5_changeFind_25 : decode cX5_changeFind 25 = .ok (.aload_n 0, 1) := by decide +kernel
theorem dX5_changeFind_26 : decode cX5_changeFind 26 = .ok (.getfield 12, 3) := by decide +kernel
theorem dX5_changeFind_29 : decode cX5_changeFind 29 = .ok (.iload_n 2, 1) := by decide +kernel
theorem dX5_changeFind_30 : decode cX5_changeFind 30 = .ok (.invokevirtual 102, 3) := by decide +kernel
theorem dX5_changeFind_33 : decode cX5_changeFind 33 = .ok (.ifCond .ne 6, 3) := by decide +kernel
theorem dX5_changeFind_36 : decode cX5_changeFind 36 = .ok (.bipush (-3), 2) := by decide +kernel
theorem dX5_changeFind_38 : decode cX5_changeFind 38 = .ok (.ireturn, 1) := by decide +kernel
theorem dX5_changeFind_39 : decode cX5_changeFind 39 = .ok (.aload_n 1, 1) := by decide +kernel
theorem dX5_changeFind_40 : decode cX5_changeFind 40 = .ok (.iload_n 2, 1) := by decide +kernel
theorem dX5_changeFind_41 : decode cX5_changeFind 41 = .ok (.iaload, 1) := by decide +kernel
theorem dX5_changeFind_42 : decode cX5_changeFind 42 = .ok (.istore 5, 2) := by decide +kernel
theorem dX5_changeFind_44 : decode cX5_changeFind 44 = .ok (.aload_n 1, 1) := by decide +kernel
theorem dX5_changeFind_45 : decode cX5_changeFind 45 = .ok (.iload_n 2, 1) := by decide +kernel
theorem dX5_changeFind_46 : decode cX5_changeFind 46 = .ok (.iload_n 3, 1) := by decide +kernel
theorem dX5_changeFind_47 : decode cX5_changeFind 47 = .ok (.iastore, 1) := by decide +kernel
theorem dX5_changeFind_48 : decode cX5_changeFind 48 = .ok (.iload 5, 2) := by decide +kernel
theorem dX5_changeFind_50 : decode cX5_changeFind 50 = .ok (.ireturn, 1) := by decide +kernel
theorem dX5_told_0 : decode cX5_told 0 = .ok (.aload_n 0, 1) := by decide +kernel
theorem dX5_told_1 : decode cX5_told 1 = .ok (.getfield 12, 3) := by decide +kernel
theorem dX5_told_4 : decode cX5_told 4 = .ok (.iload_n 1, 1) := by decide +kernel
theorem dX5_told_5 : decode cX5_told 5 = .ok (.invokevirtual 99, 3) := by decide +kernel
theorem dX5_told_8 : decode cX5_told 8 = .ok (.ifCond .ne 6, 3) := by decide +kernel
theorem dX5_told_11 : decode cX5_told 11 = .ok (.bipush (-2), 2) := by decide +kernel
theorem dX5_told_13 : decode cX5_told 13 = .ok (.ireturn, 1) := by decide +kernel
theorem dX5_told_14 : decode cX5_told 14 = .ok (.iload_n 2, 1) := by decide +kernel
theorem dX5_told_15 : decode cX5_told 15 = .ok (.tableswitch 203 0 9 #[53, 63, 73, 83, 93, 110, 132, 141, 150, 181], 53) := by decide +kernel
theorem dX5_told_68 : decode cX5_told 68 = .ok (.aload_n 0, 1) := by decide +kernel
theorem dX5_told_69 : decode cX5_told 69 = .ok (.getfield 12, 3) := by decide +kernel
theorem dX5_told_72 : decode cX5_told 72 = .ok (.getfield 105, 3) := by decide +kernel
theorem dX5_told_75 : decode cX5_told 75 = .ok (.iload_n 1, 1) := by decide +kernel
theorem dX5_told_76 : decode cX5_told 76 = .ok (.iaload, 1) := by decide +kernel
theorem dX5_told_77 : decode cX5_told 77 = .ok (.ireturn, 1) := by decide +kernel
theorem dX5_told_78 : decode cX5_told 78 = .ok (.aload_n 0, 1) := by decide +kernel
theorem dX5_told_79 : decode cX5_told 79 = .ok (.getfield 12, 3) := by decide +kernel
theorem dX5_told_82 : decode cX5_told 82 = .ok (.getfield 78, 3) := by decide +kernel
theorem dX5_told_85 : decode cX5_told 85 = .ok (.iload_n 1, 1) := by decide +kernel
theorem dX5_told_86 : decode cX5_told 86 = .ok (.iaload, 1) := by decide +kernel
theorem dX5_told_87 : decode cX5_told 87 = .ok (.ireturn, 1) := by decide +kernel
theorem dX5_told_88 : decode cX5_told 88 = .ok (.aload_n 0, 1) := by decide +kernel
theorem dX5_told_89 : decode cX5_told 89 = .ok (.getfield 12, 3) := by decide +kernel
theorem dX5_told_92 : decode cX5_told 92 = .ok (.getfield 86, 3) := by decide +kernel
theorem dX5_told_95 : decode cX5_told 95 = .ok (.iload_n 1, 1) := by decide +kernel
theorem dX5_told_96 : decode cX5_told 96 = .ok (.iaload, 1) := by decide +kernel
theorem dX5_told_97 : decode cX5_told 97 = .ok (.ireturn, 1) := by decide +kernel
theorem dX5_told_98 : decode cX5_told 98 = .ok (.aload_n 0, 1) := by decide +kernel
theorem dX5_told_99 : decode cX5_told 99 = .ok (.getfield 12, 3) := by decide +kernel
theorem dX5_told_102 : decode cX5_told 102 = .ok (.getfield 89, 3) := by decide +kernel
theorem dX5_told_105 : decode cX5_told 105 = .ok (.iload_n 1, 1) := by decide +kernel
theorem dX5_told_106 : decode cX5_told 106 = .ok (.iaload, 1) := by decide +kernel
theorem dX5_told_107 : decode cX5_told 107 = .ok (.ireturn, 1) := by decide +kernel
theorem dX5_told_108 : decode cX5_told 108 = .ok (.aload_n 0, 1) := by decide +kernel
theorem dX5_told_109 : decode cX5_told 109 = .ok (.getfield 12, 3) := by decide +kernel
theorem dX5_told_112 : decode cX5_told 112 = .ok (.iload_n 1, 1) := by decide +kernel
theorem dX5_told_113 : decode cX5_told 113 = .ok (.invokevirtual 102, 3) := by decide +kernel
theorem dX5_told_116 : decode cX5_told 116 = .ok (.ifCond .eq 7, 3) := by decide +kernel
theorem dX5_told_119 : decode cX5_told 119 = .ok (.iconst 0, 1) := by decide +kernel
theorem dX5_told_120 : decode cX5_told 120 = .ok (.goto 4, 3) := by decide +kernel
theorem dX5_told_123 : decode cX5_told 123 = .ok (.iconst 1, 1) := by decide +kernel
theorem dX5_told_124 : decode cX5_told 124 = .ok (.ireturn, 1) := by decide +kernel
theorem dX5_told_125 : decode cX5_told 125 = .ok (.aload_n 0, 1) := by decide +kernel
theorem dX5_told_126 : decode cX5_told 126 = .ok (.getfield 12, 3) := by decide +kernel
theorem dX5_told_129 : decode cX5_told 129 = .ok (.getfield 105, 3) := by decide +kernel
theorem dX5_told_132 : decode cX5_told 132 = .ok (.iload_n 1, 1) := by decide +kernel
theorem dX5_told_133 : decode cX5_told 133 = .ok (.iaload, 1) := by decide +kernel
theorem dX5_told_134 : decode cX5_told 134 = .ok (.aload_n 0, 1) := by decide +kernel
theorem dX5_told_135 : decode cX5_told 135 = .ok (.getfield 12, 3) := by decide +kernel
theorem dX5_told_138 : decode cX5_told 138 = .ok (.getfield 89, 3) := by decide +kernel
theorem dX5_told_141 : decode cX5_told 141 = .ok (.iload_n 1, 1) := by decide +kernel
theorem dX5_told_142 : decode cX5_told 142 = .ok (.iaload, 1) := by decide +kernel
theorem dX5_told_143 : decode cX5_told 143 = .ok (.invokestatic 108, 3) := by decide +kernel
theorem dX5_told_146 : decode cX5_told 146 = .ok (.ireturn, 1) := by decide +kernel
theorem dX5_told_147 : decode cX5_told 147 = .ok (.aload_n 0, 1) := by decide +kernel
theorem dX5_told_148 : decode cX5_told 148 = .ok (.getfield 12, 3) := by decide +kernel
theorem dX5_told_151 : decode cX5_told 151 = .ok (.iload_n 1, 1) := by decide +kernel
theorem dX5_told_152 : decode cX5_told 152 = .ok (.invokevirtual 112, 3) := by decide +kernel
theorem dX5_told_155 : decode cX5_told 155 = .ok (.ireturn, 1) := by decide +kernel
theorem dX5_told_156 : decode cX5_told 156 = .ok (.aload_n 0, 1) := by decide +kernel
theorem dX5_told_157 : decode cX5_told 157 = .ok (.getfield 12, 3) := by decide +kernel
theorem dX5_told_160 : decode cX5_told 160 = .ok (.iload_n 1, 1) := by decide +kernel
theorem dX5_told_161 : decode cX5_told 161 = .ok (.invokevirtual 115, 3) := by decide +kernel
theorem dX5_told_164 : decode cX5_told 164 = .ok (.ireturn, 1) := by decide +kernel
theorem dX5_told_165 : decode cX5_told 165 = .ok (.aload_n 0, 1) := by decide +kernel
theorem dX5_told_166 : decode cX5_told 166 = .ok (.getfield 12, 3) := by decide +kernel
theorem dX5_told_169 : decode cX5_told 169 = .ok (.getfield 105, 3) := by decide +kernel
theorem dX5_told_172 : decode cX5_told 172 = .ok (.iload_n 1, 1) := by decide +kernel
theorem dX5_told_173 : decode cX5_told 173 = .ok (.iaload, 1) := by decide +kernel
theorem dX5_told_174 : decode cX5_told 174 = .ok (.aload_n 0, 1) := by decide +kernel
theorem dX5_told_175 : decode cX5_told 175 = .ok (.getfield 12, 3) := by decide +kernel
theorem dX5_told_178 : decode cX5_told 178 = .ok (.getfield 89, 3) := by decide +kernel
theorem dX5_told_181 : decode cX5_told 181 = .ok (.iload_n 1, 1) := by decide +kernel
theorem dX5_told_182 : decode cX5_told 182 = .ok (.iaload, 1) := by decide +kernel
theorem dX5_told_183 : decode cX5_told 183 = .ok (.aload_n 0, 1) := by decide +kernel
theorem dX5_told_184 : decode cX5_told 184 = .ok (.getfield 12, 3) := by decide +kernel
theorem dX5_told_187 : decode cX5_told 187 = .ok (.getfield 86, 3) := by decide +kernel
theorem dX5_told_190 : decode cX5_told 190 = .ok (.iload_n 1, 1) := by decide +kernel
theorem dX5_told_191 : decode cX5_told 191 = .ok (.iaload, 1) := by decide +kernel
theorem dX5_told_192 : decode cX5_told 192 = .ok (.invokestatic 118, 3) := by decide +kernel
theorem dX5_told_195 : decode cX5_told 195 = .ok (.ireturn, 1) := by decide +kernel
theorem dX5_told_196 : decode cX5_told 196 = .ok (.aload_n 0, 1) := by decide +kernel
theorem dX5_told_197 : decode cX5_told 197 = .ok (.getfield 28, 3) := by decide +kernel
theorem dX5_told_200 : decode cX5_told 200 = .ok (.iconst 2, 1) := by decide +kernel
theorem dX5_told_201 : decode cX5_told 201 = .ok (.aload_n 0, 1) := by decide +kernel
theorem dX5_told_202 : decode cX5_told 202 = .ok (.getfield 12, 3) := by decide +kernel
theorem dX5_told_205 : decode cX5_told 205 = .ok (.iload_n 1, 1) := by decide +kernel
theorem dX5_told_206 : decode cX5_told 206 = .ok (.aload_n 0, 1) := by decide +kernel
theorem dX5_told_207 : decode cX5_told 207 = .ok (.getfield 12, 3) := by decide +kernel
theorem dX5_told_210 : decode cX5_told 210 = .ok (.iload_n 1, 1) := by decide +kernel
theorem dX5_told_211 : decode cX5_told 211 = .ok (.invokevirtual 112, 3) := by decide +kernel
theorem dX5_told_214 : decode cX5_told 214 = .ok (.invokevirtual 122, 3) := by decide +kernel
theorem dX5_told_217 : decode cX5_told 217 = .ok (.ireturn, 1) := by decide +kernel
theorem dX5_told_218 : decode cX5_told 218 = .ok (.bipush (-2), 2) := by decide +kernel
theorem dX5_told_220 : decode cX5_told 220 = .ok (.ireturn, 1) := by decide +kernel
theorem dX5_feed_0 : decode cX5_feed 0 = .ok (.iload_n 1, 1) := by decide +kernel
theorem dX5_feed_1 : decode cX5_feed 1 = .ok (.iconst 0, 1) := by decide +kernel
theorem dX5_feed_2 : decode cX5_feed 2 = .ok (.sipush 255, 3) := by decide +kernel
theorem dX5_feed_5 : decode cX5_feed 5 = .ok (.invokestatic 59, 3) := by decide +kernel
theorem dX5_feed_8 : decode cX5_feed 8 = .ok (.ifCond .ne 6, 3) := by decide +kernel
theorem dX5_feed_11 : decode cX5_feed 11 = .ok (.bipush (-2), 2) := by decide +kernel
theorem dX5_feed_13 : decode cX5_feed 13 = .ok (.ireturn, 1) := by decide +kernel
theorem dX5_feed_14 : decode cX5_feed 14 = .ok (.aload_n 0, 1) := by decide +kernel
theorem dX5_feed_15 : decode cX5_feed 15 = .ok (.getfield 37, 3) := by decide +kernel
theorem dX5_feed_18 : decode cX5_feed 18 = .ok (.iload_n 1, 1) := by decide +kernel
theorem dX5_feed_19 : decode cX5_feed 19 = .ok (.invokevirtual 126, 3) := by decide +kernel
theorem dX5_feed_22 : decode cX5_feed 22 = .ok (.ireturn, 1) := by decide +kernel
theorem dX5_text_0 : decode cX5_text 0 = .ok (.aload_n 0, 1) := by decide +kernel
theorem dX5_text_1 : decode cX5_text 1 = .ok (.getfield 28, 3) := by decide +kernel
theorem dX5_text_4 : decode cX5_text 4 = .ok (.invokevirtual 129, 3) := by decide +kernel
theorem dX5_text_7 : decode cX5_text 7 = .ok (.ifCond .eq 6, 3) := by decide +kernel
theorem dX5_text_10 : decode cX5_text 10 = .ok (.bipush (-4), 2) := by decide +kernel
theorem dX5_text_12 : decode cX5_text 12 = .ok (.ireturn, 1) := by decide +kernel
theorem dX5_text_13 : decode cX5_text 13 = .ok (.aload_n 0, 1) := by decide +kernel
theorem dX5_text_14 : decode cX5_text 14 = .ok (.getfield 37, 3) := by decide +kernel
theorem dX5_text_17 : decode cX5_text 17 = .ok (.invokevirtual 133, 3) := by decide +kernel
theorem dX5_text_20 : decode cX5_text 20 = .ok (.istore_n 1, 1) := by decide +kernel
theorem dX5_text_21 : decode cX5_text 21 = .ok (.iload_n 1, 1) := by decide +kernel
theorem dX5_text_22 : decode cX5_text 22 = .ok (.iconst (-1), 1) := by decide +kernel
theorem dX5_text_23 : decode cX5_text 23 = .ok (.if_icmp .eq 8, 3) := by decide +kernel
theorem dX5_text_26 : decode cX5_text 26 = .ok (.bipush (-100), 2) := by decide +kernel
theorem dX5_text_28 : decode cX5_text 28 = .ok (.iload_n 1, 1) := by decide +kernel
theorem dX5_text_29 : decode cX5_text 29 = .ok (.isub, 1) := by decide +kernel
theorem dX5_text_30 : decode cX5_text 30 = .ok (.ireturn, 1) := by decide +kernel
theorem dX5_text_31 : decode cX5_text 31 = .ok (.aload_n 0, 1) := by decide +kernel
theorem dX5_text_32 : decode cX5_text 32 = .ok (.getfield 28, 3) := by decide +kernel
theorem dX5_text_35 : decode cX5_text 35 = .ok (.invokevirtual 137, 3) := by decide +kernel
theorem dX5_text_38 : decode cX5_text 38 = .ok (.ireturn, 1) := by decide +kernel
theorem dX5_force_0 : decode cX5_force 0 = .ok (.aload_n 0, 1) := by decide +kernel
theorem dX5_force_1 : decode cX5_force 1 = .ok (.getfield 28, 3) := by decide +kernel
theorem dX5_force_4 : decode cX5_force 4 = .ok (.iload_n 1, 1) := by decide +kernel
theorem dX5_force_5 : decode cX5_force 5 = .ok (.invokevirtual 140, 3) := by decide +kernel
theorem dX5_force_8 : decode cX5_force 8 = .ok (.ifCond .ne 6, 3) := by decide +kernel
theorem dX5_force_11 : decode cX5_force 11 = .ok (.bipush (-2), 2) := by decide +kernel
theorem dX5_force_13 : decode cX5_force 13 = .ok (.ireturn, 1) := by decide +kernel
theorem dX5_force_14 : decode cX5_force 14 = .ok (.aload_n 0, 1) := by decide +kernel
theorem dX5_force_15 : decode cX5_force 15 = .ok (.getfield 12, 3) := by decide +kernel
theorem dX5_force_18 : decode cX5_force 18 = .ok (.getfield 141, 3) := by decide +kernel
theorem dX5_force_21 : decode cX5_force 21 = .ok (.istore_n 2, 1) := by decide +kernel
theorem dX5_force_22 : decode cX5_force 22 = .ok (.aload_n 0, 1) := by decide +kernel
theorem dX5_force_23 : decode cX5_force 23 = .ok (.getfield 12, 3) := by decide +kernel
theorem dX5_force_26 : decode cX5_force 26 = .ok (.iload_n 1, 1) := by decide +kernel
theorem dX5_force_27 : decode cX5_force 27 = .ok (.putfield 141, 3) := by decide +kernel
theorem dX5_force_30 : decode cX5_force 30 = .ok (.iload_n 2, 1) := by decide +kernel
theorem dX5_force_31 : decode cX5_force 31 = .ok (.ireturn, 1) := by decide +kernel
theorem dX5_beep_0 : decode cX5_beep 0 = .ok (.iload_n 1, 1) := by decide +kernel
theorem dX5_beep_1 : decode cX5_beep 1 = .ok (.invokestatic 63, 3) := by decide +kernel
theorem dX5_beep_4 : decode cX5_beep 4 = .ok (.ifCond .ne 6, 3) := by decide +kernel
theorem dX5_beep_7 : decode cX5_beep 7 = .ok (.bipush (-2), 2) := by decide +kernel
theorem dX5_beep_9 : decode cX5_beep 9 = .ok (.ireturn, 1) := by decide +kernel
theorem dX5_beep_10 : decode cX5_beep 10 = .ok (.aload_n 0, 1) := by decide +kernel
theorem dX5_beep_11 : decode cX5_beep 11 = .ok (.getfield 44, 3) := by decide +kernel
theorem dX5_beep_14 : decode cX5_beep 14 = .ok (.aload_n 0, 1) := by decide +kernel
theorem dX5_beep_15 : decode cX5_beep 15 = .ok (.getfield 12, 3) := by decide +kernel
theorem dX5_beep_18 : decode cX5_beep 18 = .ok (.iload_n 1, 1) := by decide +kernel
theorem dX5_beep_19 : decode cX5_beep 19 = .ok (.invokevirtual 144, 3) := by decide +kernel
theorem dX5_beep_22 : decode cX5_beep 22 = .ok (.ireturn, 1) := by decide +kernel
theorem dX5_walk_0 : decode cX5_walk 0 = .ok (.iload_n 1, 1) := by decide +kernel
theorem dX5_walk_1 : decode cX5_walk 1 = .ok (.iconst 0, 1) := by decide +kernel
theorem dX5_walk_2 : decode cX5_walk 2 = .ok (.iconst 5, 1) := by decide +kernel
theorem dX5_walk_3 : decode cX5_walk 3 = .ok (.invokestatic 59, 3) := by decide +kernel
theorem dX5_walk_6 : decode cX5_walk 6 = .ok (.ifCond .ne 6, 3) := by decide +kernel
theorem dX5_walk_9 : decode cX5_walk 9 = .ok (.bipush (-2), 2) := by decide +kernel
theorem dX5_walk_11 : decode cX5_walk 11 = .ok (.ireturn, 1) := by decide +kernel
theorem dX5_walk_12 : decode cX5_walk 12 = .ok (.aload_n 0, 1) := by decide +kernel
theorem dX5_walk_13 : decode cX5_walk 13 = .ok (.getfield 12, 3) := by decide +kernel
theorem dX5_walk_16 : decode cX5_walk 16 = .ok (.dup, 1) := by decide +kernel
theorem dX5_walk_17 : decode cX5_walk 17 = .ok (.getfield 148, 3) := by decide +kernel
theorem dX5_walk_20 : decode cX5_walk 20 = .ok (.iconst 1, 1) := by decide +kernel
theorem dX5_walk_21 : decode cX5_walk 21 = .ok (.iload_n 1, 1) := by decide +kernel
theorem dX5_walk_22 : decode cX5_walk 22 = .ok (.ishl, 1) := by decide +kernel
theorem dX5_walk_23 : decode cX5_walk 23 = .ok (.ior, 1) := by decide +kernel
theorem dX5_walk_24 : decode cX5_walk 24 = .ok (.putfield 148, 3) := by decide +kernel
theorem dX5_walk_27 : decode cX5_walk 27 = .ok (.aload_n 0, 1) := by decide +kernel
theorem dX5_walk_28 : decode cX5_walk 28 = .ok (.getfield 44, 3) := by decide +kernel
theorem dX5_walk_31 : decode cX5_walk 31 = .ok (.aload_n 0, 1) := by decide +kernel
theorem dX5_walk_32 : decode cX5_walk 32 = .ok (.getfield 12, 3) := by decide +kernel
theorem dX5_walk_35 : decode cX5_walk 35 = .ok (.iconst 1, 1) := by decide +kernel
theorem dX5_walk_36 : decode cX5_walk 36 = .ok (.iload_n 1, 1) := by decide +kernel
theorem dX5_walk_37 : decode cX5_walk 37 = .ok (.ishl, 1) := by decide +kernel
theorem dX5_walk_38 : decode cX5_walk 38 = .ok (.invokevirtual 151, 3) := by decide +kernel
theorem dX5_walk_41 : decode cX5_walk 41 = .ok (.ireturn, 1) := by decide +kernel
theorem dX5_plough_0 : decode cX5_plough 0 = .ok (.aload_n 0, 1) := by decide +kernel
theorem dX5_plough_1 : decode cX5_plough 1 = .ok (.getfield 12, 3) := by decide +kernel
theorem dX5_plough_4 : decode cX5_plough 4 = .ok (.invokevirtual 154, 3) := by decide +kernel
theorem dX5_plough_7 : decode cX5_plough 7 = .ok (.aload_n 0, 1) := by decide +kernel
theorem dX5_plough_8 : decode cX5_plough 8 = .ok (.getfield 12, 3) := by decide +kernel
theorem dX5_plough_11 : decode cX5_plough 11 = .ok (.getfield 157, 3) := by decide +kernel
theorem dX5_plough_14 : decode cX5_plough 14 = .ok (.ireturn, 1) := by decide +kernel
theorem dX5_found_0 : decode cX5_found 0 = .ok (.iload_n 1, 1) := by decide +kernel
theorem dX5_found_1 : decode cX5_found 1 = .ok (.iconst 0, 1) := by decide +kernel
theorem dX5_found_2 : decode cX5_found 2 = .ok (.bipush 63, 2) := by decide +kernel
theorem dX5_found_4 : decode cX5_found 4 = .ok (.invokestatic 59, 3) := by decide +kernel
theorem dX5_found_7 : decode cX5_found 7 = .ok (.ifCond .eq 12, 3) := by decide +kernel
theorem dX5_found_10 : decode cX5_found 10 = .ok (.iload_n 2, 1) := by decide +kernel
theorem dX5_found_11 : decode cX5_found 11 = .ok (.iconst 0, 1) := by decide +kernel
theorem dX5_found_12 : decode cX5_found 12 = .ok (.iconst 1, 1) := by decide +kernel
theorem dX5_found_13 : decode cX5_found 13 = .ok (.invokestatic 59, 3) := by decide +kernel
theorem dX5_found_16 : decode cX5_found 16 = .ok (.ifCond .ne 6, 3) := by decide +kernel
theorem dX5_found_19 : decode cX5_found 19 = .ok (.bipush (-2), 2) := by decide +kernel
theorem dX5_found_21 : decode cX5_found 21 = .ok (.ireturn, 1) := by decide +kernel
theorem dX5_found_22 : decode cX5_found 22 = .ok (.aload_n 0, 1) := by decide +kernel
theorem dX5_found_23 : decode cX5_found 23 = .ok (.aload_n 0, 1) := by decide +kernel
theorem dX5_found_24 : decode cX5_found 24 = .ok (.getfield 12, 3) := by decide +kernel
theorem dX5_found_27 : decode cX5_found 27 = .ok (.iload_n 1, 1) := by decide +kernel
theorem dX5_found_28 : decode cX5_found 28 = .ok (.invokevirtual 160, 3) := by decide +kernel
theorem dX5_found_31 : decode cX5_found 31 = .ok (.istore_n 3, 1) := by decide +kernel
theorem dX5_found_32 : decode cX5_found 32 = .ok (.iload_n 2, 1) := by decide +kernel
theorem dX5_found_33 : decode cX5_found 33 = .ok (.ifCond .ne 7, 3) := by decide +kernel
theorem dX5_found_36 : decode cX5_found 36 = .ok (.iload_n 3, 1) := by decide +kernel
theorem dX5_found_37 : decode cX5_found 37 = .ok (.goto 10, 3) := by decide +kernel
theorem dX5_found_40 : decode cX5_found 40 = .ok (.aload_n 0, 1) := by decide +kernel
theorem dX5_found_41 : decode cX5_found 41 = .ok (.getfield 44, 3) := by decide +kernel
theorem dX5_found_44 : decode cX5_found 44 = .ok (.getfield 163, 3) := by decide +kernel
theorem dX5_found_47 : decode cX5_found 47 = .ok (.ireturn, 1) := by decide +kernel
theorem dX5_foundIn_0 : decode cX5_foundIn 0 = .ok (.aload_n 0, 1) := by decide +kernel
theorem dX5_foundIn_1 : decode cX5_foundIn 1 = .ok (.getfield 22, 3) := by decide +kernel
theorem dX5_foundIn_4 : decode cX5_foundIn 4 = .ok (.aload_n 1, 1) := by decide +kernel
theorem dX5_foundIn_5 : decode cX5_foundIn 5 = .ok (.invokevirtual 166, 3) := by decide +kernel
theorem dX5_foundIn_8 : decode cX5_foundIn 8 = .ok (.aload_n 0, 1) := by decide +kernel
theorem dX5_foundIn_9 : decode cX5_foundIn 9 = .ok (.getfield 44, 3) := by decide +kernel
theorem dX5_foundIn_12 : decode cX5_foundIn 12 = .ok (.aload_n 0, 1) := by decide +kernel
theorem dX5_foundIn_13 : decode cX5_foundIn 13 = .ok (.getfield 22, 3) := by decide +kernel
theorem dX5_foundIn_16 : decode cX5_foundIn 16 = .ok (.iload_n 2, 1) := by decide +kernel
theorem dX5_foundIn_17 : decode cX5_foundIn 17 = .ok (.invokevirtual 151, 3) := by decide +kernel
theorem dX5_foundIn_20 : decode cX5_foundIn 20 = .ok (.ireturn, 1) := by decide +kernel
theorem dX5_years_0 : decode cX5_years 0 = .ok (.iload_n 1, 1) := by decide +kernel
theorem dX5_years_1 : decode cX5_years 1 = .ok (.iconst 0, 1) := by decide +kernel
theorem dX5_years_2 : decode cX5_years 2 = .ok (.bipush 20, 2) := by decide +kernel
theorem dX5_years_4 : decode cX5_years 4 = .ok (.invokestatic 59, 3) := by decide +kernel
theorem dX5_years_7 : decode cX5_years 7 = .ok (.ifCond .ne 6, 3) := by decide +kernel
theorem dX5_years_10 : decode cX5_years 10 = .ok (.bipush (-2), 2) := by decide +kernel
theorem dX5_years_12 : decode cX5_years 12 = .ok (.ireturn, 1) := by decide +kernel
theorem dX5_years_13 : decode cX5_years 13 = .ok (.aload_n 0, 1) := by decide +kernel
theorem dX5_years_14 : decode cX5_years 14 = .ok (.getfield 22, 3) := by decide +kernel
theorem dX5_years_17 : decode cX5_years 17 = .ok (.aload_n 0, 1) := by decide +kernel
theorem dX5_years_18 : decode cX5_years 18 = .ok (.getfield 12, 3) := by decide +kernel
theorem dX5_years_21 : decode cX5_years 21 = .ok (.invokevirtual 166, 3) := by decide +kernel
theorem dX5_years_24 : decode cX5_years 24 = .ok (.iconst 0, 1) := by decide +kernel
theorem dX5_years_25 : decode cX5_years 25 = .ok (.istore_n 2, 1) := by decide +kernel
theorem dX5_years_26 : decode cX5_years 26 = .ok (.iconst 0, 1) := by decide +kernel
theorem dX5_years_27 : decode cX5_years 27 = .ok (.istore_n 3, 1) := by decide +kernel
theorem dX5_years_28 : decode cX5_years 28 = .ok (.iload_n 3, 1) := by decide +kernel
theorem dX5_years_29 : decode cX5_years 29 = .ok (.iload_n 1, 1) := by decide +kernel
theorem dX5_years_30 : decode cX5_years 30 = .ok (.if_icmp .ge 32, 3) := by decide +kernel
theorem dX5_years_33 : decode cX5_years 33 = .ok (.iload_n 2, 1) := by decide +kernel
theorem dX5_years_34 : decode cX5_years 34 = .ok (.aload_n 0, 1) := by decide +kernel
theorem dX5_years_35 : decode cX5_years 35 = .ok (.getfield 44, 3) := by decide +kernel
theorem dX5_years_38 : decode cX5_years 38 = .ok (.aload_n 0, 1) := by decide +kernel
theorem dX5_years_39 : decode cX5_years 39 = .ok (.getfield 22, 3) := by decide +kernel
theorem dX5_years_42 : decode cX5_years 42 = .ok (.bipush 63, 2) := by decide +kernel
theorem dX5_years_44 : decode cX5_years 44 = .ok (.invokevirtual 151, 3) := by decide +kernel
theorem dX5_years_47 : decode cX5_years 47 = .ok (.iadd, 1) := by decide +kernel
theorem dX5_years_48 : decode cX5_years 48 = .ok (.istore_n 2, 1) := by decide +kernel
theorem dX5_years_49 : decode cX5_years 49 = .ok (.aload_n 0, 1) := by decide +kernel
theorem dX5_years_50 : decode cX5_years 50 = .ok (.getfield 22, 3) := by decide +kernel
theorem dX5_years_53 : decode cX5_years 53 = .ok (.invokevirtual 154, 3) := by decide +kernel
theorem dX5_years_56 : decode cX5_years 56 = .ok (.iinc 3 1, 3) := by decide +kernel
theorem dX5_years_59 : decode cX5_years 59 = .ok (.goto (-31), 3) := by decide +kernel
theorem dX5_years_62 : decode cX5_years 62 = .ok (.iload_n 2, 1) := by decide +kernel
theorem dX5_years_63 : decode cX5_years 63 = .ok (.ireturn, 1) := by decide +kernel
theorem dX5_soonest_0 : decode cX5_soonest 0 = .ok (.iload_n 1, 1) := by decide +kernel
theorem dX5_soonest_1 : decode cX5_soonest 1 = .ok (.iconst 0, 1) := by decide +kernel
theorem dX5_soonest_2 : decode cX5_soonest 2 = .ok (.iconst 1, 1) := by decide +kernel
theorem dX5_soonest_3 : decode cX5_soonest 3 = .ok (.invokestatic 59, 3) := by decide +kernel
theorem dX5_soonest_6 : decode cX5_soonest 6 = .ok (.ifCond .ne 6, 3) := by decide +kernel
theorem dX5_soonest_9 : decode cX5_soonest 9 = .ok (.bipush (-2), 2) := by decide +kernel
theorem dX5_soonest_11 : decode cX5_soonest 11 = .ok (.ireturn, 1) := by decide +kernel
theorem dX5_soonest_12 : decode cX5_soonest 12 = .ok (.iconst 0, 1) := by decide +kernel
theorem dX5_soonest_13 : decode cX5_soonest 13 = .ok (.istore_n 2, 1) := by decide +kernel
theorem dX5_soonest_14 : decode cX5_soonest 14 = .ok (.iconst (-1), 1) := by decide +kernel
theorem dX5_soonest_15 : decode cX5_soonest 15 = .ok (.istore_n 3, 1) := by decide +kernel
theorem dX5_soonest_16 : decode cX5_soonest 16 = .ok (.aload_n 0, 1) := by decide +kernel
theorem dX5_soonest_17 : decode cX5_soonest 17 = .ok (.getfield 19, 3) := by decide +kernel
theorem dX5_soonest_20 : decode cX5_soonest 20 = .ok (.aload_n 0, 1) := by decide +kernel
theorem dX5_soonest_21 : decode cX5_soonest 21 = .ok (.getfield 12, 3) := by decide +kernel
theorem dX5_soonest_24 : decode cX5_soonest 24 = .ok (.invokevirtual 166, 3) := by decide +kernel
theorem dX5_soonest_27 : decode cX5_soonest 27 = .ok (.iconst 0, 1) := by decide +kernel
theorem dX5_soonest_28 : decode cX5_soonest 28 = .ok (.istore 4, 2) := by decide +kernel
theorem dX5_soonest_30 : decode cX5_soonest 30 = .ok (.iload 4, 2) := by decide +kernel
theorem dX5_soonest_32 : decode cX5_soonest 32 = .ok (.bipush 20, 2) := by decide +kernel
theorem dX5_soonest_34 : decode cX5_soonest 34 = .ok (.if_icmp .gt 40, 3) := by decide +kernel
theorem dX5_soonest_37 : decode cX5_soonest 37 = .ok (.aload_n 0, 1) := by decide +kernel
theorem dX5_soonest_38 : decode cX5_soonest 38 = .ok (.aload_n 0, 1) := by decide +kernel
theorem dX5_soonest_39 : decode cX5_soonest 39 = .ok (.getfield 19, 3) := by decide +kernel
theorem dX5_soonest_42 : decode cX5_soonest 42 = .ok (.bipush 63, 2) := by decide +kernel
theorem dX5_soonest_44 : decode cX5_soonest 44 = .ok (.invokevirtual 160, 3) := by decide +kernel
theorem dX5_soonest_47 : decode cX5_soonest 47 = .ok (.istore 5, 2) := by decide +kernel
theorem dX5_soonest_49 : decode cX5_soonest 49 = .ok (.iload 5, 2) := by decide +kernel
theorem dX5_soonest_51 : decode cX5_soonest 51 = .ok (.iload_n 3, 1) := by decide +kernel
theorem dX5_soonest_52 : decode cX5_soonest 52 = .ok (.if_icmp .le 9, 3) := by decide +kernel
theorem dX5_soonest_55 : decode cX5_soonest 55 = .ok (.iload 5, 2) := by decide +kernel
theorem dX5_soonest_57 : decode cX5_soonest 57 = .ok (.istore_n 3, 1) := by decide +kernel
theorem dX5_soonest_58 : decode cX5_soonest 58 = .ok (.iload 4, 2) := by decide +kernel
theorem dX5_soonest_60 : decode cX5_soonest 60 = .ok (.istore_n 2, 1) := by decide +kernel
theorem dX5_soonest_61 : decode cX5_soonest 61 = .ok (.aload_n 0, 1) := by decide +kernel
theorem dX5_soonest_62 : decode cX5_soonest 62 = .ok (.getfield 19, 3) := by decide +kernel
theorem dX5_soonest_65 : decode cX5_soonest 65 = .ok (.invokevirtual 154, 3) := by decide +kernel
theorem dX5_soonest_68 : decode cX5_soonest 68 = .ok (.iinc 4 1, 3) := by decide +kernel
theorem dX5_soonest_71 : decode cX5_soonest 71 = .ok (.goto (-41), 3) := by decide +kernel
theorem dX5_soonest_74 : decode cX5_soonest 74 = .ok (.iload_n 1, 1) := by decide +kernel
theorem dX5_soonest_75 : decode cX5_soonest 75 = .ok (.ifCond .ne 7, 3) := by decide +kernel
theorem dX5_soonest_78 : decode cX5_soonest 78 = .ok (.iload_n 2, 1) := by decide +kernel
theorem dX5_soonest_79 : decode cX5_soonest 79 = .ok (.goto 4, 3) := by decide +kernel
theorem dX5_soonest_82 : decode cX5_soonest 82 = .ok (.iload_n 3, 1) := by decide +kernel
theorem dX5_soonest_83 : decode cX5_soonest 83 = .ok (.ireturn, 1) := by decide +kernel
theorem dX5_strips_0 : decode cX5_strips 0 = .ok (.iload_n 1, 1) := by decide +kernel
theorem dX5_strips_1 : decode cX5_strips 1 = .ok (.iconst 0, 1) := by decide +kernel
theorem dX5_strips_2 : decode cX5_strips 2 = .ok (.bipush 6, 2) := by decide +kernel
theorem dX5_strips_4 : decode cX5_strips 4 = .ok (.invokestatic 59, 3) := by decide +kernel
theorem dX5_strips_7 : decode cX5_strips 7 = .ok (.ifCond .eq 12, 3) := by decide +kernel
theorem dX5_strips_10 : decode cX5_strips 10 = .ok (.iload_n 2, 1) := by decide +kernel
theorem dX5_strips_11 : decode cX5_strips 11 = .ok (.iconst 0, 1) := by decide +kernel
theorem dX5_strips_12 : decode cX5_strips 12 = .ok (.iconst 1, 1) := by decide +kernel
theorem dX5_strips_13 : decode cX5_strips 13 = .ok (.invokestatic 59, 3) := by decide +kernel
theorem dX5_strips_16 : decode cX5_strips 16 = .ok (.ifCond .ne 6, 3) := by decide +kernel
theorem dX5_strips_19 : decode cX5_strips 19 = .ok (.bipush (-2), 2) := by decide +kernel
theorem dX5_strips_21 : decode cX5_strips 21 = .ok (.ireturn, 1) := by decide +kernel
theorem dX5_strips_22 : decode cX5_strips 22 = .ok (.iconst 0, 1) := by decide +kernel
theorem dX5_strips_23 : decode cX5_strips 23 = .ok (.istore_n 3, 1) := by decide +kernel
theorem dX5_strips_24 : decode cX5_strips 24 = .ok (.iconst (-1), 1) := by decide +kernel
theorem dX5_strips_25 : decode cX5_strips 25 = .ok (.istore 4, 2) := by decide +kernel
theorem dX5_strips_27 : decode cX5_strips 27 = .ok (.iconst 0, 1) := by decide +kernel
theorem dX5_strips_28 : decode cX5_strips 28 = .ok (.istore 5, 2) := by decide +kernel
theorem dX5_strips_30 : decode cX5_strips 30 = .ok (.iload 5, 2) := by decide +kernel
theorem dX5_strips_32 : decode cX5_strips 32 = .ok (.bipush 63, 2) := by decide +kernel
theorem dX5_strips_34 : decode cX5_strips 34 = .ok (.if_icmp .gt 56, 3) := by decide +kernel
theorem dX5_strips_37 : decode cX5_strips 37 = .ok (.iload 5, 2) := by decide +kernel
theorem dX5_strips_39 : decode cX5_strips 39 = .ok (.invokestatic 170, 3) := by decide +kernel
theorem dX5_strips_42 : decode cX5_strips 42 = .ok (.iload_n 1, 1) := by decide +kernel
theorem dX5_strips_43 : decode cX5_strips 43 = .ok (.if_icmp .eq 6, 3) := by decide +kernel
theorem dX5_strips_46 : decode cX5_strips 46 = .ok (.goto 38, 3) := by decide +kernel
theorem dX5_strips_49 : decode cX5_strips 49 = .ok (.aload_n 0, 1) := by decide +kernel
theorem dX5_strips_50 : decode cX5_strips 50 = .ok (.aload_n 0, 1) := by decide +kernel
theorem dX5_strips_51 : decode cX5_strips 51 = .ok (.getfield 12, 3) := by decide +kernel
theorem dX5_strips_54 : decode cX5_strips 54 = .ok (.iload 5, 2) := by decide +kernel
theorem dX5_strips_56 : decode cX5_strips 56 = .ok (.invokevirtual 160, 3) := by decide +kernel
theorem dX5_strips_59 : decode cX5_strips 59 = .ok (.pop, 1) := by decide +kernel
theorem dX5_strips_60 : decode cX5_strips 60 = .ok (.aload_n 0, 1) := by decide +kernel
theorem dX5_strips_61 : decode cX5_strips 61 = .ok (.getfield 44, 3) := by decide +kernel
theorem dX5_strips_64 : decode cX5_strips 64 = .ok (.getfield 163, 3) := by decide +kernel
theorem dX5_strips_67 : decode cX5_strips 67 = .ok (.iload 4, 2) := by decide +kernel
theorem dX5_strips_69 : decode cX5_strips 69 = .ok (.if_icmp .le 15, 3) := by decide +kernel
theorem dX5_strips_72 : decode cX5_strips 72 = .ok (.aload_n 0, 1) := by decide +kernel
theorem dX5_strips_73 : decode cX5_strips 73 = .ok (.getfield 44, 3) := by decide +kernel
theorem dX5_strips_76 : decode cX5_strips 76 = .ok (.getfield 163, 3) := by decide +kernel
theorem dX5_strips_79 : decode cX5_strips 79 = .ok (.istore 4, 2) := by decide +kernel
theorem dX5_strips_81 : decode cX5_strips 81 = .ok (.iload 5, 2) := by decide +kernel
theorem dX5_strips_83 : decode cX5_strips 83 = .ok (.istore_n 3, 1) := by decide +kernel
theorem dX5_strips_84 : decode cX5_strips 84 = .ok (.iinc 5 1, 3) := by decide +kernel
theorem dX5_strips_87 : decode cX5_strips 87 = .ok (.goto (-57), 3) := by decide +kernel
theorem dX5_strips_90 : decode cX5_strips 90 = .ok (.iload_n 2, 1) := by decide +kernel
theorem dX5_strips_91 : decode cX5_strips 91 = .ok (.ifCond .ne 7, 3) := by decide +kernel
theorem dX5_strips_94 : decode cX5_strips 94 = .ok (.iload_n 3, 1) := by decide +kernel
theorem dX5_strips_95 : decode cX5_strips 95 = .ok (.goto 5, 3) := by decide +kernel
theorem dX5_strips_98 : decode cX5_strips 98 = .ok (.iload 4, 2) := by decide +kernel
theorem dX5_strips_100 : decode cX5_strips 100 = .ok (.ireturn, 1) := by decide +kernel
theorem dX5_better_0 : decode cX5_better 0 = .ok (.aload_n 0, 1) := by decide +kernel
theorem dX5_better_1 : decode cX5_better 1 = .ok (.aload_n 0, 1) := by decide +kernel
theorem dX5_better_2 : decode cX5_better 2 = .ok (.getfield 12, 3) := by decide +kernel
theorem dX5_better_5 : decode cX5_better 5 = .ok (.bipush 63, 2) := by decide +kernel
theorem dX5_better_7 : decode cX5_better 7 = .ok (.invokevirtual 160, 3) := by decide +kernel
theorem dX5_better_10 : decode cX5_better 10 = .ok (.istore_n 1, 1) := by decide +kernel
theorem dX5_better_11 : decode cX5_better 11 = .ok (.aload_n 0, 1) := by decide +kernel
theorem dX5_better_12 : decode cX5_better 12 = .ok (.getfield 19, 3) := by decide +kernel
theorem dX5_better_15 : decode cX5_better 15 = .ok (.aload_n 0, 1) := by decide +kernel
theorem dX5_better_16 : decode cX5_better 16 = .ok (.getfield 12, 3) := by decide +kernel
theorem dX5_better_19 : decode cX5_better 19 = .ok (.invokevirtual 166, 3) := by decide +kernel
theorem dX5_better_22 : decode cX5_better 22 = .ok (.aload_n 0, 1) := by decide +kernel
theorem dX5_better_23 : decode cX5_better 23 = .ok (.getfield 19, 3) := by decide +kernel
theorem dX5_better_26 : decode cX5_better 26 = .ok (.bipush 9, 2) := by decide +kernel
theorem dX5_better_28 : decode cX5_better 28 = .ok (.aload_n 0, 1) := by decide +kernel
theorem dX5_better_29 : decode cX5_better 29 = .ok (.getfield 12, 3) := by decide +kernel
theorem dX5_better_32 : decode cX5_better 32 = .ok (.getfield 96, 3) := by decide +kernel
theorem dX5_better_35 : decode cX5_better 35 = .ok (.iconst 1, 1) := by decide +kernel
theorem dX5_better_36 : decode cX5_better 36 = .ok (.iadd, 1) := by decide +kernel
theorem dX5_better_37 : decode cX5_better 37 = .ok (.invokestatic 175, 3) := by decide +kernel
theorem dX5_better_40 : decode cX5_better 40 = .ok (.putfield 96, 3) := by decide +kernel
theorem dX5_better_43 : decode cX5_better 43 = .ok (.aload_n 0, 1) := by decide +kernel
theorem dX5_better_44 : decode cX5_better 44 = .ok (.aload_n 0, 1) := by decide +kernel
theorem dX5_better_45 : decode cX5_better 45 = .ok (.getfield 19, 3) := by decide +kernel
theorem dX5_better_48 : decode cX5_better 48 = .ok (.bipush 63, 2) := by decide +kernel
theorem dX5_better_50 : decode cX5_better 50 = .ok (.invokevirtual 160, 3) := by decide +kernel
theorem dX5_better_53 : decode cX5_better 53 = .ok (.iload_n 1, 1) := by decide +kernel
theorem dX5_better_54 : decode cX5_better 54 = .ok (.isub, 1) := by decide +kernel
theorem dX5_better_55 : decode cX5_better 55 = .ok (.ireturn, 1) := by decide +kernel
theorem dX5_order_0 : decode cX5_order 0 = .ok (.iload_n 1, 1) := by decide +kernel
theorem dX5_order_1 : decode cX5_order 1 = .ok (.iconst 1, 1) := by decide +kernel
theorem dX5_order_2 : decode cX5_order 2 = .ok (.bipush 9, 2) := by decide +kernel
theorem dX5_order_4 : decode cX5_order 4 = .ok (.invokestatic 59, 3) := by decide +kernel
theorem dX5_order_7 : decode cX5_order 7 = .ok (.ifCond .eq 13, 3) := by decide +kernel
theorem dX5_order_10 : decode cX5_order 10 = .ok (.iload_n 2, 1) := by decide +kernel
theorem dX5_order_11 : decode cX5_order 11 = .ok (.iconst 1, 1) := by decide +kernel
theorem dX5_order_12 : decode cX5_order 12 = .ok (.bipush 9, 2) := by decide +kernel
theorem dX5_order_14 : decode cX5_order 14 = .ok (.invokestatic 59, 3) := by decide +kernel
theorem dX5_order_17 : decode cX5_order 17 = .ok (.ifCond .ne 6, 3) := by decide +kernel
theorem dX5_order_20 : decode cX5_order 20 = .ok (.bipush (-2), 2) := by decide +kernel
theorem dX5_order_22 : decode cX5_order 22 = .ok (.ireturn, 1) := by decide +kernel
theorem dX5_order_23 : decode cX5_order 23 = .ok (.aload_n 0, 1) := by decide +kernel
theorem dX5_order_24 : decode cX5_order 24 = .ok (.getfield 22, 3) := by decide +kernel
theorem dX5_order_27 : decode cX5_order 27 = .ok (.aload_n 0, 1) := by decide +kernel
theorem dX5_order_28 : decode cX5_order 28 = .ok (.getfield 12, 3) := by decide +kernel
theorem dX5_order_31 : decode cX5_order 31 = .ok (.invokevirtual 166, 3) := by decide +kernel
theorem dX5_order_34 : decode cX5_order 34 = .ok (.aload_n 0, 1) := by decide +kernel
theorem dX5_order_35 : decode cX5_order 35 = .ok (.getfield 22, 3) := by decide +kernel
theorem dX5_order_38 : decode cX5_order 38 = .ok (.iload_n 1, 1) := by decide +kernel
theorem dX5_order_39 : decode cX5_order 39 = .ok (.putfield 96, 3) := by decide +kernel
theorem dX5_order_42 : decode cX5_order 42 = .ok (.aload_n 0, 1) := by decide +kernel
theorem dX5_order_43 : decode cX5_order 43 = .ok (.getfield 44, 3) := by decide +kernel
theorem dX5_order_46 : decode cX5_order 46 = .ok (.aload_n 0, 1) := by decide +kernel
theorem dX5_order_47 : decode cX5_order 47 = .ok (.getfield 22, 3) := by decide +kernel
theorem dX5_order_50 : decode cX5_order 50 = .ok (.bipush 63, 2) := by decide +kernel
theorem dX5_order_52 : decode cX5_order 52 = .ok (.invokevirtual 151, 3) := by decide +kernel
theorem dX5_order_55 : decode cX5_order 55 = .ok (.pop, 1) := by decide +kernel
theorem dX5_order_56 : decode cX5_order 56 = .ok (.aload_n 0, 1) := by decide +kernel
theorem dX5_order_57 : decode cX5_order 57 = .ok (.getfield 22, 3) := by decide +kernel
theorem dX5_order_60 : decode cX5_order 60 = .ok (.iload_n 2, 1) := by decide +kernel
theorem dX5_order_61 : decode cX5_order 61 = .ok (.putfield 96, 3) := by decide +kernel
theorem dX5_order_64 : decode cX5_order 64 = .ok (.aload_n 0, 1) := by decide +kernel
theorem dX5_order_65 : decode cX5_order 65 = .ok (.getfield 44, 3) := by decide +kernel
theorem dX5_order_68 : decode cX5_order 68 = .ok (.aload_n 0, 1) := by decide +kernel
theorem dX5_order_69 : decode cX5_order 69 = .ok (.getfield 22, 3) := by decide +kernel
theorem dX5_order_72 : decode cX5_order 72 = .ok (.bipush 63, 2) := by decide +kernel
theorem dX5_order_74 : decode cX5_order 74 = .ok (.invokevirtual 151, 3) := by decide +kernel
theorem dX5_order_77 : decode cX5_order 77 = .ok (.ireturn, 1) := by decide +kernel
theorem dX5_pot_0 : decode cX5_pot 0 = .ok (.aload_n 0, 1) := by decide +kernel
theorem dX5_pot_1 : decode cX5_pot 1 = .ok (.getfield 12, 3) := by decide +kernel
theorem dX5_pot_4 : decode cX5_pot 4 = .ok (.getfield 180, 3) := by decide +kernel
theorem dX5_pot_7 : decode cX5_pot 7 = .ok (.ifCond .ne 5, 3) := by decide +kernel
theorem dX5_pot_10 : decode cX5_pot 10 = .ok (.iconst (-1), 1) := by decide +kernel
theorem dX5_pot_11 : decode cX5_pot 11 = .ok (.ireturn, 1) := by decide +kernel
theorem dX5_pot_12 : decode cX5_pot 12 = .ok (.iconst 0, 1) := by decide +kernel
theorem dX5_pot_13 : decode cX5_pot 13 = .ok (.istore_n 1, 1) := by decide +kernel
theorem dX5_pot_14 : decode cX5_pot 14 = .ok (.aload_n 0, 1) := by decide +kernel
theorem dX5_pot_15 : decode cX5_pot 15 = .ok (.getfield 12, 3) := by decide +kernel
theorem dX5_pot_18 : decode cX5_pot 18 = .ok (.iconst 0, 1) := by decide +kernel
theorem dX5_pot_19 : decode cX5_pot 19 = .ok (.invokevirtual 183, 3) := by decide +kernel
theorem dX5_pot_22 : decode cX5_pot 22 = .ok (.istore_n 2, 1) := by decide +kernel
theorem dX5_pot_23 : decode cX5_pot 23 = .ok (.iconst 1, 1) := by decide +kernel
theorem dX5_pot_24 : decode cX5_pot 24 = .ok (.istore_n 3, 1) := by decide +kernel
theorem dX5_pot_25 : decode cX5_pot 25 = .ok (.iload_n 3, 1) := by decide +kernel
theorem dX5_pot_26 : decode cX5_pot 26 = .ok (.bipush 48, 2) := by decide +kernel
theorem dX5_pot_28 : decode cX5_pot 28 = .ok (.if_icmp .ge 30, 3) := by decide +kernel
theorem dX5_pot_31 : decode cX5_pot 31 = .ok (.aload_n 0, 1) := by decide +kernel
theorem dX5_pot_32 : decode cX5_pot 32 = .ok (.getfield 12, 3) := by decide +kernel
theorem dX5_pot_35 : decode cX5_pot 35 = .ok (.iload_n 3, 1) := by decide +kernel
theorem dX5_pot_36 : decode cX5_pot 36 = .ok (.invokevirtual 183, 3) := by decide +kernel
theorem dX5_pot_39 : decode cX5_pot 39 = .ok (.istore 4, 2) := by decide +kernel
theorem dX5_pot_41 : decode cX5_pot 41 = .ok (.iload 4, 2) := by decide +kernel
theorem dX5_pot_43 : decode cX5_pot 43 = .ok (.iload_n 2, 1) := by decide +kernel
theorem dX5_pot_44 : decode cX5_pot 44 = .ok (.if_icmp .ge 8, 3) := by decide +kernel
theorem dX5_pot_47 : decode cX5_pot 47 = .ok (.iload 4, 2) := by decide +kernel
theorem dX5_pot_49 : decode cX5_pot 49 = .ok (.istore_n 2, 1) := by decide +kernel
theorem dX5_pot_50 : decode cX5_pot 50 = .ok (.iload_n 3, 1) := by decide +kernel
theorem dX5_pot_51 : decode cX5_pot 51 = .ok (.istore_n 1, 1) := by decide +kernel
theorem dX5_pot_52 : decode cX5_pot 52 = .ok (.iinc 3 1, 3) := by decide +kernel
theorem dX5_pot_55 : decode cX5_pot 55 = .ok (.goto (-30), 3) := by decide +kernel
theorem dX5_pot_58 : decode cX5_pot 58 = .ok (.iload_n 1, 1) := by decide +kernel
theorem dX5_pot_59 : decode cX5_pot 59 = .ok (.ireturn, 1) := by decide +kernel
theorem dX5_came_0 : decode cX5_came 0 = .ok (.aload_n 0, 1) := by decide +kernel
theorem dX5_came_1 : decode cX5_came 1 = .ok (.getfield 12, 3) := by decide +kernel
theorem dX5_came_4 : decode cX5_came 4 = .ok (.iload_n 1, 1) := by decide +kernel
theorem dX5_came_5 : decode cX5_came 5 = .ok (.invokevirtual 99, 3) := by decide +kernel
theorem dX5_came_8 : decode cX5_came 8 = .ok (.ifCond .eq 13, 3) := by decide +kernel
theorem dX5_came_11 : decode cX5_came 11 = .ok (.iload_n 2, 1) := by decide +kernel
theorem dX5_came_12 : decode cX5_came 12 = .ok (.iconst 0, 1) := by decide +kernel
theorem dX5_came_13 : decode cX5_came 13 = .ok (.bipush 20, 2) := by decide +kernel
theorem dX5_came_15 : decode cX5_came 15 = .ok (.invokestatic 59, 3) := by decide +kernel
theorem dX5_came_18 : decode cX5_came 18 = .ok (.ifCond .ne 6, 3) := by decide +kernel
theorem dX5_came_21 : decode cX5_came 21 = .ok (.bipush (-2), 2) := by decide +kernel
theorem dX5_came_23 : decode cX5_came 23 = .ok (.ireturn, 1) := by decide +kernel
theorem dX5_came_24 : decode cX5_came 24 = .ok (.aload_n 0, 1) := by decide +kernel
theorem dX5_came_25 : decode cX5_came 25 = .ok (.getfield 12, 3) := by decide +kernel
theorem dX5_came_28 : decode cX5_came 28 = .ok (.getfield 78, 3) := by decide +kernel
theorem dX5_came_31 : decode cX5_came 31 = .ok (.iload_n 1, 1) := by decide +kernel
theorem dX5_came_32 : decode cX5_came 32 = .ok (.iaload, 1) := by decide +kernel
theorem dX5_came_33 : decode cX5_came 33 = .ok (.istore_n 3, 1) := by decide +kernel
theorem dX5_came_34 : decode cX5_came 34 = .ok (.aload_n 0, 1) := by decide +kernel
theorem dX5_came_35 : decode cX5_came 35 = .ok (.getfield 12, 3) := by decide +kernel
theorem dX5_came_38 : decode cX5_came 38 = .ok (.getfield 86, 3) := by decide +kernel
theorem dX5_came_41 : decode cX5_came 41 = .ok (.iload_n 1, 1) := by decide +kernel
theorem dX5_came_42 : decode cX5_came 42 = .ok (.iaload, 1) := by decide +kernel
theorem dX5_came_43 : decode cX5_came 43 = .ok (.istore 4, 2) := by decide +kernel
theorem dX5_came_45 : decode cX5_came 45 = .ok (.iload_n 3, 1) := by decide +kernel
theorem dX5_came_46 : decode cX5_came 46 = .ok (.bipush 8, 2) := by decide +kernel
theorem dX5_came_48 : decode cX5_came 48 = .ok (.irem, 1) := by decide +kernel
theorem dX5_came_49 : decode cX5_came 49 = .ok (.istore 5, 2) := by decide +kernel
theorem dX5_came_51 : decode cX5_came 51 = .ok (.iconst 1, 1) := by decide +kernel
theorem dX5_came_52 : decode cX5_came 52 = .ok (.istore 6, 2) := by decide +kernel
theorem dX5_came_54 : decode cX5_came 54 = .ok (.iload 6, 2) := by decide +kernel
theorem dX5_came_56 : decode cX5_came 56 = .ok (.iload_n 2, 1) := by decide +kernel
theorem dX5_came_57 : decode cX5_came 57 = .ok (.if_icmp .gt 88, 3) := by decide +kernel
theorem dX5_came_60 : decode cX5_came 60 = .ok (.iload 4, 2) := by decide +kernel
theorem dX5_came_62 : decode cX5_came 62 = .ok (.bipush 12, 2) := by decide +kernel
theorem dX5_came_64 : decode cX5_came 64 = .ok (.if_icmp .gt 11, 3) := by decide +kernel
theorem dX5_came_67 : decode cX5_came 67 = .ok (.bipush 12, 2) := by decide +kernel
theorem dX5_came_69 : decode cX5_came 69 = .ok (.iload 4, 2) := by decide +kernel
theorem dX5_came_71 : decode cX5_came 71 = .ok (.isub, 1) := by decide +kernel
theorem dX5_came_72 : decode cX5_came 72 = .ok (.goto 12, 3) := by decide +kernel
theorem dX5_came_75 : decode cX5_came 75 = .ok (.bipush 20, 2) := by decide +kernel
theorem dX5_came_77 : decode cX5_came 77 = .ok (.iload 4, 2) := by decide +kernel
theorem dX5_came_79 : decode cX5_came 79 = .ok (.iconst 1, 1) := by decide +kernel
theorem dX5_came_80 : decode cX5_came 80 = .ok (.iadd, 1) := by decide +kernel
theorem dX5_came_81 : decode cX5_came 81 = .ok (.invokestatic 175, 3) := by decide +kernel
theorem dX5_came_84 : decode cX5_came 84 = .ok (.istore 4, 2) := by decide +kernel
theorem dX5_came_86 : decode cX5_came 86 = .ok (.aload_n 0, 1) := by decide +kernel
theorem dX5_came_87 : decode cX5_came 87 = .ok (.getfield 12, 3) := by decide +kernel
theorem dX5_came_90 : decode cX5_came 90 = .ok (.getfield 105, 3) := by decide +kernel
theorem dX5_came_93 : decode cX5_came 93 = .ok (.iload_n 1, 1) := by decide +kernel
theorem dX5_came_94 : decode cX5_came 94 = .ok (.iaload, 1) := by decide +kernel
theorem dX5_came_95 : decode cX5_came 95 = .ok (.aload_n 0, 1) := by decide +kernel
theorem dX5_came_96 : decode cX5_came 96 = .ok (.getfield 12, 3) := by decide +kernel
theorem dX5_came_99 : decode cX5_came 99 = .ok (.getfield 89, 3) := by decide +kernel
theorem dX5_came_102 : decode cX5_came 102 = .ok (.iload_n 1, 1) := by decide +kernel
theorem dX5_came_103 : decode cX5_came 103 = .ok (.iaload, 1) := by decide +kernel
theorem dX5_came_104 : decode cX5_came 104 = .ok (.iload 4, 2) := by decide +kernel
theorem dX5_came_106 : decode cX5_came 106 = .ok (.invokestatic 118, 3) := by decide +kernel
theorem dX5_came_109 : decode cX5_came 109 = .ok (.istore 7, 2) := by decide +kernel
theorem dX5_came_111 : decode cX5_came 111 = .ok (.iload 5, 2) := by decide +kernel
theorem dX5_came_113 : decode cX5_came 113 = .ok (.aload_n 0, 1) := by decide +kernel
theorem dX5_came_114 : decode cX5_came 114 = .ok (.getfield 12, 3) := by decide +kernel
theorem dX5_came_117 : decode cX5_came 117 = .ok (.getfield 157, 3) := by decide +kernel
theorem dX5_came_120 : decode cX5_came 120 = .ok (.iload 6, 2) := by decide +kernel
theorem dX5_came_122 : decode cX5_came 122 = .ok (.isub, 1) := by decide +kernel
theorem dX5_came_123 : decode cX5_came 123 = .ok (.iconst 2, 1) := by decide +kernel
theorem dX5_came_124 : decode cX5_came 124 = .ok (.irem, 1) := by decide +kernel
theorem dX5_came_125 : decode cX5_came 125 = .ok (.ifCond .ne 9, 3) := by decide +kernel
theorem dX5_came_128 : decode cX5_came 128 = .ok (.iload 7, 2) := by decide +kernel
theorem dX5_came_130 : decode cX5_came 130 = .ok (.ineg, 1) := by decide +kernel
theorem dX5_came_131 : decode cX5_came 131 = .ok (.goto 5, 3) := by decide +kernel
theorem dX5_came_134 : decode cX5_came 134 = .ok (.iload 7, 2) := by decide +kernel
theorem dX5_came_136 : decode cX5_came 136 = .ok (.iadd, 1) := by decide +kernel
theorem dX5_came_137 : decode cX5_came 137 = .ok (.istore 5, 2) := by decide +kernel
theorem dX5_came_139 : decode cX5_came 139 = .ok (.iinc 6 1, 3) := by decide +kernel
theorem dX5_came_142 : decode cX5_came 142 = .ok (.goto (-88), 3) := by decide +kernel
theorem dX5_came_145 : decode cX5_came 145 = .ok (.iload_n 3, 1) := by decide +kernel
theorem dX5_came_146 : decode cX5_came 146 = .ok (.iload_n 3, 1) := by decide +kernel
theorem dX5_came_147 : decode cX5_came 147 = .ok (.bipush 8, 2) := by decide +kernel
theorem dX5_came_149 : decode cX5_came 149 = .ok (.irem, 1) := by decide +kernel
theorem dX5_came_150 : decode cX5_came 150 = .ok (.isub, 1) := by decide +kernel
theorem dX5_came_151 : decode cX5_came 151 = .ok (.iload 5, 2) := by decide +kernel
theorem dX5_came_153 : decode cX5_came 153 = .ok (.bipush 7, 2) := by decide +kernel
theorem dX5_came_155 : decode cX5_came 155 = .ok (.invokestatic 186, 3) := by decide +kernel
theorem dX5_came_158 : decode cX5_came 158 = .ok (.iadd, 1) := by decide +kernel
theorem dX5_came_159 : decode cX5_came 159 = .ok (.ireturn, 1) := by decide +kernel
theorem dX5_dots_0 : decode cX5_dots 0 = .ok (.iload_n 1, 1) := by decide +kernel
theorem dX5_dots_1 : decode cX5_dots 1 = .ok (.invokestatic 63, 3) := by decide +kernel
theorem dX5_dots_4 : decode cX5_dots 4 = .ok (.ifCond .ne 6, 3) := by decide +kernel
theorem dX5_dots_7 : decode cX5_dots 7 = .ok (.bipush (-2), 2) := by decide +kernel
theorem dX5_dots_9 : decode cX5_dots 9 = .ok (.ireturn, 1) := by decide +kernel
theorem dX5_dots_10 : decode cX5_dots 10 = .ok (.aload_n 0, 1) := by decide +kernel
theorem dX5_dots_11 : decode cX5_dots 11 = .ok (.getfield 12, 3) := by decide +kernel
theorem dX5_dots_14 : decode cX5_dots 14 = .ok (.iload_n 1, 1) := by decide +kernel
theorem dX5_dots_15 : decode cX5_dots 15 = .ok (.invokevirtual 189, 3) := by decide +kernel
theorem dX5_dots_18 : decode cX5_dots 18 = .ok (.ireturn, 1) := by decide +kernel
theorem dX5_thick_0 : decode cX5_thick 0 = .ok (.iconst (-1), 1) := by decide +kernel
theorem dX5_thick_1 : decode cX5_thick 1 = .ok (.istore_n 1, 1) := by decide +kernel
theorem dX5_thick_2 : decode cX5_thick 2 = .ok (.iconst 0, 1) := by decide +kernel
theorem dX5_thick_3 : decode cX5_thick 3 = .ok (.istore_n 2, 1) := by decide +kernel
theorem dX5_thick_4 : decode cX5_thick 4 = .ok (.iconst 0, 1) := by decide +kernel
theorem dX5_thick_5 : decode cX5_thick 5 = .ok (.istore_n 3, 1) := by decide +kernel
theorem dX5_thick_6 : decode cX5_thick 6 = .ok (.iload_n 3, 1) := by decide +kernel
theorem dX5_thick_7 : decode cX5_thick 7 = .ok (.bipush 48, 2) := by decide +kernel
theorem dX5_thick_9 : decode cX5_thick 9 = .ok (.if_icmp .ge 30, 3) := by decide +kernel
theorem dX5_thick_12 : decode cX5_thick 12 = .ok (.aload_n 0, 1) := by decide +kernel
theorem dX5_thick_13 : decode cX5_thick 13 = .ok (.getfield 12, 3) := by decide +kernel
theorem dX5_thick_16 : decode cX5_thick 16 = .ok (.iload_n 3, 1) := by decide +kernel
theorem dX5_thick_17 : decode cX5_thick 17 = .ok (.invokevirtual 189, 3) := by decide +kernel
theorem dX5_thick_20 : decode cX5_thick 20 = .ok (.istore 4, 2) := by decide +kernel
theorem dX5_thick_22 : decode cX5_thick 22 = .ok (.iload 4, 2) := by decide +kernel
theorem dX5_thick_24 : decode cX5_thick 24 = .ok (.iload_n 2, 1) := by decide +kernel
theorem dX5_thick_25 : decode cX5_thick 25 = .ok (.if_icmp .le 8, 3) := by decide +kernel
theorem dX5_thick_28 : decode cX5_thick 28 = .ok (.iload 4, 2) := by decide +kernel
theorem dX5_thick_30 : decode cX5_thick 30 = .ok (.istore_n 2, 1) := by decide +kernel
theorem dX5_thick_31 : decode cX5_thick 31 = .ok (.iload_n 3, 1) := by decide +kernel
theorem dX5_thick_32 : decode cX5_thick 32 = .ok (.istore_n 1, 1) := by decide +kernel
theorem dX5_thick_33 : decode cX5_thick 33 = .ok (.iinc 3 1, 3) := by decide +kernel
theorem dX5_thick_36 : decode cX5_thick 36 = .ok (.goto (-30), 3) := by decide +kernel
theorem dX5_thick_39 : decode cX5_thick 39 = .ok (.iload_n 1, 1) := by decide +kernel
theorem dX5_thick_40 : decode cX5_thick 40 = .ok (.ireturn, 1) := by decide +kernel
theorem dX5_judge_0 : decode cX5_judge 0 = .ok (.iload_n 1, 1) := by decide +kernel
theorem dX5_judge_1 : decode cX5_judge 1 = .ok (.invokestatic 192, 3) := by decide +kernel
theorem dX5_judge_4 : decode cX5_judge 4 = .ok (.ifCond .eq 12, 3) := by decide +kernel
theorem dX5_judge_7 : decode cX5_judge 7 = .ok (.iload_n 2, 1) := by decide +kernel
theorem dX5_judge_8 : decode cX5_judge 8 = .ok (.iconst 0, 1) := by decide +kernel
theorem dX5_judge_9 : decode cX5_judge 9 = .ok (.iconst 1, 1) := by decide +kernel
theorem dX5_judge_10 : decode cX5_judge 10 = .ok (.invokestatic 59, 3) := by decide +kernel
theorem dX5_judge_13 : decode cX5_judge 13 = .ok (.ifCond .ne 6, 3) := by decide +kernel
theorem dX5_judge_16 : decode cX5_judge 16 = .ok (.bipush (-2), 2) := by decide +kernel
theorem dX5_judge_18 : decode cX5_judge 18 = .ok (.ireturn, 1) := by decide +kernel
theorem dX5_judge_19 : decode cX5_judge 19 = .ok (.aload_n 0, 1) := by decide +kernel
theorem dX5_judge_20 : decode cX5_judge 20 = .ok (.getfield 51, 3) := by decide +kernel
theorem dX5_judge_23 : decode cX5_judge 23 = .ok (.iload_n 1, 1) := by decide +kernel
theorem dX5_judge_24 : decode cX5_judge 24 = .ok (.invokevirtual 195, 3) := by decide +kernel
theorem dX5_judge_27 : decode cX5_judge 27 = .ok (.iconst (-1), 1) := by decide +kernel
theorem dX5_judge_28 : decode cX5_judge 28 = .ok (.if_icmp .ne 6, 3) := by decide +kernel
theorem dX5_judge_31 : decode cX5_judge 31 = .ok (.bipush (-11), 2) := by decide +kernel
theorem dX5_judge_33 : decode cX5_judge 33 = .ok (.ireturn, 1) := by decide +kernel
theorem dX5_judge_34 : decode cX5_judge 34 = .ok (.iconst (-1), 1) := by decide +kernel
theorem dX5_judge_35 : decode cX5_judge 35 = .ok (.istore_n 3, 1) := by decide +kernel
theorem dX5_judge_36 : decode cX5_judge 36 = .ok (.iconst 0, 1) := by decide +kernel
theorem dX5_judge_37 : decode cX5_judge 37 = .ok (.istore 4, 2) := by decide +kernel
theorem dX5_judge_39 : decode cX5_judge 39 = .ok (.iconst 0, 1) := by decide +kernel
theorem dX5_judge_40 : decode cX5_judge 40 = .ok (.istore 5, 2) := by decide +kernel
theorem dX5_judge_42 : decode cX5_judge 42 = .ok (.iload 5, 2) := by decide +kernel
theorem dX5_judge_44 : decode cX5_judge 44 = .ok (.aload_n 0, 1) := by decide +kernel
theorem dX5_judge_45 : decode cX5_judge 45 = .ok (.getfield 51, 3) := by decide +kernel
theorem dX5_judge_48 : decode cX5_judge 48 = .ok (.iload_n 1, 1) := by decide +kernel
theorem dX5_judge_49 : decode cX5_judge 49 = .ok (.invokevirtual 198, 3) := by decide +kernel
theorem dX5_judge_52 : decode cX5_judge 52 = .ok (.if_icmp .ge 45, 3) := by decide +kernel
theorem dX5_judge_55 : decode cX5_judge 55 = .ok (.aload_n 0, 1) := by decide +kernel
theorem dX5_judge_56 : decode cX5_judge 56 = .ok (.getfield 51, 3) := by decide +kernel
theorem dX5_judge_59 : decode cX5_judge 59 = .ok (.iload_n 1, 1) := by decide +kernel
theorem dX5_judge_60 : decode cX5_judge 60 = .ok (.iload 5, 2) := by decide +kernel
theorem dX5_judge_62 : decode cX5_judge 62 = .ok (.invokevirtual 201, 3) := by decide +kernel
theorem dX5_judge_65 : decode cX5_judge 65 = .ok (.aload_n 0, 1) := by decide +kernel
theorem dX5_judge_66 : decode cX5_judge 66 = .ok (.getfield 12, 3) := by decide +kernel
theorem dX5_judge_69 : decode cX5_judge 69 = .ok (.iload 5, 2) := by decide +kernel
theorem dX5_judge_71 : decode cX5_judge 71 = .ok (.invokevirtual 189, 3) := by decide +kernel
theorem dX5_judge_74 : decode cX5_judge 74 = .ok (.if_icmp .ne 6, 3) := by decide +kernel
theorem dX5_judge_77 : decode cX5_judge 77 = .ok (.goto 14, 3) := by decide +kernel
theorem dX5_judge_80 : decode cX5_judge 80 = .ok (.iinc 4 1, 3) := by decide +kernel
theorem dX5_judge_83 : decode cX5_judge 83 = .ok (.iload_n 3, 1) := by decide +kernel
theorem dX5_judge_84 : decode cX5_judge 84 = .ok (.iconst (-1), 1) := by decide +kernel
theorem dX5_judge_85 : decode cX5_judge 85 = .ok (.if_icmp .ne 6, 3) := by decide +kernel
theorem dX5_judge_88 : decode cX5_judge 88 = .ok (.iload 5, 2) := by decide +kernel
theorem dX5_judge_90 : decode cX5_judge 90 = .ok (.istore_n 3, 1) := by decide +kernel
theorem dX5_judge_91 : decode cX5_judge 91 = .ok (.iinc 5 1, 3) := by decide +kernel
theorem dX5_judge_94 : decode cX5_judge 94 = .ok (.goto (-52), 3) := by decide +kernel
theorem dX5_judge_97 : decode cX5_judge 97 = .ok (.iload_n 2, 1) := by decide +kernel
theorem dX5_judge_98 : decode cX5_judge 98 = .ok (.ifCond .ne 7, 3) := by decide +kernel
theorem dX5_judge_101 : decode cX5_judge 101 = .ok (.iload_n 3, 1) := by decide +kernel
theorem dX5_judge_102 : decode cX5_judge 102 = .ok (.goto 5, 3) := by decide +kernel
theorem dX5_judge_105 : decode cX5_judge 105 = .ok (.iload 4, 2) := by decide +kernel
theorem dX5_judge_107 : decode cX5_judge 107 = .ok (.ireturn, 1) := by decide +kernel
theorem dX5_unseen_0 : decode cX5_unseen 0 = .ok (.aload_n 0, 1) := by decide +kernel
theorem dX5_unseen_1 : decode cX5_unseen 1 = .ok (.getfield 12, 3) := by decide +kernel
theorem dX5_unseen_4 : decode cX5_unseen 4 = .ok (.invokevirtual 204, 3) := by decide +kernel
theorem dX5_unseen_7 : decode cX5_unseen 7 = .ok (.aload_n 0, 1) := by decide +kernel
theorem dX5_unseen_8 : decode cX5_unseen 8 = .ok (.getfield 12, 3) := by decide +kernel
theorem dX5_unseen_11 : decode cX5_unseen 11 = .ok (.getfield 148, 3) := by decide +kernel
theorem dX5_unseen_14 : decode cX5_unseen 14 = .ok (.iconst (-1), 1) := by decide +kernel
theorem dX5_unseen_15 : decode cX5_unseen 15 = .ok (.ixor, 1) := by decide +kernel
theorem dX5_unseen_16 : decode cX5_unseen 16 = .ok (.iand, 1) := by decide +kernel
theorem dX5_unseen_17 : decode cX5_unseen 17 = .ok (.ireturn, 1) := by decide +kernel
theorem dX5_left_0 : decode cX5_left 0 = .ok (.iload_n 1, 1) := by decide +kernel
theorem dX5_left_1 : decode cX5_left 1 = .ok (.iconst 0, 1) := by decide +kernel
theorem dX5_left_2 : decode cX5_left 2 = .ok (.iconst 1, 1) := by decide +kernel
theorem dX5_left_3 : decode cX5_left 3 = .ok (.invokestatic 59, 3) := by decide +kernel
theorem dX5_left_6 : decode cX5_left 6 = .ok (.ifCond .ne 6, 3) := by decide +kernel
theorem dX5_left_9 : decode cX5_left 9 = .ok (.bipush (-2), 2) := by decide +kernel
theorem dX5_left_11 : decode cX5_left 11 = .ok (.ireturn, 1) := by decide +kernel
