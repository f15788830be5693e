theorem dX0_init_0 : decode cX0_init 0 = .ok (.aload_n 0, 1) := by decide +kernel
theorem dX0_init_1 : decode cX0_init 1 = .ok (.invokespecial 3, 3) := by decide +kernel
theorem dX0_init_4 : decode cX0_init 4 = .ok (.aload_n 0, 1) := by decide +kernel
theorem dX0_init_5 : decode cX0_init 5 = .ok (.bipush 12, 2) := by decide +kernel
theorem dX0_init_7 : decode cX0_init 7 = .ok (.newarray .int, 2) := by decide +kernel
theorem dX0_init_9 : decode cX0_init 9 = .ok (.putfield 9, 3) := by decide +kernel
theorem dX0_init_12 : decode cX0_init 12 = .ok (.aload_n 0, 1) := by decide +kernel
theorem dX0_init_13 : decode cX0_init 13 = .ok (.bipush 12, 2) := by decide +kernel
theorem dX0_init_15 : decode cX0_init 15 = .ok (.newarray .int, 2) := by decide +kernel
theorem dX0_init_17 : decode cX0_init 17 = .ok (.putfield 15, 3) := by decide +kernel
theorem dX0_init_20 : decode cX0_init 20 = .ok (.aload_n 0, 1) := by decide +kernel
theorem dX0_init_21 : decode cX0_init 21 = .ok (.bipush 12, 2) := by decide +kernel
theorem dX0_init_23 : decode cX0_init 23 = .ok (.newarray .int, 2) := by decide +kernel
theorem dX0_init_25 : decode cX0_init 25 = .ok (.putfield 18, 3) := by decide +kernel
theorem dX0_init_28 : decode cX0_init 28 = .ok (.aload_n 0, 1) := by decide +kernel
theorem dX0_init_29 : decode cX0_init 29 = .ok (.bipush 12, 2) := by decide +kernel
theorem dX0_init_31 : decode cX0_init 31 = .ok (.newarray .int, 2) := by decide +kernel
theorem dX0_init_33 : decode cX0_init 33 = .ok (.putfield 21, 3) := by decide +kernel
theorem dX0_init_36 : decode cX0_init 36 = .ok (.aload_n 0, 1) := by decide +kernel
theorem dX0_init_37 : decode cX0_init 37 = .ok (.iconst 0, 1) := by decide +kernel
theorem dX0_init_38 : decode cX0_init 38 = .ok (.putfield 24, 3) := by decide +kernel
theorem dX0_init_41 : decode cX0_init 41 = .ok (.aload_n 0, 1) := by decide +kernel
theorem dX0_init_42 : decode cX0_init 42 = .ok (.iconst 0, 1) := by decide +kernel
theorem dX0_init_43 : decode cX0_init 43 = .ok (.putfield 28, 3) := by decide +kernel
theorem dX0_init_46 : decode cX0_init 46 = .ok (.aload_n 0, 1) := by decide +kernel
theorem dX0_init_47 : decode cX0_init 47 = .ok (.iconst 0, 1) := by decide +kernel
theorem dX0_init_48 : decode cX0_init 48 = .ok (.putfield 31, 3) := by decide +kernel
theorem dX0_init_51 : decode cX0_init 51 = .ok (.aload_n 0, 1) := by decide +kernel
theorem dX0_init_52 : decode cX0_init 52 = .ok (.iconst 3, 1) := by decide +kernel
theorem dX0_init_53 : decode cX0_init 53 = .ok (.putfield 34, 3) := by decide +kernel
theorem dX0_init_56 : decode cX0_init 56 = .ok (.aload_n 0, 1) := by decide +kernel
theorem dX0_init_57 : decode cX0_init 57 = .ok (.iconst 0, 1) := by decide +kernel
theorem dX0_init_58 : decode cX0_init 58 = .ok (.putfield 37, 3) := by decide +kernel
theorem dX0_init_61 : decode cX0_init 61 = .ok (.aload_n 0, 1) := by decide +kernel
theorem dX0_init_62 : decode cX0_init 62 = .ok (.iconst 0, 1) := by decide +kernel
theorem dX0_init_63 : decode cX0_init 63 = .ok (.putfield 40, 3) := by decide +kernel
theorem dX0_init_66 : decode cX0_init 66 = .ok (.aload_n 0, 1) := by decide +kernel
theorem dX0_init_67 : decode cX0_init 67 = .ok (.iconst 0, 1) := by decide +kernel
theorem dX0_init_68 : decode cX0_init 68 = .ok (.putfield 43, 3) := by decide +kernel
theorem dX0_init_71 : decode cX0_init 71 = .ok (.return_, 1) := by decide +kernel
theorem dX0_has_0 : decode cX0_has 0 = .ok (.iload_n 1, 1) := by decide +kernel
theorem dX0_has_1 : decode cX0_has 1 = .ok (.ifCond .lt 15, 3) := by decide +kernel
theorem dX0_has_4 : decode cX0_has 4 = .ok (.iload_n 1, 1) := by decide +kernel
theorem dX0_has_5 : decode cX0_has 5 = .ok (.aload_n 0, 1) := by decide +kernel
theorem dX0_has_6 : decode cX0_has 6 = .ok (.getfield 24, 3) := by decide +kernel
theorem dX0_has_9 : decode cX0_has 9 = .ok (.if_icmp .ge 7, 3) := by decide +kernel
theorem dX0_has_12 : decode cX0_has 12 = .ok (.iconst 1, 1) := by decide +kernel
theorem dX0_has_13 : decode cX0_has 13 = .ok (.goto 4, 3) := by decide +kernel
theorem dX0_has_16 : decode cX0_has 16 = .ok (.iconst 0, 1) := by decide +kernel
theorem dX0_has_17 : decode cX0_has 17 = .ok (.ireturn, 1) := by decide +kernel
theorem dX0_lies_0 : decode cX0_lies 0 = .ok (.aload_n 0, 1) := by decide +kernel
theorem dX0_lies_1 : decode cX0_lies 1 = .ok (.iload_n 1, 1) := by decide +kernel
theorem dX0_lies_2 : decode cX0_lies 2 = .ok (.invokevirtual 46, 3) := by decide +kernel
theorem dX0_lies_5 : decode cX0_lies 5 = .ok (.ifCond .eq 18, 3) := by decide +kernel
theorem dX0_lies_8 : decode cX0_lies 8 = .ok (.aload_n 0, 1) := by decide +kernel
theorem dX0_lies_9 : decode cX0_lies 9 = .ok (.getfield 28, 3) := by decide +kernel
theorem dX0_lies_12 : decode cX0_lies 12 = .ok (.iload_n 1, 1) := by decide +kernel
theorem dX0_lies_13 : decode cX0_lies 13 = .ok (.ishr, 1) := by decide +kernel
theorem dX0_lies_14 : decode cX0_lies 14 = .ok (.iconst 1, 1) := by decide +kernel
theorem dX0_lies_15 : decode cX0_lies 15 = .ok (.iand, 1) := by decide +kernel
theorem dX0_lies_16 : decode cX0_lies 16 = .ok (.ifCond .ne 7, 3) := by decide +kernel
theorem dX0_lies_19 : decode cX0_lies 19 = .ok (.iconst 1, 1) := by decide +kernel
theorem dX0_lies_20 : decode cX0_lies 20 = .ok (.goto 4, 3) := by decide +kernel
theorem dX0_lies_23 : decode cX0_lies 23 = .ok (.iconst 0, 1) := by decide +kernel
theorem dX0_lies_24 : decode cX0_lies 24 = .ok (.ireturn, 1) := by decide +kernel
theorem dX0_lying_0 : decode cX0_lying 0 = .ok (.aload_n 0, 1) := by decide +kernel
theorem dX0_lying_1 : decode cX0_lying 1 = .ok (.getfield 24, 3) := by decide +kernel
theorem dX0_lying_4 : decode cX0_lying 4 = .ok (.aload_n 0, 1) := by decide +kernel
theorem dX0_lying_5 : decode cX0_lying 5 = .ok (.getfield 28, 3) := by decide +kernel
theorem dX0_lying_8 : decode cX0_lying 8 = .ok (.invokestatic 50, 3) := by decide +kernel
theorem dX0_lying_11 : decode cX0_lying 11 = .ok (.isub, 1) := by decide +kernel
theorem dX0_lying_12 : decode cX0_lying 12 = .ok (.ireturn, 1) := by decide +kernel
theorem dX0_lay_0 : decode cX0_lay 0 = .ok (.aload_n 0, 1) := by decide +kernel
theorem dX0_lay_1 : decode cX0_lay 1 = .ok (.getfield 24, 3) := by decide +kernel
theorem dX0_lay_4 : decode cX0_lay 4 = .ok (.bipush 12, 2) := by decide +kernel
theorem dX0_lay_6 : decode cX0_lay 6 = .ok (.if_icmp .lt 6, 3) := by decide +kernel
theorem dX0_lay_9 : decode cX0_lay 9 = .ok (.bipush (-4), 2) := by decide +kernel
theorem dX0_lay_11 : decode cX0_lay 11 = .ok (.ireturn, 1) := by decide +kernel
theorem dX0_lay_12 : decode cX0_lay 12 = .ok (.aload_n 0, 1) := by decide +kernel
theorem dX0_lay_13 : decode cX0_lay 13 = .ok (.getfield 9, 3) := by decide +kernel
theorem dX0_lay_16 : decode cX0_lay 16 = .ok (.aload_n 0, 1) := by decide +kernel
theorem dX0_lay_17 : decode cX0_lay 17 = .ok (.getfield 24, 3) := by decide +kernel
theorem dX0_lay_20 : decode cX0_lay 20 = .ok (.iload_n 1, 1) := by decide +kernel
theorem dX0_lay_21 : decode cX0_lay 21 = .ok (.iastore, 1) := by decide +kernel
theorem dX0_lay_22 : decode cX0_lay 22 = .ok (.aload_n 0, 1) := by decide +kernel
theorem dX0_lay_23 : decode cX0_lay 23 = .ok (.getfield 15, 3) := by decide +kernel
theorem dX0_lay_26 : decode cX0_lay 26 = .ok (.aload_n 0, 1) := by decide +kernel
theorem dX0_lay_27 : decode cX0_lay 27 = .ok (.getfield 24, 3) := by decide +kernel
theorem dX0_lay_30 : decode cX0_lay 30 = .ok (.iload_n 2, 1) := by decide +kernel
theorem dX0_lay_31 : decode cX0_lay 31 = .ok (.iastore, 1) := by decide +kernel
theorem dX0_lay_32 : decode cX0_lay 32 = .ok (.aload_n 0, 1) := by decide +kernel
theorem dX0_lay_33 : decode cX0_lay 33 = .ok (.getfield 18, 3) := by decide +kernel
theorem dX0_lay_36 : decode cX0_lay 36 = .ok (.aload_n 0, 1) := by decide +kernel
theorem dX0_lay_37 : decode cX0_lay 37 = .ok (.getfield 24, 3) := by decide +kernel
theorem dX0_lay_40 : decode cX0_lay 40 = .ok (.iload_n 3, 1) := by decide +kernel
theorem dX0_lay_41 : decode cX0_lay 41 = .ok (.iastore, 1) := by decide +kernel
theorem dX0_lay_42 : decode cX0_lay 42 = .ok (.aload_n 0, 1) := by decide +kernel
theorem dX0_lay_43 : decode cX0_lay 43 = .ok (.getfield 21, 3) := by decide +kernel
theorem dX0_lay_46 : decode cX0_lay 46 = .ok (.aload_n 0, 1) := by decide +kernel
theorem dX0_lay_47 : decode cX0_lay 47 = .ok (.getfield 24, 3) := by decide +kernel
theorem dX0_lay_50 : decode cX0_lay 50 = .ok (.iload 4, 2) := by decide +kernel
theorem dX0_lay_52 : decode cX0_lay 52 = .ok (.iastore, 1) := by decide +kernel
theorem dX0_lay_53 : decode cX0_lay 53 = .ok (.aload_n 0, 1) := by decide +kernel
theorem dX0_lay_54 : decode cX0_lay 54 = .ok (.dup, 1) := by decide +kernel
theorem dX0_lay_55 : decode cX0_lay 55 = .ok (.getfield 24, 3) := by decide +kernel
theorem dX0_lay_58 : decode cX0_lay 58 = .ok (.iconst 1, 1) := by decide +kernel
theorem dX0_lay_59 : decode cX0_lay 59 = .ok (.iadd, 1) := by decide +kernel
theorem dX0_lay_60 : decode cX0_lay 60 = .ok (.putfield 24, 3) := by decide +kernel
theorem dX0_lay_63 : decode cX0_lay 63 = .ok (.aload_n 0, 1) := by decide +kernel
theorem dX0_lay_64 : decode cX0_lay 64 = .ok (.getfield 24, 3) := by decide +kernel
theorem dX0_lay_67 : decode cX0_lay 67 = .ok (.iconst 1, 1) := by decide +kernel
theorem dX0_lay_68 : decode cX0_lay 68 = .ok (.isub, 1) := by decide +kernel
theorem dX0_lay_69 : decode cX0_lay 69 = .ok (.ireturn, 1) := by decide +kernel
theorem dX0_layAs_0 : decode cX0_layAs 0 = .ok (.aload_n 1, 1) := by decide +kernel
theorem dX0_layAs_1 : decode cX0_layAs 1 = .ok (.getfield 15, 3) := by decide +kernel
theorem dX0_layAs_4 : decode cX0_layAs 4 = .ok (.iconst 0, 1) := by decide +kernel
theorem dX0_layAs_5 : decode cX0_layAs 5 = .ok (.aload_n 0, 1) := by decide +kernel
theorem dX0_layAs_6 : decode cX0_layAs 6 = .ok (.getfield 15, 3) := by decide +kernel
theorem dX0_layAs_9 : decode cX0_layAs 9 = .ok (.iconst 0, 1) := by decide +kernel
theorem dX0_layAs_10 : decode cX0_layAs 10 = .ok (.bipush 12, 2) := by decide +kernel
theorem dX0_layAs_12 : decode cX0_layAs 12 = .ok (.invokestatic 56, 3) := by decide +kernel
theorem dX0_layAs_15 : decode cX0_layAs 15 = .ok (.aload_n 1, 1) := by decide +kernel
theorem dX0_layAs_16 : decode cX0_layAs 16 = .ok (.getfield 18, 3) := by decide +kernel
theorem dX0_layAs_19 : decode cX0_layAs 19 = .ok (.iconst 0, 1) := by decide +kernel
theorem dX0_layAs_20 : decode cX0_layAs 20 = .ok (.aload_n 0, 1) := by decide +kernel
theorem dX0_layAs_21 : decode cX0_layAs 21 = .ok (.getfield 18, 3) := by decide +kernel
theorem dX0_layAs_24 : decode cX0_layAs 24 = .ok (.iconst 0, 1) := by decide +kernel
theorem dX0_layAs_25 : decode cX0_layAs 25 = .ok (.bipush 12, 2) := by decide +kernel
theorem dX0_layAs_27 : decode cX0_layAs 27 = .ok (.invokestatic 56, 3) := by decide +kernel
theorem dX0_layAs_30 : decode cX0_layAs 30 = .ok (.aload_n 0, 1) := by decide +kernel
theorem dX0_layAs_31 : decode cX0_layAs 31 = .ok (.aload_n 1, 1) := by decide +kernel
theorem dX0_layAs_32 : decode cX0_layAs 32 = .ok (.getfield 24, 3) := by decide +kernel
theorem dX0_layAs_35 : decode cX0_layAs 35 = .ok (.putfield 24, 3) := by decide +kernel
theorem dX0_layAs_38 : decode cX0_layAs 38 = .ok (.aload_n 0, 1) := by decide +kernel
theorem dX0_layAs_39 : decode cX0_layAs 39 = .ok (.aload_n 1, 1) := by decide +kernel
theorem dX0_layAs_40 : decode cX0_layAs 40 = .ok (.getfield 28, 3) := by decide +kernel
theorem dX0_layAs_43 : decode cX0_layAs 43 = .ok (.putfield 28, 3) := by decide +kernel
theorem dX0_layAs_46 : decode cX0_layAs 46 = .ok (.aload_n 0, 1) := by decide +kernel
theorem dX0_layAs_47 : decode cX0_layAs 47 = .ok (.aload_n 1, 1) := by decide +kernel
theorem dX0_layAs_48 : decode cX0_layAs 48 = .ok (.getfield 31, 3) := by decide +kernel
theorem dX0_layAs_51 : decode cX0_layAs 51 = .ok (.putfield 31, 3) := by decide +kernel
theorem dX0_layAs_54 : decode cX0_layAs 54 = .ok (.aload_n 0, 1) := by decide +kernel
theorem dX0_layAs_55 : decode cX0_layAs 55 = .ok (.aload_n 1, 1) := by decide +kernel
theorem dX0_layAs_56 : decode cX0_layAs 56 = .ok (.getfield 34, 3) := by decide +kernel
theorem dX0_layAs_59 : decode cX0_layAs 59 = .ok (.putfield 34, 3) := by decide +kernel
theorem dX0_layAs_62 : decode cX0_layAs 62 = .ok (.aload_n 0, 1) := by decide +kernel
theorem dX0_layAs_63 : decode cX0_layAs 63 = .ok (.aload_n 1, 1) := by decide +kernel
theorem dX0_layAs_64 : decode cX0_layAs 64 = .ok (.getfield 37, 3) := by decide +kernel
theorem dX0_layAs_67 : decode cX0_layAs 67 = .ok (.putfield 37, 3) := by decide +kernel
theorem dX0_layAs_70 : decode cX0_layAs 70 = .ok (.aload_n 0, 1) := by decide +kernel
theorem dX0_layAs_71 : decode cX0_layAs 71 = .ok (.aload_n 1, 1) := by decide +kernel
theorem dX0_layAs_72 : decode cX0_layAs 72 = .ok (.getfield 40, 3) := by decide +kernel
theorem dX0_layAs_75 : decode cX0_layAs 75 = .ok (.putfield 40, 3) := by decide +kernel
theorem dX0_layAs_78 : decode cX0_layAs 78 = .ok (.aload_n 0, 1) := by decide +kernel
theorem dX0_layAs_79 : decode cX0_layAs 79 = .ok (.aload_n 1, 1) := by decide +kernel
theorem dX0_layAs_80 : decode cX0_layAs 80 = .ok (.getfield 43, 3) := by decide +kernel
theorem dX0_layAs_83 : decode cX0_layAs 83 = .ok (.putfield 43, 3) := by decide +kernel
theorem dX0_layAs_86 : decode cX0_layAs 86 = .ok (.return_, 1) := by decide +kernel
theorem dX0_become_0 : decode cX0_become 0 = .ok (.aload_n 0, 1) := by decide +kernel
theorem dX0_become_1 : decode cX0_become 1 = .ok (.aload_n 1, 1) := by decide +kernel
theorem dX0_become_2 : decode cX0_become 2 = .ok (.invokevirtual 62, 3) := by decide +kernel
theorem dX0_become_5 : decode cX0_become 5 = .ok (.aload_n 1, 1) := by decide +kernel
theorem dX0_become_6 : decode cX0_become 6 = .ok (.getfield 9, 3) := by decide +kernel
theorem dX0_become_9 : decode cX0_become 9 = .ok (.iconst 0, 1) := by decide +kernel
theorem dX0_become_10 : decode cX0_become 10 = .ok (.aload_n 0, 1) := by decide +kernel
theorem dX0_become_11 : decode cX0_become 11 = .ok (.getfield 9, 3) := by decide +kernel
theorem dX0_become_14 : decode cX0_become 14 = .ok (.iconst 0, 1) := by decide +kernel
theorem dX0_become_15 : decode cX0_become 15 = .ok (.bipush 12, 2) := by decide +kernel
theorem dX0_become_17 : decode cX0_become 17 = .ok (.invokestatic 56, 3) := by decide +kernel
theorem dX0_become_20 : decode cX0_become 20 = .ok (.aload_n 1, 1) := by decide +kernel
theorem dX0_become_21 : decode cX0_become 21 = .ok (.getfield 21, 3) := by decide +kernel
theorem dX0_become_24 : decode cX0_become 24 = .ok (.iconst 0, 1) := by decide +kernel
theorem dX0_become_25 : decode cX0_become 25 = .ok (.aload_n 0, 1) := by decide +kernel
theorem dX0_become_26 : decode cX0_become 26 = .ok (.getfield 21, 3) := by decide +kernel
theorem dX0_become_29 : decode cX0_become 29 = .ok (.iconst 0, 1) := by decide +kernel
theorem dX0_become_30 : decode cX0_become 30 = .ok (.bipush 12, 2) := by decide +kernel
theorem dX0_become_32 : decode cX0_become 32 = .ok (.invokestatic 56, 3) := by decide +kernel
theorem dX0_become_35 : decode cX0_become 35 = .ok (.return_, 1) := by decide +kernel
theorem dX0_loud_0 : decode cX0_loud 0 = .ok (.aload_n 0, 1) := by decide +kernel
theorem dX0_loud_1 : decode cX0_loud 1 = .ok (.iload_n 1, 1) := by decide +kernel
theorem dX0_loud_2 : decode cX0_loud 2 = .ok (.invokevirtual 46, 3) := by decide +kernel
theorem dX0_loud_5 : decode cX0_loud 5 = .ok (.ifCond .ne 5, 3) := by decide +kernel
theorem dX0_loud_8 : decode cX0_loud 8 = .ok (.iconst 0, 1) := by decide +kernel
theorem dX0_loud_9 : decode cX0_loud 9 = .ok (.ireturn, 1) := by decide +kernel
theorem dX0_loud_10 : decode cX0_loud 10 = .ok (.iconst 0, 1) := by decide +kernel
theorem dX0_loud_11 : decode cX0_loud 11 = .ok (.aload_n 0, 1) := by decide +kernel
theorem dX0_loud_12 : decode cX0_loud 12 = .ok (.getfield 9, 3) := by decide +kernel
theorem dX0_loud_15 : decode cX0_loud 15 = .ok (.iload_n 1, 1) := by decide +kernel
theorem dX0_loud_16 : decode cX0_loud 16 = .ok (.iaload, 1) := by decide +kernel
theorem dX0_loud_17 : decode cX0_loud 17 = .ok (.aload_n 0, 1) := by decide +kernel
theorem dX0_loud_18 : decode cX0_loud 18 = .ok (.getfield 21, 3) := by decide +kernel
theorem dX0_loud_21 : decode cX0_loud 21 = .ok (.iload_n 1, 1) := by decide +kernel
theorem dX0_loud_22 : decode cX0_loud 22 = .ok (.iaload, 1) := by decide +kernel
theorem dX0_loud_23 : decode cX0_loud 23 = .ok (.aload_n 0, 1) := by decide +kernel
theorem dX0_loud_24 : decode cX0_loud 24 = .ok (.getfield 18, 3) := by decide +kernel
theorem dX0_loud_27 : decode cX0_loud 27 = .ok (.iload_n 1, 1) := by decide +kernel
theorem dX0_loud_28 : decode cX0_loud 28 = .ok (.iaload, 1) := by decide +kernel
theorem dX0_loud_29 : decode cX0_loud 29 = .ok (.aload_n 0, 1) := by decide +kernel
theorem dX0_loud_30 : decode cX0_loud 30 = .ok (.getfield 34, 3) := by decide +kernel
theorem dX0_loud_33 : decode cX0_loud 33 = .ok (.aload_n 0, 1) := by decide +kernel
theorem dX0_loud_34 : decode cX0_loud 34 = .ok (.getfield 31, 3) := by decide +kernel
theorem dX0_loud_37 : decode cX0_loud 37 = .ok (.invokestatic 66, 3) := by decide +kernel
theorem dX0_loud_40 : decode cX0_loud 40 = .ok (.invokestatic 70, 3) := by decide +kernel
theorem dX0_loud_43 : decode cX0_loud 43 = .ok (.ireturn, 1) := by decide +kernel
theorem dX0_heard_0 : decode cX0_heard 0 = .ok (.aload_n 0, 1) := by decide +kernel
theorem dX0_heard_1 : decode cX0_heard 1 = .ok (.iload_n 1, 1) := by decide +kernel
theorem dX0_heard_2 : decode cX0_heard 2 = .ok (.invokevirtual 76, 3) := by decide +kernel
theorem dX0_heard_5 : decode cX0_heard 5 = .ok (.ifCond .ne 5, 3) := by decide +kernel
theorem dX0_heard_8 : decode cX0_heard 8 = .ok (.iconst 0, 1) := by decide +kernel
theorem dX0_heard_9 : decode cX0_heard 9 = .ok (.ireturn, 1) := by decide +kernel
theorem dX0_heard_10 : decode cX0_heard 10 = .ok (.aload_n 0, 1) := by decide +kernel
theorem dX0_heard_11 : decode cX0_heard 11 = .ok (.getfield 9, 3) := by decide +kernel
theorem dX0_heard_14 : decode cX0_heard 14 = .ok (.iload_n 1, 1) := by decide +kernel
theorem dX0_heard_15 : decode cX0_heard 15 = .ok (.iaload, 1) := by decide +kernel
theorem dX0_heard_16 : decode cX0_heard 16 = .ok (.aload_n 0, 1) := by decide +kernel
theorem dX0_heard_17 : decode cX0_heard 17 = .ok (.getfield 21, 3) := by decide +kernel
theorem dX0_heard_20 : decode cX0_heard 20 = .ok (.iload_n 1, 1) := by decide +kernel
theorem dX0_heard_21 : decode cX0_heard 21 = .ok (.iaload, 1) := by decide +kernel
theorem dX0_heard_22 : decode cX0_heard 22 = .ok (.aload_n 0, 1) := by decide +kernel
theorem dX0_heard_23 : decode cX0_heard 23 = .ok (.getfield 18, 3) := by decide +kernel
theorem dX0_heard_26 : decode cX0_heard 26 = .ok (.iload_n 1, 1) := by decide +kernel
theorem dX0_heard_27 : decode cX0_heard 27 = .ok (.iaload, 1) := by decide +kernel
theorem dX0_heard_28 : decode cX0_heard 28 = .ok (.aload_n 0, 1) := by decide +kernel
theorem dX0_heard_29 : decode cX0_heard 29 = .ok (.getfield 34, 3) := by decide +kernel
theorem dX0_heard_32 : decode cX0_heard 32 = .ok (.aload_n 0, 1) := by decide +kernel
theorem dX0_heard_33 : decode cX0_heard 33 = .ok (.getfield 31, 3) := by decide +kernel
theorem dX0_heard_36 : decode cX0_heard 36 = .ok (.invokestatic 66, 3) := by decide +kernel
theorem dX0_heard_39 : decode cX0_heard 39 = .ok (.istore_n 2, 1) := by decide +kernel
theorem dX0_heard_40 : decode cX0_heard 40 = .ok (.iconst 0, 1) := by decide +kernel
theorem dX0_heard_41 : decode cX0_heard 41 = .ok (.istore_n 3, 1) := by decide +kernel
theorem dX0_heard_42 : decode cX0_heard 42 = .ok (.iload_n 3, 1) := by decide +kernel
theorem dX0_heard_43 : decode cX0_heard 43 = .ok (.aload_n 0, 1) := by decide +kernel
theorem dX0_heard_44 : decode cX0_heard 44 = .ok (.getfield 24, 3) := by decide +kernel
theorem dX0_heard_47 : decode cX0_heard 47 = .ok (.if_icmp .ge 50, 3) := by decide +kernel
theorem dX0_heard_50 : decode cX0_heard 50 = .ok (.iload_n 3, 1) := by decide +kernel
theorem dX0_heard_51 : decode cX0_heard 51 = .ok (.iload_n 1, 1) := by decide +kernel
theorem dX0_heard_52 : decode cX0_heard 52 = .ok (.if_icmp .eq 39, 3) := by decide +kernel
theorem dX0_heard_55 : decode cX0_heard 55 = .ok (.aload_n 0, 1) := by decide +kernel
theorem dX0_heard_56 : decode cX0_heard 56 = .ok (.getfield 9, 3) := by decide +kernel
theorem dX0_heard_59 : decode cX0_heard 59 = .ok (.iload_n 3, 1) := by decide +kernel
theorem dX0_heard_60 : decode cX0_heard 60 = .ok (.iaload, 1) := by decide +kernel
theorem dX0_heard_61 : decode cX0_heard 61 = .ok (.iconst 2, 1) := by decide +kernel
theorem dX0_heard_62 : decode cX0_heard 62 = .ok (.if_icmp .ne 29, 3) := by decide +kernel
theorem dX0_heard_65 : decode cX0_heard 65 = .ok (.aload_n 0, 1) := by decide +kernel
theorem dX0_heard_66 : decode cX0_heard 66 = .ok (.getfield 15, 3) := by decide +kernel
theorem dX0_heard_69 : decode cX0_heard 69 = .ok (.iload_n 3, 1) := by decide +kernel
theorem dX0_heard_70 : decode cX0_heard 70 = .ok (.iaload, 1) := by decide +kernel
theorem dX0_heard_71 : decode cX0_heard 71 = .ok (.aload_n 0, 1) := by decide +kernel
theorem dX0_heard_72 : decode cX0_heard 72 = .ok (.getfield 15, 3) := by decide +kernel
theorem dX0_heard_75 : decode cX0_heard 75 = .ok (.iload_n 1, 1) := by decide +kernel
theorem dX0_heard_76 : decode cX0_heard 76 = .ok (.iaload, 1) := by decide +kernel
theorem dX0_heard_77 : decode cX0_heard 77 = .ok (.if_icmp .ne 14, 3) := by decide +kernel
theorem dX0_heard_80 : decode cX0_heard 80 = .ok (.aload_n 0, 1) := by decide +kernel
theorem dX0_heard_81 : decode cX0_heard 81 = .ok (.iload_n 3, 1) := by decide +kernel
theorem dX0_heard_82 : decode cX0_heard 82 = .ok (.invokevirtual 76, 3) := by decide +kernel
theorem dX0_heard_85 : decode cX0_heard 85 = .ok (.ifCond .eq 6, 3) := by decide +kernel
theorem dX0_heard_88 : decode cX0_heard 88 = .ok (.iinc 2 (-10), 3) := by decide +kernel
theorem dX0_heard_91 : decode cX0_heard 91 = .ok (.iinc 3 1, 3) := by decide +kernel
theorem dX0_heard_94 : decode cX0_heard 94 = .ok (.goto (-52), 3) := by decide +kernel
theorem dX0_heard_97 : decode cX0_heard 97 = .ok (.iconst 0, 1) := by decide +kernel
theorem dX0_heard_98 : decode cX0_heard 98 = .ok (.iload_n 2, 1) := by decide +kernel
theorem dX0_heard_99 : decode cX0_heard 99 = .ok (.invokestatic 70, 3) := by decide +kernel
theorem dX0_heard_102 : decode cX0_heard 102 = .ok (.ireturn, 1) := by decide +kernel
theorem dX0_turnOver_0 : decode cX0_turnOver 0 = .ok (.iconst 0, 1) := by decide +kernel
theorem dX0_turnOver_1 : decode cX0_turnOver 1 = .ok (.istore_n 1, 1) := by decide +kernel
theorem dX0_turnOver_2 : decode cX0_turnOver 2 = .ok (.iload_n 1, 1) := by decide +kernel
theorem dX0_turnOver_3 : decode cX0_turnOver 3 = .ok (.aload_n 0, 1) := by decide +kernel
theorem dX0_turnOver_4 : decode cX0_turnOver 4 = .ok (.getfield 24, 3) := by decide +kernel
theorem dX0_turnOver_7 : decode cX0_turnOver 7 = .ok (.if_icmp .ge 127, 3) := by decide +kernel
theorem dX0_turnOver_10 : decode cX0_turnOver 10 = .ok (.aload_n 0, 1) := by decide +kernel
theorem dX0_turnOver_11 : decode cX0_turnOver 11 = .ok (.iload_n 1, 1) := by decide +kernel
theorem dX0_turnOver_12 : decode cX0_turnOver 12 = .ok (.invokevirtual 76, 3) := by decide +kernel
theorem dX0_turnOver_15 : decode cX0_turnOver 15 = .ok (.ifCond .ne 6, 3) := by decide +kernel
theorem dX0_turnOver_18 : decode cX0_turnOver 18 = .ok (.goto 110, 3) := by decide +kernel
theorem dX0_turnOver_21 : decode cX0_turnOver 21 = .ok (.aload_n 0, 1) := by decide +kernel
theorem dX0_turnOver_22 : decode cX0_turnOver 22 = .ok (.getfield 15, 3) := by decide +kernel
theorem dX0_turnOver_25 : decode cX0_turnOver 25 = .ok (.iload_n 1, 1) := by decide +kernel
theorem dX0_turnOver_26 : decode cX0_turnOver 26 = .ok (.iaload, 1) := by decide +kernel
theorem dX0_turnOver_27 : decode cX0_turnOver 27 = .ok (.bipush 8, 2) := by decide +kernel
theorem dX0_turnOver_29 : decode cX0_turnOver 29 = .ok (.irem, 1) := by decide +kernel
theorem dX0_turnOver_30 : decode cX0_turnOver 30 = .ok (.istore_n 2, 1) := by decide +kernel
theorem dX0_turnOver_31 : decode cX0_turnOver 31 = .ok (.aload_n 0, 1) := by decide +kernel
theorem dX0_turnOver_32 : decode cX0_turnOver 32 = .ok (.getfield 9, 3) := by decide +kernel
theorem dX0_turnOver_35 : decode cX0_turnOver 35 = .ok (.iload_n 1, 1) := by decide +kernel
theorem dX0_turnOver_36 : decode cX0_turnOver 36 = .ok (.iaload, 1) := by decide +kernel
theorem dX0_turnOver_37 : decode cX0_turnOver 37 = .ok (.aload_n 0, 1) := by decide +kernel
theorem dX0_turnOver_38 : decode cX0_turnOver 38 = .ok (.getfield 21, 3) := by decide +kernel
theorem dX0_turnOver_41 : decode cX0_turnOver 41 = .ok (.iload_n 1, 1) := by decide +kernel
theorem dX0_turnOver_42 : decode cX0_turnOver 42 = .ok (.iaload, 1) := by decide +kernel
theorem dX0_turnOver_43 : decode cX0_turnOver 43 = .ok (.aload_n 0, 1) := by decide +kernel
theorem dX0_turnOver_44 : decode cX0_turnOver 44 = .ok (.getfield 18, 3) := by decide +kernel
theorem dX0_turnOver_47 : decode cX0_turnOver 47 = .ok (.iload_n 1, 1) := by decide +kernel
theorem dX0_turnOver_48 : decode cX0_turnOver 48 = .ok (.iaload, 1) := by decide +kernel
theorem dX0_turnOver_49 : decode cX0_turnOver 49 = .ok (.invokestatic 79, 3) := by decide +kernel
theorem dX0_turnOver_52 : decode cX0_turnOver 52 = .ok (.istore_n 3, 1) := by decide +kernel
theorem dX0_turnOver_53 : decode cX0_turnOver 53 = .ok (.aload_n 0, 1) := by decide +kernel
theorem dX0_turnOver_54 : decode cX0_turnOver 54 = .ok (.getfield 37, 3) := by decide +kernel
theorem dX0_turnOver_57 : decode cX0_turnOver 57 = .ok (.iconst 2, 1) := by decide +kernel
theorem dX0_turnOver_58 : decode cX0_turnOver 58 = .ok (.irem, 1) := by decide +kernel
theorem dX0_turnOver_59 : decode cX0_turnOver 59 = .ok (.ifCond .ne 9, 3) := by decide +kernel
theorem dX0_turnOver_62 : decode cX0_turnOver 62 = .ok (.iload_n 2, 1) := by decide +kernel
theorem dX0_turnOver_63 : decode cX0_turnOver 63 = .ok (.iload_n 3, 1) := by decide +kernel
theorem dX0_turnOver_64 : decode cX0_turnOver 64 = .ok (.iadd, 1) := by decide +kernel
theorem dX0_turnOver_65 : decode cX0_turnOver 65 = .ok (.goto 6, 3) := by decide +kernel
theorem dX0_turnOver_68 : decode cX0_turnOver 68 = .ok (.iload_n 2, 1) := by decide +kernel
theorem dX0_turnOver_69 : decode cX0_turnOver 69 = .ok (.iload_n 3, 1) := by decide +kernel
theorem dX0_turnOver_70 : decode cX0_turnOver 70 = .ok (.isub, 1) := by decide +kernel
theorem dX0_turnOver_71 : decode cX0_turnOver 71 = .ok (.istore 4, 2) := by decide +kernel
theorem dX0_turnOver_73 : decode cX0_turnOver 73 = .ok (.aload_n 0, 1) := by decide +kernel
theorem dX0_turnOver_74 : decode cX0_turnOver 74 = .ok (.getfield 15, 3) := by decide +kernel
theorem dX0_turnOver_77 : decode cX0_turnOver 77 = .ok (.iload_n 1, 1) := by decide +kernel
theorem dX0_turnOver_78 : decode cX0_turnOver 78 = .ok (.dup2, 1) := by decide +kernel
theorem dX0_turnOver_79 : decode cX0_turnOver 79 = .ok (.iaload, 1) := by decide +kernel
theorem dX0_turnOver_80 : decode cX0_turnOver 80 = .ok (.iload 4, 2) := by decide +kernel
theorem dX0_turnOver_82 : decode cX0_turnOver 82 = .ok (.bipush 7, 2) := by decide +kernel
theorem dX0_turnOver_84 : decode cX0_turnOver 84 = .ok (.invokestatic 83, 3) := by decide +kernel
theorem dX0_turnOver_87 : decode cX0_turnOver 87 = .ok (.iload_n 2, 1) := by decide +kernel
theorem dX0_turnOver_88 : decode cX0_turnOver 88 = .ok (.isub, 1) := by decide +kernel
theorem dX0_turnOver_89 : decode cX0_turnOver 89 = .ok (.iadd, 1) := by decide +kernel
theorem dX0_turnOver_90 : decode cX0_turnOver 90 = .ok (.iastore, 1) := by decide +kernel
theorem dX0_turnOver_91 : decode cX0_turnOver 91 = .ok (.aload_n 0, 1) := by decide +kernel
theorem dX0_turnOver_92 : decode cX0_turnOver 92 = .ok (.getfield 18, 3) := by decide +kernel
theorem dX0_turnOver_95 : decode cX0_turnOver 95 = .ok (.iload_n 1, 1) := by decide +kernel
theorem dX0_turnOver_96 : decode cX0_turnOver 96 = .ok (.aload_n 0, 1) := by decide +kernel
theorem dX0_turnOver_97 : decode cX0_turnOver 97 = .ok (.getfield 18, 3) := by decide +kernel
theorem dX0_turnOver_100 : decode cX0_turnOver 100 = .ok (.iload_n 1, 1) := by decide +kernel
theorem dX0_turnOver_101 : decode cX0_turnOver 101 = .ok (.iaload, 1) := by decide +kernel
theorem dX0_turnOver_102 : decode cX0_turnOver 102 = .ok (.bipush 12, 2) := by decide +kernel
theorem dX0_turnOver_104 : decode cX0_turnOver 104 = .ok (.if_icmp .gt 15, 3) := by decide +kernel
theorem dX0_turnOver_107 : decode cX0_turnOver 107 = .ok (.bipush 12, 2) := by decide +kernel
theorem dX0_turnOver_109 : decode cX0_turnOver 109 = .ok (.aload_n 0, 1) := by decide +kernel
theorem dX0_turnOver_110 : decode cX0_turnOver 110 = .ok (.getfield 18, 3) := by decide +kernel
theorem dX0_turnOver_113 : decode cX0_turnOver 113 = .ok (.iload_n 1, 1) := by decide +kernel
theorem dX0_turnOver_114 : decode cX0_turnOver 114 = .ok (.iaload, 1) := by decide +kernel
theorem dX0_turnOver_115 : decode cX0_turnOver 115 = .ok (.isub, 1) := by decide +kernel
theorem dX0_turnOver_116 : decode cX0_turnOver 116 = .ok (.goto 11, 3) := by decide +kernel
theorem dX0_turnOver_119 : decode cX0_turnOver 119 = .ok (.aload_n 0, 1) := by decide +kernel
theorem dX0_turnOver_120 : decode cX0_turnOver 120 = .ok (.getfield 18, 3) := by decide +kernel
theorem dX0_turnOver_123 : decode cX0_turnOver 123 = .ok (.iload_n 1, 1) := by decide +kernel
theorem dX0_turnOver_124 : decode cX0_turnOver 124 = .ok (.iaload, 1) := by decide +kernel
theorem dX0_turnOver_125 : decode cX0_turnOver 125 = .ok (.iconst 1, 1) := by decide +kernel
theorem dX0_turnOver_126 : decode cX0_turnOver 126 = .ok (.isub, 1) := by decide +kernel
theorem dX0_turnOver_127 : decode cX0_turnOver 127 = .ok (.iastore, 1) := by decide +kernel
theorem dX0_turnOver_128 : decode cX0_turnOver 128 = .ok (.iinc 1 1, 3) := by decide +kernel
theorem dX0_turnOver_131 : decode cX0_turnOver 131 = .ok (.goto (-129), 3) := by decide +kernel
theorem dX0_turnOver_134 : decode cX0_turnOver 134 = .ok (.aload_n 0, 1) := by decide +kernel
theorem dX0_turnOver_135 : decode cX0_turnOver 135 = .ok (.bipush 99, 2) := by decide +kernel
theorem dX0_turnOver_137 : decode cX0_turnOver 137 = .ok (.aload_n 0, 1) := by decide +kernel
theorem dX0_turnOver_138 : decode cX0_turnOver 138 = .ok (.getfield 37, 3) := by decide +kernel
theorem dX0_turnOver_141 : decode cX0_turnOver 141 = .ok (.iconst 1, 1) := by decide +kernel
theorem dX0_turnOver_142 : decode cX0_turnOver 142 = .ok (.iadd, 1) := by decide +kernel
theorem dX0_turnOver_143 : decode cX0_turnOver 143 = .ok (.invokestatic 86, 3) := by decide +kernel
theorem dX0_turnOver_146 : decode cX0_turnOver 146 = .ok (.putfield 37, 3) := by decide +kernel
theorem dX0_turnOver_149 : decode cX0_turnOver 149 = .ok (.return_, 1) := by decide +kernel
theorem dX0_scatter_0 : decode cX0_scatter 0 = .ok (.iload_n 1, 1) := by decide +kernel
theorem dX0_scatter_1 : decode cX0_scatter 1 = .ok (.istore_n 2, 1) := by decide +kernel
theorem dX0_scatter_2 : decode cX0_scatter 2 = .ok (.iconst 0, 1) := by decide +kernel
theorem dX0_scatter_3 : decode cX0_scatter 3 = .ok (.istore_n 3, 1) := by decide +kernel
theorem dX0_scatter_4 : decode cX0_scatter 4 = .ok (.iload_n 3, 1) := by decide +kernel
theorem dX0_scatter_5 : decode cX0_scatter 5 = .ok (.aload_n 0, 1) := by decide +kernel
theorem dX0_scatter_6 : decode cX0_scatter 6 = .ok (.getfield 24, 3) := by decide +kernel
theorem dX0_scatter_9 : decode cX0_scatter 9 = .ok (.if_icmp .ge 52, 3) := by decide +kernel
theorem dX0_scatter_12 : decode cX0_scatter 12 = .ok (.aload_n 0, 1) := by decide +kernel
theorem dX0_scatter_13 : decode cX0_scatter 13 = .ok (.iload_n 3, 1) := by decide +kernel
theorem dX0_scatter_14 : decode cX0_scatter 14 = .ok (.invokevirtual 76, 3) := by decide +kernel
theorem dX0_scatter_17 : decode cX0_scatter 17 = .ok (.ifCond .eq 38, 3) := by decide +kernel
theorem dX0_scatter_20 : decode cX0_scatter 20 = .ok (.iload_n 2, 1) := by decide +kernel
theorem dX0_scatter_21 : decode cX0_scatter 21 = .ok (.ldc 89, 2) := by decide +kernel
theorem dX0_scatter_23 : decode cX0_scatter 23 = .ok (.imul, 1) := by decide +kernel
theorem dX0_scatter_24 : decode cX0_scatter 24 = .ok (.sipush 12345, 3) := by decide +kernel
theorem dX0_scatter_27 : decode cX0_scatter 27 = .ok (.iadd, 1) := by decide +kernel
theorem dX0_scatter_28 : decode cX0_scatter 28 = .ok (.istore_n 2, 1) := by decide +kernel
theorem dX0_scatter_29 : decode cX0_scatter 29 = .ok (.aload_n 0, 1) := by decide +kernel
theorem dX0_scatter_30 : decode cX0_scatter 30 = .ok (.getfield 15, 3) := by decide +kernel
theorem dX0_scatter_33 : decode cX0_scatter 33 = .ok (.iload_n 3, 1) := by decide +kernel
theorem dX0_scatter_34 : decode cX0_scatter 34 = .ok (.iload_n 2, 1) := by decide +kernel
theorem dX0_scatter_35 : decode cX0_scatter 35 = .ok (.bipush 9, 2) := by decide +kernel
theorem dX0_scatter_37 : decode cX0_scatter 37 = .ok (.iushr, 1) := by decide +kernel
theorem dX0_scatter_38 : decode cX0_scatter 38 = .ok (.bipush 48, 2) := by decide +kernel
theorem dX0_scatter_40 : decode cX0_scatter 40 = .ok (.irem, 1) := by decide +kernel
theorem dX0_scatter_41 : decode cX0_scatter 41 = .ok (.iastore, 1) := by decide +kernel
theorem dX0_scatter_42 : decode cX0_scatter 42 = .ok (.aload_n 0, 1) := by decide +kernel
theorem dX0_scatter_43 : decode cX0_scatter 43 = .ok (.getfield 18, 3) := by decide +kernel
theorem dX0_scatter_46 : decode cX0_scatter 46 = .ok (.iload_n 3, 1) := by decide +kernel
theorem dX0_scatter_47 : decode cX0_scatter 47 = .ok (.iload_n 2, 1) := by decide +kernel
theorem dX0_scatter_48 : decode cX0_scatter 48 = .ok (.bipush 16, 2) := by decide +kernel
theorem dX0_scatter_50 : decode cX0_scatter 50 = .ok (.iushr, 1) := by decide +kernel
theorem dX0_scatter_51 : decode cX0_scatter 51 = .ok (.bipush 21, 2) := by decide +kernel
theorem dX0_scatter_53 : decode cX0_scatter 53 = .ok (.irem, 1) := by decide +kernel
theorem dX0_scatter_54 : decode cX0_scatter 54 = .ok (.iastore, 1) := by decide +kernel
theorem dX0_scatter_55 : decode cX0_scatter 55 = .ok (.iinc 3 1, 3) := by decide +kernel
theorem dX0_scatter_58 : decode cX0_scatter 58 = .ok (.goto (-54), 3) := by decide +kernel
theorem dX0_scatter_61 : decode cX0_scatter 61 = .ok (.return_, 1) := by decide +kernel
theorem dX0_dotsIn_0 : decode cX0_dotsIn 0 = .ok (.iconst 0, 1) := by decide +kernel
theorem dX0_dotsIn_1 : decode cX0_dotsIn 1 = .ok (.istore_n 2, 1) := by decide +kernel
theorem dX0_dotsIn_2 : decode cX0_dotsIn 2 = .ok (.iconst 0, 1) := by decide +kernel
theorem dX0_dotsIn_3 : decode cX0_dotsIn 3 = .ok (.istore_n 3, 1) := by decide +kernel
theorem dX0_dotsIn_4 : decode cX0_dotsIn 4 = .ok (.iload_n 3, 1) := by decide +kernel
theorem dX0_dotsIn_5 : decode cX0_dotsIn 5 = .ok (.aload_n 0, 1) := by decide +kernel
theorem dX0_dotsIn_6 : decode cX0_dotsIn 6 = .ok (.getfield 24, 3) := by decide +kernel
theorem dX0_dotsIn_9 : decode cX0_dotsIn 9 = .ok (.if_icmp .ge 30, 3) := by decide +kernel
theorem dX0_dotsIn_12 : decode cX0_dotsIn 12 = .ok (.aload_n 0, 1) := by decide +kernel
theorem dX0_dotsIn_13 : decode cX0_dotsIn 13 = .ok (.getfield 15, 3) := by decide +kernel
theorem dX0_dotsIn_16 : decode cX0_dotsIn 16 = .ok (.iload_n 3, 1) := by decide +kernel
theorem dX0_dotsIn_17 : decode cX0_dotsIn 17 = .ok (.iaload, 1) := by decide +kernel
theorem dX0_dotsIn_18 : decode cX0_dotsIn 18 = .ok (.iload_n 1, 1) := by decide +kernel
theorem dX0_dotsIn_19 : decode cX0_dotsIn 19 = .ok (.if_icmp .ne 14, 3) := by decide +kernel
theorem dX0_dotsIn_22 : decode cX0_dotsIn 22 = .ok (.aload_n 0, 1) := by decide +kernel
theorem dX0_dotsIn_23 : decode cX0_dotsIn 23 = .ok (.iload_n 3, 1) := by decide +kernel
theorem dX0_dotsIn_24 : decode cX0_dotsIn 24 = .ok (.invokevirtual 76, 3) := by decide +kernel
theorem dX0_dotsIn_27 : decode cX0_dotsIn 27 = .ok (.ifCond .ne 6, 3) := by decide +kernel
theorem dX0_dotsIn_30 : decode cX0_dotsIn 30 = .ok (.iinc 2 1, 3) := by decide +kernel
theorem dX0_dotsIn_33 : decode cX0_dotsIn 33 = .ok (.iinc 3 1, 3) := by decide +kernel
theorem dX0_dotsIn_36 : decode cX0_dotsIn 36 = .ok (.goto (-32), 3) := by decide +kernel
theorem dX0_dotsIn_39 : decode cX0_dotsIn 39 = .ok (.iload_n 2, 1) := by decide +kernel
theorem dX0_dotsIn_40 : decode cX0_dotsIn 40 = .ok (.ireturn, 1) := by decide +kernel
theorem dX0_stripsWithFinds_0 : decode cX0_stripsWithFinds 0 = .ok (.iconst 0, 1) := by decide +kernel
theorem dX0_stripsWithFinds_1 : decode cX0_stripsWithFinds 1 = .ok (.istore_n 1, 1) := by decide +kernel
theorem dX0_stripsWithFinds_2 : decode cX0_stripsWithFinds 2 = .ok (.iconst 0, 1) := by decide +kernel
theorem dX0_stripsWithFinds_3 : decode cX0_stripsWithFinds 3 = .ok (.istore_n 2, 1) := by decide +kernel
theorem dX0_stripsWithFinds_4 : decode cX0_stripsWithFinds 4 = .ok (.iload_n 2, 1) := by decide +kernel
theorem dX0_stripsWithFinds_5 : decode cX0_stripsWithFinds 5 = .ok (.aload_n 0, 1) := by decide +kernel
theorem dX0_stripsWithFinds_6 : decode cX0_stripsWithFinds 6 = .ok (.getfield 24, 3) := by decide +kernel
theorem dX0_stripsWithFinds_9 : decode cX0_stripsWithFinds 9 = .ok (.if_icmp .ge 31, 3) := by decide +kernel
theorem dX0_stripsWithFinds_12 : decode cX0_stripsWithFinds 12 = .ok (.aload_n 0, 1) := by decide +kernel
theorem dX0_stripsWithFinds_13 : decode cX0_stripsWithFinds 13 = .ok (.iload_n 2, 1) := by decide +kernel
theorem dX0_stripsWithFinds_14 : decode cX0_stripsWithFinds 14 = .ok (.invokevirtual 76, 3) := by decide +kernel
theorem dX0_stripsWithFinds_17 : decode cX0_stripsWithFinds 17 = .ok (.ifCond .eq 17, 3) := by decide +kernel
theorem dX0_stripsWithFinds_20 : decode cX0_stripsWithFinds 20 = .ok (.iload_n 1, 1) := by decide +kernel
theorem dX0_stripsWithFinds_21 : decode cX0_stripsWithFinds 21 = .ok (.iconst 1, 1) := by decide +kernel
theorem dX0_stripsWithFinds_22 : decode cX0_stripsWithFinds 22 = .ok (.aload_n 0, 1) := by decide +kernel
theorem dX0_stripsWithFinds_23 : decode cX0_stripsWithFinds 23 = .ok (.getfield 15, 3) := by decide +kernel
theorem dX0_stripsWithFinds_26 : decode cX0_stripsWithFinds 26 = .ok (.iload_n 2, 1) := by decide +kernel
theorem dX0_stripsWithFinds_27 : decode cX0_stripsWithFinds 27 = .ok (.iaload, 1) := by decide +kernel
theorem dX0_stripsWithFinds_28 : decode cX0_stripsWithFinds 28 = .ok (.bipush 8, 2) := by decide +kernel
theorem dX0_stripsWithFinds_30 : decode cX0_stripsWithFinds 30 = .ok (.idiv, 1) := by decide +kernel
theorem dX0_stripsWithFinds_31 : decode cX0_stripsWithFinds 31 = .ok (.ishl, 1) := by decide +kernel
theorem dX0_stripsWithFinds_32 : decode cX0_stripsWithFinds 32 = .ok (.ior, 1) := by decide +kernel
theorem dX0_stripsWithFinds_33 : decode cX0_stripsWithFinds 33 = .ok (.istore_n 1, 1) := by decide +kernel
theorem dX0_stripsWithFinds_34 : decode cX0_stripsWithFinds 34 = .ok (.iinc 2 1, 3) := by decide +kernel
theorem dX0_stripsWithFinds_37 : decode cX0_stripsWithFinds 37 = .ok (.goto (-33), 3) := by decide +kernel
theorem dX0_stripsWithFinds_40 : decode cX0_stripsWithFinds 40 = .ok (.iload_n 1, 1) := by decide +kernel
theorem dX0_stripsWithFinds_41 : decode cX0_stripsWithFinds 41 = .ok (.ireturn, 1) := by decide +kernel
theorem dX0_farFrom_0 : decode cX0_farFrom 0 = .ok (.iconst 0, 1) := by decide +kernel
theorem dX0_farFrom_1 : decode cX0_farFrom 1 = .ok (.istore_n 2, 1) := by decide +kernel
theorem dX0_farFrom_2 : decode cX0_farFrom 2 = .ok (.iconst 0, 1) := by decide +kernel
theorem dX0_farFrom_3 : decode cX0_farFrom 3 = .ok (.istore_n 3, 1) := by decide +kernel
theorem dX0_farFrom_4 : decode cX0_farFrom 4 = .ok (.iload_n 3, 1) := by decide +kernel
theorem dX0_farFrom_5 : decode cX0_farFrom 5 = .ok (.aload_n 0, 1) := by decide +kernel
theorem dX0_farFrom_6 : decode cX0_farFrom 6 = .ok (.getfield 24, 3) := by decide +kernel
theorem dX0_farFrom_9 : decode cX0_farFrom 9 = .ok (.if_icmp .ge 59, 3) := by decide +kernel
theorem dX0_farFrom_12 : decode cX0_farFrom 12 = .ok (.aload_n 0, 1) := by decide +kernel
theorem dX0_farFrom_13 : decode cX0_farFrom 13 = .ok (.iload_n 3, 1) := by decide +kernel
theorem dX0_farFrom_14 : decode cX0_farFrom 14 = .ok (.invokevirtual 76, 3) := by decide +kernel
theorem dX0_farFrom_17 : decode cX0_farFrom 17 = .ok (.ifCond .ne 45, 3) := by decide +kernel
theorem dX0_farFrom_20 : decode cX0_farFrom 20 = .ok (.iload_n 2, 1) := by decide +kernel
theorem dX0_farFrom_21 : decode cX0_farFrom 21 = .ok (.iconst 3, 1) := by decide +kernel
theorem dX0_farFrom_22 : decode cX0_farFrom 22 = .ok (.aload_n 0, 1) := by decide +kernel
theorem dX0_farFrom_23 : decode cX0_farFrom 23 = .ok (.getfield 15, 3) := by decide +kernel
theorem dX0_farFrom_26 : decode cX0_farFrom 26 = .ok (.iload_n 3, 1) := by decide +kernel
theorem dX0_farFrom_27 : decode cX0_farFrom 27 = .ok (.iaload, 1) := by decide +kernel
theorem dX0_farFrom_28 : decode cX0_farFrom 28 = .ok (.bipush 8, 2) := by decide +kernel
theorem dX0_farFrom_30 : decode cX0_farFrom 30 = .ok (.idiv, 1) := by decide +kernel
theorem dX0_farFrom_31 : decode cX0_farFrom 31 = .ok (.iload_n 1, 1) := by decide +kernel
theorem dX0_farFrom_32 : decode cX0_farFrom 32 = .ok (.bipush 8, 2) := by decide +kernel
theorem dX0_farFrom_34 : decode cX0_farFrom 34 = .ok (.idiv, 1) := by decide +kernel
theorem dX0_farFrom_35 : decode cX0_farFrom 35 = .ok (.isub, 1) := by decide +kernel
theorem dX0_farFrom_36 : decode cX0_farFrom 36 = .ok (.invokestatic 90, 3) := by decide +kernel
theorem dX0_farFrom_39 : decode cX0_farFrom 39 = .ok (.imul, 1) := by decide +kernel
theorem dX0_farFrom_40 : decode cX0_farFrom 40 = .ok (.iadd, 1) := by decide +kernel
theorem dX0_farFrom_41 : decode cX0_farFrom 41 = .ok (.istore_n 2, 1) := by decide +kernel
theorem dX0_farFrom_42 : decode cX0_farFrom 42 = .ok (.iload_n 2, 1) := by decide +kernel
theorem dX0_farFrom_43 : decode cX0_farFrom 43 = .ok (.aload_n 0, 1) := by decide +kernel
theorem dX0_farFrom_44 : decode cX0_farFrom 44 = .ok (.getfield 15, 3) := by decide +kernel
theorem dX0_farFrom_47 : decode cX0_farFrom 47 = .ok (.iload_n 3, 1) := by decide +kernel
theorem dX0_farFrom_48 : decode cX0_farFrom 48 = .ok (.iaload, 1) := by decide +kernel
theorem dX0_farFrom_49 : decode cX0_farFrom 49 = .ok (.bipush 8, 2) := by decide +kernel
theorem dX0_farFrom_51 : decode cX0_farFrom 51 = .ok (.irem, 1) := by decide +kernel
theorem dX0_farFrom_52 : decode cX0_farFrom 52 = .ok (.iload_n 1, 1) := by decide +kernel
theorem dX0_farFrom_53 : decode cX0_farFrom 53 = .ok (.bipush 8, 2) := by decide +kernel
theorem dX0_farFrom_55 : decode cX0_farFrom 55 = .ok (.irem, 1) := by decide +kernel
theorem dX0_farFrom_56 : decode cX0_farFrom 56 = .ok (.isub, 1) := by decide +kernel
theorem dX0_farFrom_57 : decode cX0_farFrom 57 = .ok (.invokestatic 90, 3) := by decide +kernel
theorem dX0_farFrom_60 : decode cX0_farFrom 60 = .ok (.iadd, 1) := by decide +kernel
theorem dX0_farFrom_61 : decode cX0_farFrom 61 = .ok (.istore_n 2, 1) := by decide +kernel
theorem dX0_farFrom_62 : decode cX0_farFrom 62 = .ok (.iinc 3 1, 3) := by decide +kernel
theorem dX0_farFrom_65 : decode cX0_farFrom 65 = .ok (.goto (-61), 3) := by decide +kernel
theorem dX0_farFrom_68 : decode cX0_farFrom 68 = .ok (.iload_n 2, 1) := by decide +kernel
theorem dX0_farFrom_69 : decode cX0_farFrom 69 = .ok (.ireturn, 1) := by decide +kernel
theorem dX1_init_0 : decode cX1_init 0 = .ok (.aload_n 0, 1) := by decide +kernel
theorem dX1_init_1 : decode cX1_init 1 = .ok (.invokespecial 3, 3) := by decide +kernel
theorem dX1_init_4 : decode cX1_init 4 = .ok (.aload_n 0, 1) := by decide +kernel
theorem dX1_init_5 : decode cX1_init 5 = .ok (.iconst 0, 1) := by decide +kernel
theorem dX1_init_6 : decode cX1_init 6 = .ok (.putfield 9, 3) := by decide +kernel
theorem dX1_init_9 : decode cX1_init 9 = .ok (.aload_n 0, 1) := by decide +kernel
theorem dX1_init_10 : decode cX1_init 10 = .ok (.sipush 160, 3) := by decide +kernel
theorem dX1_init_13 : decode cX1_init 13 = .ok (.newarray .int, 2) := by decide +kernel
theorem dX1_init_15 : decode cX1_init 15 = .ok (.putfield 15, 3) := by decide +kernel
theorem dX1_init_18 : decode cX1_init 18 = .ok (.aload_n 0, 1) := by decide +kernel
theorem dX1_init_19 : decode cX1_init 19 = .ok (.iconst 0, 1) := by decide +kernel
theorem dX1_init_20 : decode cX1_init 20 = .ok (.putfield 19, 3) := by decide +kernel
theorem dX1_init_23 : decode cX1_init 23 = .ok (.aload_n 0, 1) := by decide +kernel
theorem dX1_init_24 : decode cX1_init 24 = .ok (.iconst 0, 1) := by decide +kernel
theorem dX1_init_25 : decode cX1_init 25 = .ok (.putfield 22, 3) := by decide +kernel
theorem dX1_init_28 : decode cX1_init 28 = .ok (.aload_n 0, 1) := by decide +kernel
theorem dX1_init_29 : decode cX1_init 29 = .ok (.bipush (-19), 2) := by decide +kernel
theorem dX1_init_31 : decode cX1_init 31 = .ok (.putfield 25, 3) := by decide +kernel
theorem dX1_init_34 : decode cX1_init 34 = .ok (.aload_n 0, 1) := by decide +kernel
theorem dX1_init_35 : decode cX1_init 35 = .ok (.iconst (-1), 1) := by decide +kernel
theorem dX1_init_36 : decode cX1_init 36 = .ok (.putfield 28, 3) := by decide +kernel
theorem dX1_init_39 : decode cX1_init 39 = .ok (.aload_n 0, 1) := by decide +kernel
theorem dX1_init_40 : decode cX1_init 40 = .ok (.aload_n 1, 1) := by decide +kernel
theorem dX1_init_41 : decode cX1_init 41 = .ok (.putfield 31, 3) := by decide +kernel
theorem dX1_init_44 : decode cX1_init 44 = .ok (.return_, 1) := by decide +kernel
theorem dX1_append_0 : decode cX1_append 0 = .ok (.aload_n 0, 1) := by decide +kernel
theorem dX1_append_1 : decode cX1_append 1 = .ok (.getfield 9, 3) := by decide +kernel
theorem dX1_append_4 : decode cX1_append 4 = .ok (.aload_n 0, 1) := by decide +kernel
theorem dX1_append_5 : decode cX1_append 5 = .ok (.getfield 15, 3) := by decide +kernel
theorem dX1_append_8 : decode cX1_append 8 = .ok (.arraylength, 1) := by decide +kernel
theorem dX1_append_9 : decode cX1_append 9 = .ok (.if_icmp .lt 6, 3) := by decide +kernel
theorem dX1_append_12 : decode cX1_append 12 = .ok (.bipush (-4), 2) := by decide +kernel
theorem dX1_append_14 : decode cX1_append 14 = .ok (.ireturn, 1) := by decide +kernel
theorem dX1_append_15 : decode cX1_append 15 = .ok (.aload_n 0, 1) := by decide +kernel
theorem dX1_append_16 : decode cX1_append 16 = .ok (.getfield 15, 3) := by decide +kernel
theorem dX1_append_19 : decode cX1_append 19 = .ok (.aload_n 0, 1) := by decide +kernel
theorem dX1_append_20 : decode cX1_append 20 = .ok (.getfield 9, 3) := by decide +kernel
theorem dX1_append_23 : decode cX1_append 23 = .ok (.iload_n 1, 1) := by decide +kernel
theorem dX1_append_24 : decode cX1_append 24 = .ok (.iastore, 1) := by decide +kernel
theorem dX1_append_25 : decode cX1_append 25 = .ok (.aload_n 0, 1) := by decide +kernel
theorem dX1_append_26 : decode cX1_append 26 = .ok (.dup, 1) := by decide +kernel
theorem dX1_append_27 : decode cX1_append 27 = .ok (.getfield 9, 3) := by decide +kernel
theorem dX1_append_30 : decode cX1_append 30 = .ok (.iconst 1, 1) := by decide +kernel
theorem dX1_append_31 : decode cX1_append 31 = .ok (.iadd, 1) := by decide +kernel
theorem dX1_append_32 : decode cX1_append 32 = .ok (.putfield 9, 3) := by decide +kernel
theorem dX1_append_35 : decode cX1_append 35 = .ok (.aload_n 0, 1) := by decide +kernel
theorem dX1_append_36 : decode cX1_append 36 = .ok (.getfield 9, 3) := by decide +kernel
theorem dX1_append_39 : decode cX1_append 39 = .ok (.ireturn, 1) := by decide +kernel
theorem dX1_readTape_0 : decode cX1_readTape 0 = .ok (.aload_n 0, 1) := by decide +kernel
theorem dX1_readTape_1 : decode cX1_readTape 1 = .ok (.iconst 0, 1) := by decide +kernel
theorem dX1_readTape_2 : decode cX1_readTape 2 = .ok (.putfield 19, 3) := by decide +kernel
theorem dX1_readTape_5 : decode cX1_readTape 5 = .ok (.aload_n 0, 1) := by decide +kernel
theorem dX1_readTape_6 : decode cX1_readTape 6 = .ok (.iconst (-1), 1) := by decide +kernel
theorem dX1_readTape_7 : decode cX1_readTape 7 = .ok (.putfield 28, 3) := by decide +kernel
theorem dX1_readTape_10 : decode cX1_readTape 10 = .ok (.aload_n 0, 1) := by decide +kernel
theorem dX1_readTape_11 : decode cX1_readTape 11 = .ok (.getfield 31, 3) := by decide +kernel
theorem dX1_readTape_14 : decode cX1_readTape 14 = .ok (.invokevirtual 35, 3) := by decide +kernel
theorem dX1_readTape_17 : decode cX1_readTape 17 = .ok (.aload_n 0, 1) := by decide +kernel
theorem dX1_readTape_18 : decode cX1_readTape 18 = .ok (.invokevirtual 40, 3) := by decide +kernel
theorem dX1_readTape_21 : decode cX1_readTape 21 = .ok (.iconst 0, 1) := by decide +kernel
theorem dX1_readTape_22 : decode cX1_readTape 22 = .ok (.istore_n 1, 1) := by decide +kernel
theorem dX1_readTape_23 : decode cX1_readTape 23 = .ok (.iload_n 1, 1) := by decide +kernel
theorem dX1_readTape_24 : decode cX1_readTape 24 = .ok (.iconst 3, 1) := by decide +kernel
theorem dX1_readTape_25 : decode cX1_readTape 25 = .ok (.if_icmp .ge 37, 3) := by decide +kernel
theorem dX1_readTape_28 : decode cX1_readTape 28 = .ok (.aload_n 0, 1) := by decide +kernel
theorem dX1_readTape_29 : decode cX1_readTape 29 = .ok (.bipush (-21), 2) := by decide +kernel
theorem dX1_readTape_31 : decode cX1_readTape 31 = .ok (.iload_n 1, 1) := by decide +kernel
theorem dX1_readTape_32 : decode cX1_readTape 32 = .ok (.isub, 1) := by decide +kernel
theorem dX1_readTape_33 : decode cX1_readTape 33 = .ok (.invokevirtual 43, 3) := by decide +kernel
theorem dX1_readTape_36 : decode cX1_readTape 36 = .ok (.aload_n 0, 1) := by decide +kernel
theorem dX1_readTape_37 : decode cX1_readTape 37 = .ok (.iconst 0, 1) := by decide +kernel
theorem dX1_readTape_38 : decode cX1_readTape 38 = .ok (.iconst 0, 1) := by decide +kernel
theorem dX1_readTape_39 : decode cX1_readTape 39 = .ok (.invokevirtual 47, 3) := by decide +kernel
theorem dX1_readTape_42 : decode cX1_readTape 42 = .ok (.aload_n 0, 1) := by decide +kernel
theorem dX1_readTape_43 : decode cX1_readTape 43 = .ok (.getfield 31, 3) := by decide +kernel
theorem dX1_readTape_46 : decode cX1_readTape 46 = .ok (.iload_n 1, 1) := by decide +kernel
theorem dX1_readTape_47 : decode cX1_readTape 47 = .ok (.invokevirtual 51, 3) := by decide +kernel
theorem dX1_readTape_50 : decode cX1_readTape 50 = .ok (.aload_n 0, 1) := by decide +kernel
theorem dX1_readTape_51 : decode cX1_readTape 51 = .ok (.bipush (-18), 2) := by decide +kernel
theorem dX1_readTape_53 : decode cX1_readTape 53 = .ok (.invokevirtual 43, 3) := by decide +kernel
theorem dX1_readTape_56 : decode cX1_readTape 56 = .ok (.iinc 1 1, 3) := by decide +kernel
theorem dX1_readTape_59 : decode cX1_readTape 59 = .ok (.goto (-36), 3) := by decide +kernel
theorem dX1_readTape_62 : decode cX1_readTape 62 = .ok (.aload_n 0, 1) := by decide +kernel
theorem dX1_readTape_63 : decode cX1_readTape 63 = .ok (.getfield 25, 3) := by decide +kernel
theorem dX1_readTape_66 : decode cX1_readTape 66 = .ok (.bipush (-19), 2) := by decide +kernel
theorem dX1_readTape_68 : decode cX1_readTape 68 = .ok (.if_icmp .eq 7, 3) := by decide +kernel
theorem dX1_readTape_71 : decode cX1_readTape 71 = .ok (.aload_n 0, 1) := by decide +kernel
theorem dX1_readTape_72 : decode cX1_readTape 72 = .ok (.invokevirtual 54, 3) := by decide +kernel
theorem dX1_readTape_75 : decode cX1_readTape 75 = .ok (.aload_n 0, 1) := by decide +kernel
theorem dX1_readTape_76 : decode cX1_readTape 76 = .ok (.iconst 0, 1) := by decide +kernel
theorem dX1_readTape_77 : decode cX1_readTape 77 = .ok (.putfield 9, 3) := by decide +kernel
theorem dX1_readTape_80 : decode cX1_readTape 80 = .ok (.aload_n 0, 1) := by decide +kernel
theorem dX1_readTape_81 : decode cX1_readTape 81 = .ok (.getfield 28, 3) := by decide +kernel
theorem dX1_readTape_84 : decode cX1_readTape 84 = .ok (.ireturn, 1) := by decide +kernel
theorem dX1_readRank_0 : decode cX1_readRank 0 = .ok (.iload_n 1, 1) := by decide +kernel
theorem dX1_readRank_1 : decode cX1_readRank 1 = .ok (.iconst 5, 1) := by decide +kernel
theorem dX1_readRank_2 : decode cX1_readRank 2 = .ok (.if_icmp .lt 9, 3) := by decide +kernel
theorem dX1_readRank_5 : decode cX1_readRank 5 = .ok (.aload_n 0, 1) := by decide +kernel
theorem dX1_readRank_6 : decode cX1_readRank 6 = .ok (.iload_n 2, 1) := by decide +kernel
theorem dX1_readRank_7 : decode cX1_readRank 7 = .ok (.invokevirtual 57, 3) := by decide +kernel
theorem dX1_readRank_10 : decode cX1_readRank 10 = .ok (.return_, 1) := by decide +kernel
theorem dX1_readRank_11 : decode cX1_readRank 11 = .ok (.iload_n 1, 1) := by decide +kernel
theorem dX1_readRank_12 : decode cX1_readRank 12 = .ok (.iconst 2, 1) := by decide +kernel
theorem dX1_readRank_13 : decode cX1_readRank 13 = .ok (.if_icmp .ne 38, 3) := by decide +kernel
theorem dX1_readRank_16 : decode cX1_readRank 16 = .ok (.aload_n 0, 1) := by decide +kernel
theorem dX1_readRank_17 : decode cX1_readRank 17 = .ok (.getfield 25, 3) := by decide +kernel
theorem dX1_readRank_20 : decode cX1_readRank 20 = .ok (.bipush (-9), 2) := by decide +kernel
theorem dX1_readRank_22 : decode cX1_readRank 22 = .ok (.if_icmp .ne 29, 3) := by decide +kernel
theorem dX1_readRank_25 : decode cX1_readRank 25 = .ok (.aload_n 0, 1) := by decide +kernel
theorem dX1_readRank_26 : decode cX1_readRank 26 = .ok (.iload_n 2, 1) := by decide +kernel
theorem dX1_readRank_27 : decode cX1_readRank 27 = .ok (.invokevirtual 60, 3) := by decide +kernel
theorem dX1_readRank_30 : decode cX1_readRank 30 = .ok (.ifCond .eq 20, 3) := by decide +kernel
theorem dX1_readRank_33 : decode cX1_readRank 33 = .ok (.aload_n 0, 1) := by decide +kernel
theorem dX1_readRank_34 : decode cX1_readRank 34 = .ok (.iconst 2, 1) := by decide +kernel
theorem dX1_readRank_35 : decode cX1_readRank 35 = .ok (.iload_n 2, 1) := by decide +kernel
theorem dX1_readRank_36 : decode cX1_readRank 36 = .ok (.iconst 1, 1) := by decide +kernel
theorem dX1_readRank_37 : decode cX1_readRank 37 = .ok (.iadd, 1) := by decide +kernel
theorem dX1_readRank_38 : decode cX1_readRank 38 = .ok (.invokevirtual 47, 3) := by decide +kernel
theorem dX1_readRank_41 : decode cX1_readRank 41 = .ok (.aload_n 0, 1) := by decide +kernel
theorem dX1_readRank_42 : decode cX1_readRank 42 = .ok (.getfield 31, 3) := by decide +kernel
theorem dX1_readRank_45 : decode cX1_readRank 45 = .ok (.bipush (-9), 2) := by decide +kernel
theorem dX1_readRank_47 : decode cX1_readRank 47 = .ok (.invokevirtual 64, 3) := by decide +kernel
theorem dX1_readRank_50 : decode cX1_readRank 50 = .ok (.return_, 1) := by decide +kernel
theorem dX1_readRank_51 : decode cX1_readRank 51 = .ok (.aload_n 0, 1) := by decide +kernel
theorem dX1_readRank_52 : decode cX1_readRank 52 = .ok (.iload_n 1, 1) := by decide +kernel
theorem dX1_readRank_53 : decode cX1_readRank 53 = .ok (.iconst 1, 1) := by decide +kernel
theorem dX1_readRank_54 : decode cX1_readRank 54 = .ok (.iadd, 1) := by decide +kernel
theorem dX1_readRank_55 : decode cX1_readRank 55 = .ok (.iload_n 2, 1) := by decide +kernel
theorem dX1_readRank_56 : decode cX1_readRank 56 = .ok (.invokevirtual 47, 3) := by decide +kernel
theorem dX1_readRank_59 : decode cX1_readRank 59 = .ok (.iload_n 1, 1) := by decide +kernel
theorem dX1_readRank_60 : decode cX1_readRank 60 = .ok (.iconst 2, 1) := by decide +kernel
theorem dX1_readRank_61 : decode cX1_readRank 61 = .ok (.if_icmp .ne 7, 3) := by decide +kernel
theorem dX1_readRank_64 : decode cX1_readRank 64 = .ok (.iconst 1, 1) := by decide +kernel
theorem dX1_readRank_65 : decode cX1_readRank 65 = .ok (.goto 6, 3) := by decide +kernel
theorem dX1_readRank_68 : decode cX1_readRank 68 = .ok (.sipush 160, 3) := by decide +kernel
theorem dX1_readRank_71 : decode cX1_readRank 71 = .ok (.istore_n 3, 1) := by decide +kernel
theorem dX1_readRank_72 : decode cX1_readRank 72 = .ok (.iconst 0, 1) := by decide +kernel
theorem dX1_readRank_73 : decode cX1_readRank 73 = .ok (.istore 4, 2) := by decide +kernel
theorem dX1_readRank_75 : decode cX1_readRank 75 = .ok (.iload 4, 2) := by decide +kernel
theorem dX1_readRank_77 : decode cX1_readRank 77 = .ok (.iload_n 3, 1) := by decide +kernel
theorem dX1_readRank_78 : decode cX1_readRank 78 = .ok (.if_icmp .ge 47, 3) := by decide +kernel
theorem dX1_readRank_81 : decode cX1_readRank 81 = .ok (.iload_n 1, 1) := by decide +kernel
theorem dX1_readRank_82 : decode cX1_readRank 82 = .ok (.aload_n 0, 1) := by decide +kernel
theorem dX1_readRank_83 : decode cX1_readRank 83 = .ok (.getfield 25, 3) := by decide +kernel
theorem dX1_readRank_86 : decode cX1_readRank 86 = .ok (.invokestatic 67, 3) := by decide +kernel
theorem dX1_readRank_89 : decode cX1_readRank 89 = .ok (.ifCond .eq 36, 3) := by decide +kernel
theorem dX1_readRank_92 : decode cX1_readRank 92 = .ok (.aload_n 0, 1) := by decide +kernel
theorem dX1_readRank_93 : decode cX1_readRank 93 = .ok (.getfield 25, 3) := by decide +kernel
theorem dX1_readRank_96 : decode cX1_readRank 96 = .ok (.istore 5, 2) := by decide +kernel
theorem dX1_readRank_98 : decode cX1_readRank 98 = .ok (.aload_n 0, 1) := by decide +kernel
theorem dX1_readRank_99 : decode cX1_readRank 99 = .ok (.invokevirtual 40, 3) := by decide +kernel
theorem dX1_readRank_102 : decode cX1_readRank 102 = .ok (.aload_n 0, 1) := by decide +kernel
theorem dX1_readRank_103 : decode cX1_readRank 103 = .ok (.iload_n 1, 1) := by decide +kernel
theorem dX1_readRank_104 : decode cX1_readRank 104 = .ok (.iconst 1, 1) := by decide +kernel
theorem dX1_readRank_105 : decode cX1_readRank 105 = .ok (.iadd, 1) := by decide +kernel
theorem dX1_readRank_106 : decode cX1_readRank 106 = .ok (.iload_n 2, 1) := by decide +kernel
theorem dX1_readRank_107 : decode cX1_readRank 107 = .ok (.invokevirtual 47, 3) := by decide +kernel
theorem dX1_readRank_110 : decode cX1_readRank 110 = .ok (.aload_n 0, 1) := by decide +kernel
theorem dX1_readRank_111 : decode cX1_readRank 111 = .ok (.getfield 31, 3) := by decide +kernel
theorem dX1_readRank_114 : decode cX1_readRank 114 = .ok (.iload 5, 2) := by decide +kernel
theorem dX1_readRank_116 : decode cX1_readRank 116 = .ok (.invokevirtual 64, 3) := by decide +kernel
theorem dX1_readRank_119 : decode cX1_readRank 119 = .ok (.iinc 4 1, 3) := by decide +kernel
theorem dX1_readRank_122 : decode cX1_readRank 122 = .ok (.goto (-47), 3) := by decide +kernel
theorem dX1_readRank_125 : decode cX1_readRank 125 = .ok (.return_, 1) := by decide +kernel
theorem dX1_isJoint_0 : decode cX1_isJoint 0 = .ok (.iload_n 0, 1) := by decide +kernel
theorem dX1_isJoint_1 : decode cX1_isJoint 1 = .ok (.tableswitch 91 0 3 #[31, 43, 55, 73], 31) := by decide +kernel
theorem dX1_isJoint_32 : decode cX1_isJoint 32 = .ok (.iload_n 1, 1) := by decide +kernel
theorem dX1_isJoint_33 : decode cX1_isJoint 33 = .ok (.bipush (-7), 2) := by decide +kernel
theorem dX1_isJoint_35 : decode cX1_isJoint 35 = .ok (.if_icmp .ne 7, 3) := by decide +kernel
theorem dX1_isJoint_38 : decode cX1_isJoint 38 = .ok (.iconst 1, 1) := by decide +kernel
theorem dX1_isJoint_39 : decode cX1_isJoint 39 = .ok (.goto 4, 3) := by decide +kernel
theorem dX1_isJoint_42 : decode cX1_isJoint 42 = .ok (.iconst 0, 1) := by decide +kernel
theorem dX1_isJoint_43 : decode cX1_isJoint 43 = .ok (.ireturn, 1) := by decide +kernel
theorem dX1_isJoint_44 : decode cX1_isJoint 44 = .ok (.iload_n 1, 1) := by decide +kernel
theorem dX1_isJoint_45 : decode cX1_isJoint 45 = .ok (.bipush (-8), 2) := by decide +kernel
theorem dX1_isJoint_47 : decode cX1_isJoint 47 = .ok (.if_icmp .ne 7, 3) := by decide +kernel
theorem dX1_isJoint_50 : decode cX1_isJoint 50 = .ok (.iconst 1, 1) := by decide +kernel
theorem dX1_isJoint_51 : decode cX1_isJoint 51 = .ok (.goto 4, 3) := by decide +kernel
theorem dX1_isJoint_54 : decode cX1_isJoint 54 = .ok (.iconst 0, 1) := by decide +kernel
theorem dX1_isJoint_55 : decode cX1_isJoint 55 = .ok (.ireturn, 1) := by decide +kernel
theorem dX1_isJoint_56 : decode cX1_isJoint 56 = .ok (.iload_n 1, 1) := by decide +kernel
theorem dX1_isJoint_57 : decode cX1_isJoint 57 = .ok (.bipush (-10), 2) := by decide +kernel
theorem dX1_isJoint_59 : decode cX1_isJoint 59 = .ok (.if_icmp .eq 9, 3) := by decide +kernel
theorem dX1_isJoint_62 : decode cX1_isJoint 62 = .ok (.iload_n 1, 1) := by decide +kernel
theorem dX1_isJoint_63 : decode cX1_isJoint 63 = .ok (.bipush (-11), 2) := by decide +kernel
theorem dX1_isJoint_65 : decode cX1_isJoint 65 = .ok (.if_icmp .ne 7, 3) := by decide +kernel
theorem dX1_isJoint_68 : decode cX1_isJoint 68 = .ok (.iconst 1, 1) := by decide +kernel
theorem dX1_isJoint_69 : decode cX1_isJoint 69 = .ok (.goto 4, 3) := by decide +kernel
theorem dX1_isJoint_72 : decode cX1_isJoint 72 = .ok (.iconst 0, 1) := by decide +kernel
theorem dX1_isJoint_73 : decode cX1_isJoint 73 = .ok (.ireturn, 1) := by decide +kernel
theorem dX1_isJoint_74 : decode cX1_isJoint 74 = .ok (.iload_n 1, 1) := by decide +kernel
theorem dX1_isJoint_75 : decode cX1_isJoint 75 = .ok (.bipush (-12), 2) := by decide +kernel
theorem dX1_isJoint_77 : decode cX1_isJoint 77 = .ok (.if_icmp .eq 9, 3) := by decide +kernel
theorem dX1_isJoint_80 : decode cX1_isJoint 80 = .ok (.iload_n 1, 1) := by decide +kernel
theorem dX1_isJoint_81 : decode cX1_isJoint 81 = .ok (.bipush (-13), 2) := by decide +kernel
theorem dX1_isJoint_83 : decode cX1_isJoint 83 = .ok (.if_icmp .ne 7, 3) := by decide +kernel
theorem dX1_isJoint_86 : decode cX1_isJoint 86 = .ok (.iconst 1, 1) := by decide +kernel
theorem dX1_isJoint_87 : decode cX1_isJoint 87 = .ok (.goto 4, 3) := by decide +kernel
theorem dX1_isJoint_90 : decode cX1_isJoint 90 = .ok (.iconst 0, 1) := by decide +kernel
theorem dX1_isJoint_91 : decode cX1_isJoint 91 = .ok (.ireturn, 1) := by decide +kernel
theorem dX1_isJoint_92 : decode cX1_isJoint 92 = .ok (.iload_n 0, 1) := by decide +kernel
theorem dX1_isJoint_93 : decode cX1_isJoint 93 = .ok (.iconst 4, 1) := by decide +kernel
theorem dX1_isJoint_94 : decode cX1_isJoint 94 = .ok (.if_icmp .ne 13, 3) := by decide +kernel
theorem dX1_isJoint_97 : decode cX1_isJoint 97 = .ok (.iload_n 1, 1) := by decide +kernel
theorem dX1_isJoint_98 : decode cX1_isJoint 98 = .ok (.bipush (-14), 2) := by decide +kernel
theorem dX1_isJoint_100 : decode cX1_isJoint 100 = .ok (.if_icmp .ne 7, 3) := by decide +kernel
theorem dX1_isJoint_103 : decode cX1_isJoint 103 = .ok (.iconst 1, 1) := by decide +kernel
theorem dX1_isJoint_104 : decode cX1_isJoint 104 = .ok (.goto 4, 3) := by decide +kernel
theorem dX1_isJoint_107 : decode cX1_isJoint 107 = .ok (.iconst 0, 1) := by decide +kernel
theorem dX1_isJoint_108 : decode cX1_isJoint 108 = .ok (.ireturn, 1) := by decide +kernel
theorem dX1_readOne_0 : decode cX1_readOne 0 = .ok (.aload_n 0, 1) := by decide +kernel
theorem dX1_readOne_1 : decode cX1_readOne 1 = .ok (.getfield 25, 3) := by decide +kernel
theorem dX1_readOne_4 : decode cX1_readOne 4 = .ok (.bipush (-6), 2) := by decide +kernel
theorem dX1_readOne_6 : decode cX1_readOne 6 = .ok (.if_icmp .lt 21, 3) := by decide +kernel
theorem dX1_readOne_9 : decode cX1_readOne 9 = .ok (.aload_n 0, 1) := by decide +kernel
theorem dX1_readOne_10 : decode cX1_readOne 10 = .ok (.getfield 31, 3) := by decide +kernel
theorem dX1_readOne_13 : decode cX1_readOne 13 = .ok (.aload_n 0, 1) := by decide +kernel
theorem dX1_readOne_14 : decode cX1_readOne 14 = .ok (.getfield 25, 3) := by decide +kernel
theorem dX1_readOne_17 : decode cX1_readOne 17 = .ok (.invokevirtual 64, 3) := by decide +kernel
theorem dX1_readOne_20 : decode cX1_readOne 20 = .ok (.aload_n 0, 1) := by decide +kernel
theorem dX1_readOne_21 : decode cX1_readOne 21 = .ok (.invokevirtual 40, 3) := by decide +kernel
theorem dX1_readOne_24 : decode cX1_readOne 24 = .ok (.goto 77, 3) := by decide +kernel
theorem dX1_readOne_27 : decode cX1_readOne 27 = .ok (.aload_n 0, 1) := by decide +kernel
theorem dX1_readOne_28 : decode cX1_readOne 28 = .ok (.getfield 25, 3) := by decide +kernel
theorem dX1_readOne_31 : decode cX1_readOne 31 = .ok (.bipush (-13), 2) := by decide +kernel
theorem dX1_readOne_33 : decode cX1_readOne 33 = .ok (.if_icmp .ne 30, 3) := by decide +kernel
theorem dX1_readOne_36 : decode cX1_readOne 36 = .ok (.aload_n 0, 1) := by decide +kernel
theorem dX1_readOne_37 : decode cX1_readOne 37 = .ok (.iload_n 1, 1) := by decide +kernel
theorem dX1_readOne_38 : decode cX1_readOne 38 = .ok (.invokevirtual 60, 3) := by decide +kernel
theorem dX1_readOne_41 : decode cX1_readOne 41 = .ok (.ifCond .eq 60, 3) := by decide +kernel
theorem dX1_readOne_44 : decode cX1_readOne 44 = .ok (.aload_n 0, 1) := by decide +kernel
theorem dX1_readOne_45 : decode cX1_readOne 45 = .ok (.iload_n 1, 1) := by decide +kernel
theorem dX1_readOne_46 : decode cX1_readOne 46 = .ok (.iconst 1, 1) := by decide +kernel
theorem dX1_readOne_47 : decode cX1_readOne 47 = .ok (.iadd, 1) := by decide +kernel
theorem dX1_readOne_48 : decode cX1_readOne 48 = .ok (.invokevirtual 57, 3) := by decide +kernel
theorem dX1_readOne_51 : decode cX1_readOne 51 = .ok (.aload_n 0, 1) := by decide +kernel
theorem dX1_readOne_52 : decode cX1_readOne 52 = .ok (.getfield 31, 3) := by decide +kernel
theorem dX1_readOne_55 : decode cX1_readOne 55 = .ok (.bipush (-15), 2) := by decide +kernel
theorem dX1_readOne_57 : decode cX1_readOne 57 = .ok (.invokevirtual 64, 3) := by decide +kernel
theorem dX1_readOne_60 : decode cX1_readOne 60 = .ok (.goto 41, 3) := by decide +kernel
theorem dX1_readOne_63 : decode cX1_readOne 63 = .ok (.aload_n 0, 1) := by decide +kernel
theorem dX1_readOne_64 : decode cX1_readOne 64 = .ok (.getfield 25, 3) := by decide +kernel
theorem dX1_readOne_67 : decode cX1_readOne 67 = .ok (.bipush (-16), 2) := by decide +kernel
theorem dX1_readOne_69 : decode cX1_readOne 69 = .ok (.if_icmp .ne 28, 3) := by decide +kernel
theorem dX1_readOne_72 : decode cX1_readOne 72 = .ok (.aload_n 0, 1) := by decide +kernel
theorem dX1_readOne_73 : decode cX1_readOne 73 = .ok (.iload_n 1, 1) := by decide +kernel
theorem dX1_readOne_74 : decode cX1_readOne 74 = .ok (.invokevirtual 60, 3) := by decide +kernel
theorem dX1_readOne_77 : decode cX1_readOne 77 = .ok (.ifCond .eq 24, 3) := by decide +kernel
theorem dX1_readOne_80 : decode cX1_readOne 80 = .ok (.aload_n 0, 1) := by decide +kernel
theorem dX1_readOne_81 : decode cX1_readOne 81 = .ok (.iconst 0, 1) := by decide +kernel
theorem dX1_readOne_82 : decode cX1_readOne 82 = .ok (.iload_n 1, 1) := by decide +kernel
theorem dX1_readOne_83 : decode cX1_readOne 83 = .ok (.iconst 1, 1) := by decide +kernel
theorem dX1_readOne_84 : decode cX1_readOne 84 = .ok (.iadd, 1) := by decide +kernel
theorem dX1_readOne_85 : decode cX1_readOne 85 = .ok (.invokevirtual 47, 3) := by decide +kernel
theorem dX1_readOne_88 : decode cX1_readOne 88 = .ok (.aload_n 0, 1) := by decide +kernel
theorem dX1_readOne_89 : decode cX1_readOne 89 = .ok (.bipush (-17), 2) := by decide +kernel
theorem dX1_readOne_91 : decode cX1_readOne 91 = .ok (.invokevirtual 43, 3) := by decide +kernel
theorem dX1_readOne_94 : decode cX1_readOne 94 = .ok (.goto 7, 3) := by decide +kernel
theorem dX1_readOne_97 : decode cX1_readOne 97 = .ok (.aload_n 0, 1) := by decide +kernel
theorem dX1_readOne_98 : decode cX1_readOne 98 = .ok (.invokevirtual 54, 3) := by decide +kernel
theorem dX1_readOne_101 : decode cX1_readOne 101 = .ok (.return_, 1) := by decide +kernel
theorem dX1_mayOpen_0 : decode cX1_mayOpen 0 = .ok (.iload_n 1, 1) := by decide +kernel
theorem dX1_mayOpen_1 : decode cX1_mayOpen 1 = .ok (.iconst 5, 1) := by decide +kernel
theorem dX1_mayOpen_2 : decode cX1_mayOpen 2 = .ok (.if_icmp .lt 9, 3) := by decide +kernel
theorem dX1_mayOpen_5 : decode cX1_mayOpen 5 = .ok (.aload_n 0, 1) := by decide +kernel
theorem dX1_mayOpen_6 : decode cX1_mayOpen 6 = .ok (.invokevirtual 54, 3) := by decide +kernel
theorem dX1_mayOpen_9 : decode cX1_mayOpen 9 = .ok (.iconst 0, 1) := by decide +kernel
theorem dX1_mayOpen_10 : decode cX1_mayOpen 10 = .ok (.ireturn, 1) := by decide +kernel
theorem dX1_mayOpen_11 : decode cX1_mayOpen 11 = .ok (.aload_n 0, 1) := by decide +kernel
theorem dX1_mayOpen_12 : decode cX1_mayOpen 12 = .ok (.invokevirtual 40, 3) := by decide +kernel
theorem dX1_mayOpen_15 : decode cX1_mayOpen 15 = .ok (.iconst 1, 1) := by decide +kernel
theorem dX1_mayOpen_16 : decode cX1_mayOpen 16 = .ok (.ireturn, 1) := by decide +kernel
theorem dX1_expect_0 : decode cX1_expect 0 = .ok (.aload_n 0, 1) := by decide +kernel
theorem dX1_expect_1 : decode cX1_expect 1 = .ok (.getfield 25, 3) := by decide +kernel
theorem dX1_expect_4 : decode cX1_expect 4 = .ok (.iload_n 1, 1) := by decide +kernel
theorem dX1_expect_5 : decode cX1_expect 5 = .ok (.if_icmp .ne 10, 3) := by decide +kernel
theorem dX1_expect_8 : decode cX1_expect 8 = .ok (.aload_n 0, 1) := by decide +kernel
theorem dX1_expect_9 : decode cX1_expect 9 = .ok (.invokevirtual 40, 3) := by decide +kernel
theorem dX1_expect_12 : decode cX1_expect 12 = .ok (.goto 7, 3) := by decide +kernel
theorem dX1_expect_15 : decode cX1_expect 15 = .ok (.aload_n 0, 1) := by decide +kernel
theorem dX1_expect_16 : decode cX1_expect 16 = .ok (.invokevirtual 54, 3) := by decide +kernel
theorem dX1_expect_19 : decode cX1_expect 19 = .ok (.return_, 1) := by decide +kernel
theorem dX1_refuse_0 : decode cX1_refuse 0 = .ok (.aload_n 0, 1) := by decide +kernel
theorem dX1_refuse_1 : decode cX1_refuse 1 = .ok (.getfield 28, 3) := by decide +kernel
theorem dX1_refuse_4 : decode cX1_refuse 4 = .ok (.iconst (-1), 1) := by decide +kernel
theorem dX1_refuse_5 : decode cX1_refuse 5 = .ok (.if_icmp .ne 11, 3) := by decide +kernel
theorem dX1_refuse_8 : decode cX1_refuse 8 = .ok (.aload_n 0, 1) := by decide +kernel
theorem dX1_refuse_9 : decode cX1_refuse 9 = .ok (.aload_n 0, 1) := by decide +kernel
theorem dX1_refuse_10 : decode cX1_refuse 10 = .ok (.getfield 22, 3) := by decide +kernel
theorem dX1_refuse_13 : decode cX1_refuse 13 = .ok (.putfield 28, 3) := by decide +kernel
theorem dX1_refuse_16 : decode cX1_refuse 16 = .ok (.aload_n 0, 1) := by decide +kernel
theorem dX1_refuse_17 : decode cX1_refuse 17 = .ok (.bipush (-20), 2) := by decide +kernel
theorem dX1_refuse_19 : decode cX1_refuse 19 = .ok (.putfield 25, 3) := by decide +kernel
theorem dX1_refuse_22 : decode cX1_refuse 22 = .ok (.return_, 1) := by decide +kernel
theorem dX1_advance_0 : decode cX1_advance 0 = .ok (.aload_n 0, 1) := by decide +kernel
theorem dX1_advance_1 : decode cX1_advance 1 = .ok (.getfield 19, 3) := by decide +kernel
theorem dX1_advance_4 : decode cX1_advance 4 = .ok (.aload_n 0, 1) := by decide +kernel
theorem dX1_advance_5 : decode cX1_advance 5 = .ok (.getfield 9, 3) := by decide +kernel
theorem dX1_advance_8 : decode cX1_advance 8 = .ok (.if_icmp .ge 44, 3) := by decide +kernel
theorem dX1_advance_11 : decode cX1_advance 11 = .ok (.aload_n 0, 1) := by decide +kernel
theorem dX1_advance_12 : decode cX1_advance 12 = .ok (.getfield 15, 3) := by decide +kernel
theorem dX1_advance_15 : decode cX1_advance 15 = .ok (.aload_n 0, 1) := by decide +kernel
theorem dX1_advance_16 : decode cX1_advance 16 = .ok (.getfield 19, 3) := by decide +kernel
theorem dX1_advance_19 : decode cX1_advance 19 = .ok (.iaload, 1) := by decide +kernel
theorem dX1_advance_20 : decode cX1_advance 20 = .ok (.bipush 32, 2) := by decide +kernel
theorem dX1_advance_22 : decode cX1_advance 22 = .ok (.if_icmp .eq 17, 3) := by decide +kernel
theorem dX1_advance_25 : decode cX1_advance 25 = .ok (.aload_n 0, 1) := by decide +kernel
theorem dX1_advance_26 : decode cX1_advance 26 = .ok (.getfield 15, 3) := by decide +kernel
theorem dX1_advance_29 : decode cX1_advance 29 = .ok (.aload_n 0, 1) := by decide +kernel
theorem dX1_advance_30 : decode cX1_advance 30 = .ok (.getfield 19, 3) := by decide +kernel
theorem dX1_advance_33 : decode cX1_advance 33 = .ok (.iaload, 1) := by decide +kernel
theorem dX1_advance_34 : decode cX1_advance 34 = .ok (.bipush 10, 2) := by decide +kernel
theorem dX1_advance_36 : decode cX1_advance 36 = .ok (.if_icmp .ne 16, 3) := by decide +kernel
theorem dX1_advance_39 : decode cX1_advance 39 = .ok (.aload_n 0, 1) := by decide +kernel
theorem dX1_advance_40 : decode cX1_advance 40 = .ok (.dup, 1) := by decide +kernel
theorem dX1_advance_41 : decode cX1_advance 41 = .ok (.getfield 19, 3) := by decide +kernel
theorem dX1_advance_44 : decode cX1_advance 44 = .ok (.iconst 1, 1) := by decide +kernel
theorem dX1_advance_45 : decode cX1_advance 45 = .ok (.iadd, 1) := by decide +kernel
theorem dX1_advance_46 : decode cX1_advance 46 = .ok (.putfield 19, 3) := by decide +kernel
theorem dX1_advance_49 : decode cX1_advance 49 = .ok (.goto (-49), 3) := by decide +kernel
theorem dX1_advance_52 : decode cX1_advance 52 = .ok (.aload_n 0, 1) := by decide +kernel
theorem dX1_advance_53 : decode cX1_advance 53 = .ok (.aload_n 0, 1) := by decide +kernel
theorem dX1_advance_54 : decode cX1_advance 54 = .ok (.getfield 19, 3) := by decide +kernel
theorem dX1_advance_57 : decode cX1_advance 57 = .ok (.putfield 22, 3) := by decide +kernel
theorem dX1_advance_60 : decode cX1_advance 60 = .ok (.aload_n 0, 1) := by decide +kernel
theorem dX1_advance_61 : decode cX1_advance 61 = .ok (.getfield 19, 3) := by decide +kernel
theorem dX1_advance_64 : decode cX1_advance 64 = .ok (.aload_n 0, 1) := by decide +kernel
theorem dX1_advance_65 : decode cX1_advance 65 = .ok (.getfield 9, 3) := by decide +kernel
theorem dX1_advance_68 : decode cX1_advance 68 = .ok (.if_icmp .lt 12, 3) := by decide +kernel
theorem dX1_advance_71 : decode cX1_advance 71 = .ok (.aload_n 0, 1) := by decide +kernel
theorem dX1_advance_72 : decode cX1_advance 72 = .ok (.bipush (-19), 2) := by decide +kernel
theorem dX1_advance_74 : decode cX1_advance 74 = .ok (.putfield 25, 3) := by decide +kernel
theorem dX1_advance_77 : decode cX1_advance 77 = .ok (.goto 81, 3) := by decide +kernel
theorem dX1_advance_80 : decode cX1_advance 80 = .ok (.aload_n 0, 1) := by decide +kernel
theorem dX1_advance_81 : decode cX1_advance 81 = .ok (.getfield 15, 3) := by decide +kernel
theorem dX1_advance_84 : decode cX1_advance 84 = .ok (.aload_n 0, 1) := by decide +kernel
theorem dX1_advance_85 : decode cX1_advance 85 = .ok (.getfield 19, 3) := by decide +kernel
theorem dX1_advance_88 : decode cX1_advance 88 = .ok (.iaload, 1) := by decide +kernel
theorem dX1_advance_89 : decode cX1_advance 89 = .ok (.invokestatic 71, 3) := by decide +kernel
theorem dX1_advance_92 : decode cX1_advance 92 = .ok (.ifCond .eq 14, 3) := by decide +kernel
theorem dX1_advance_95 : decode cX1_advance 95 = .ok (.aload_n 0, 1) := by decide +kernel
theorem dX1_advance_96 : decode cX1_advance 96 = .ok (.aload_n 0, 1) := by decide +kernel
theorem dX1_advance_97 : decode cX1_advance 97 = .ok (.invokevirtual 74, 3) := by decide +kernel
theorem dX1_advance_100 : decode cX1_advance 100 = .ok (.putfield 25, 3) := by decide +kernel
theorem dX1_advance_103 : decode cX1_advance 103 = .ok (.goto 55, 3) := by decide +kernel
theorem dX1_advance_106 : decode cX1_advance 106 = .ok (.aload_n 0, 1) := by decide +kernel
theorem dX1_advance_107 : decode cX1_advance 107 = .ok (.getfield 15, 3) := by decide +kernel
theorem dX1_advance_110 : decode cX1_advance 110 = .ok (.aload_n 0, 1) := by decide +kernel
theorem dX1_advance_111 : decode cX1_advance 111 = .ok (.getfield 19, 3) := by decide +kernel
theorem dX1_advance_114 : decode cX1_advance 114 = .ok (.iaload, 1) := by decide +kernel
theorem dX1_advance_115 : decode cX1_advance 115 = .ok (.invokestatic 78, 3) := by decide +kernel
theorem dX1_advance_118 : decode cX1_advance 118 = .ok (.ifCond .eq 14, 3) := by decide +kernel
theorem dX1_advance_121 : decode cX1_advance 121 = .ok (.aload_n 0, 1) := by decide +kernel
theorem dX1_advance_122 : decode cX1_advance 122 = .ok (.aload_n 0, 1) := by decide +kernel
theorem dX1_advance_123 : decode cX1_advance 123 = .ok (.invokevirtual 81, 3) := by decide +kernel
theorem dX1_advance_126 : decode cX1_advance 126 = .ok (.putfield 25, 3) := by decide +kernel
theorem dX1_advance_129 : decode cX1_advance 129 = .ok (.goto 29, 3) := by decide +kernel
theorem dX1_advance_132 : decode cX1_advance 132 = .ok (.aload_n 0, 1) := by decide +kernel
theorem dX1_advance_133 : decode cX1_advance 133 = .ok (.aload_n 0, 1) := by decide +kernel
theorem dX1_advance_134 : decode cX1_advance 134 = .ok (.getfield 15, 3) := by decide +kernel
theorem dX1_advance_137 : decode cX1_advance 137 = .ok (.aload_n 0, 1) := by decide +kernel
theorem dX1_advance_138 : decode cX1_advance 138 = .ok (.getfield 19, 3) := by decide +kernel
theorem dX1_advance_141 : decode cX1_advance 141 = .ok (.iaload, 1) := by decide +kernel
theorem dX1_advance_142 : decode cX1_advance 142 = .ok (.invokestatic 84, 3) := by decide +kernel
theorem dX1_advance_145 : decode cX1_advance 145 = .ok (.putfield 25, 3) := by decide +kernel
theorem dX1_advance_148 : decode cX1_advance 148 = .ok (.aload_n 0, 1) := by decide +kernel
theorem dX1_advance_149 : decode cX1_advance 149 = .ok (.dup, 1) := by decide +kernel
theorem dX1_advance_150 : decode cX1_advance 150 = .ok (.getfield 19, 3) := by decide +kernel
theorem dX1_advance_153 : decode cX1_advance 153 = .ok (.iconst 1, 1) := by decide +kernel
theorem dX1_advance_154 : decode cX1_advance 154 = .ok (.iadd, 1) := by decide +kernel
theorem dX1_advance_155 : decode cX1_advance 155 = .ok (.putfield 19, 3) := by decide +kernel
theorem dX1_advance_158 : decode cX1_advance 158 = .ok (.return_, 1) := by decide +kernel
theorem dX1_isLetter_0 : decode cX1_isLetter 0 = .ok (.iload_n 0, 1) := by decide +kernel
theorem dX1_isLetter_1 : decode cX1_isLetter 1 = .ok (.bipush 97, 2) := by decide +kernel
theorem dX1_isLetter_3 : decode cX1_isLetter 3 = .ok (.if_icmp .lt 13, 3) := by decide +kernel
theorem dX1_isLetter_6 : decode cX1_isLetter 6 = .ok (.iload_n 0, 1) := by decide +kernel
theorem dX1_isLetter_7 : decode cX1_isLetter 7 = .ok (.bipush 122, 2) := by decide +kernel
theorem dX1_isLetter_9 : decode cX1_isLetter 9 = .ok (.if_icmp .gt 7, 3) := by decide +kernel
theorem dX1_isLetter_12 : decode cX1_isLetter 12 = .ok (.iconst 1, 1) := by decide +kernel
theorem dX1_isLetter_13 : decode cX1_isLetter 13 = .ok (.goto 4, 3) := by decide +kernel
theorem dX1_isLetter_16 : decode cX1_isLetter 16 = .ok (.iconst 0, 1) := by decide +kernel
theorem dX1_isLetter_17 : decode cX1_isLetter 17 = .ok (.ireturn, 1) := by decide +kernel
theorem dX1_isDigit_0 : decode cX1_isDigit 0 = .ok (.iload_n 0, 1) := by decide +kernel
theorem dX1_isDigit_1 : decode cX1_isDigit 1 = .ok (.bipush 48, 2) := by decide +kernel
theorem dX1_isDigit_3 : decode cX1_isDigit 3 = .ok (.if_icmp .lt 13, 3) := by decide +kernel
theorem dX1_isDigit_6 : decode cX1_isDigit 6 = .ok (.iload_n 0, 1) := by decide +kernel
theorem dX1_isDigit_7 : decode cX1_isDigit 7 = .ok (.bipush 57, 2) := by decide +kernel
theorem dX1_isDigit_9 : decode cX1_isDigit 9 = .ok (.if_icmp .gt 7, 3) := by decide +kernel
theorem dX1_isDigit_12 : decode cX1_isDigit 12 = .ok (.iconst 1, 1) := by decide +kernel
theorem dX1_isDigit_13 : decode cX1_isDigit 13 = .ok (.goto 4, 3) := by decide +kernel
theorem dX1_isDigit_16 : decode cX1_isDigit 16 = .ok (.iconst 0, 1) := by decide +kernel
theorem dX1_isDigit_17 : decode cX1_isDigit 17 = .ok (.ireturn, 1) := by decide +kernel
theorem dX1_signOf_0 : decode cX1_signOf 0 = .ok (.iload_n 0, 1) := by decide +kernel
theorem dX1_signOf_1 : decode cX1_signOf 1 = .ok (.tableswitch 127 40 61 #[103, 106, 118, 112, 127, 115, 127, 127, 127, 127, 127, 127, 127, 127, 127, 127, 127, 127, 127, 109, 121, 124], 103) := by decide +kernel
theorem dX1_signOf_104 : decode cX1_signOf 104 = .ok (.bipush (-16), 2) := by decide +kernel
theorem dX1_signOf_106 : decode cX1_signOf 106 = .ok (.ireturn, 1) := by decide +kernel
theorem dX1_signOf_107 : decode cX1_signOf 107 = .ok (.bipush (-17), 2) := by decide +kernel
theorem dX1_signOf_109 : decode cX1_signOf 109 = .ok (.ireturn, 1) := by decide +kernel
theorem dX1_signOf_110 : decode cX1_signOf 110 = .ok (.bipush (-18), 2) := by decide +kernel
theorem dX1_signOf_112 : decode cX1_signOf 112 = .ok (.ireturn, 1) := by decide +kernel
theorem dX1_signOf_113 : decode cX1_signOf 113 = .ok (.bipush (-12), 2) := by decide +kernel
theorem dX1_signOf_115 : decode cX1_signOf 115 = .ok (.ireturn, 1) := by decide +kernel
theorem dX1_signOf_116 : decode cX1_signOf 116 = .ok (.bipush (-13), 2) := by decide +kernel
theorem dX1_signOf_118 : decode cX1_signOf 118 = .ok (.ireturn, 1) := by decide +kernel
theorem dX1_signOf_119 : decode cX1_signOf 119 = .ok (.bipush (-14), 2) := by decide +kernel
theorem dX1_signOf_121 : decode cX1_signOf 121 = .ok (.ireturn, 1) := by decide +kernel
theorem dX1_signOf_122 : decode cX1_signOf 122 = .ok (.bipush (-10), 2) := by decide +kernel
theorem dX1_signOf_124 : decode cX1_signOf 124 = .ok (.ireturn, 1) := by decide +kernel
theorem dX1_signOf_125 : decode cX1_signOf 125 = .ok (.bipush (-11), 2) := by decide +kernel
theorem dX1_signOf_127 : decode cX1_signOf 127 = .ok (.ireturn, 1) := by decide +kernel
theorem dX1_signOf_128 : decode cX1_signOf 128 = .ok (.bipush (-20), 2) := by decide +kernel
