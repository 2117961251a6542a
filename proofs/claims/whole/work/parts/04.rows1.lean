theorem dX0_init_0 : decode cX0_init 0 = .ok (.aload_n 0, 1) := by decide +kernel
theorem dX0_init_1 : decode cX0_init 1 = .ok (.invokespecial 3, 3) := by decide +kernel
theorem dX0_init_4 : decode cX0_init 4 = .ok (.aload_n 0, 1) := by decide +kernel
theorem dX0_init_5 : decode cX0_init 5 = .ok (.iconst 0, 1) := by decide +kernel
theorem dX0_init_6 : decode cX0_init 6 = .ok (.putfield 9, 3) := by decide +kernel
theorem dX0_init_9 : decode cX0_init 9 = .ok (.aload_n 0, 1) := by decide +kernel
theorem dX0_init_10 : decode cX0_init 10 = .ok (.bipush 40, 2) := by decide +kernel
theorem dX0_init_12 : decode cX0_init 12 = .ok (.newarray .int, 2) := by decide +kernel
theorem dX0_init_14 : decode cX0_init 14 = .ok (.putfield 15, 3) := by decide +kernel
theorem dX0_init_17 : decode cX0_init 17 = .ok (.aload_n 0, 1) := by decide +kernel
theorem dX0_init_18 : decode cX0_init 18 = .ok (.bipush 40, 2) := by decide +kernel
theorem dX0_init_20 : decode cX0_init 20 = .ok (.newarray .int, 2) := by decide +kernel
theorem dX0_init_22 : decode cX0_init 22 = .ok (.putfield 19, 3) := by decide +kernel
theorem dX0_init_25 : decode cX0_init 25 = .ok (.aload_n 0, 1) := by decide +kernel
theorem dX0_init_26 : decode cX0_init 26 = .ok (.bipush 40, 2) := by decide +kernel
theorem dX0_init_28 : decode cX0_init 28 = .ok (.newarray .int, 2) := by decide +kernel
theorem dX0_init_30 : decode cX0_init 30 = .ok (.putfield 22, 3) := by decide +kernel
theorem dX0_init_33 : decode cX0_init 33 = .ok (.aload_n 0, 1) := by decide +kernel
theorem dX0_init_34 : decode cX0_init 34 = .ok (.bipush 40, 2) := by decide +kernel
theorem dX0_init_36 : decode cX0_init 36 = .ok (.newarray .int, 2) := by decide +kernel
theorem dX0_init_38 : decode cX0_init 38 = .ok (.putfield 25, 3) := by decide +kernel
theorem dX0_init_41 : decode cX0_init 41 = .ok (.aload_n 0, 1) := by decide +kernel
theorem dX0_init_42 : decode cX0_init 42 = .ok (.bipush 40, 2) := by decide +kernel
theorem dX0_init_44 : decode cX0_init 44 = .ok (.newarray .int, 2) := by decide +kernel
theorem dX0_init_46 : decode cX0_init 46 = .ok (.putfield 28, 3) := by decide +kernel
theorem dX0_init_49 : decode cX0_init 49 = .ok (.aload_n 0, 1) := by decide +kernel
theorem dX0_init_50 : decode cX0_init 50 = .ok (.bipush 40, 2) := by decide +kernel
theorem dX0_init_52 : decode cX0_init 52 = .ok (.newarray .long, 2) := by decide +kernel
theorem dX0_init_54 : decode cX0_init 54 = .ok (.putfield 31, 3) := by decide +kernel
theorem dX0_init_57 : decode cX0_init 57 = .ok (.return_, 1) := by decide +kernel
theorem dX0_clear_0 : decode cX0_clear 0 = .ok (.aload_n 0, 1) := by decide +kernel
theorem dX0_clear_1 : decode cX0_clear 1 = .ok (.iconst 0, 1) := by decide +kernel
theorem dX0_clear_2 : decode cX0_clear 2 = .ok (.putfield 9, 3) := by decide +kernel
theorem dX0_clear_5 : decode cX0_clear 5 = .ok (.aload_n 0, 1) := by decide +kernel
theorem dX0_clear_6 : decode cX0_clear 6 = .ok (.getfield 15, 3) := by decide +kernel
theorem dX0_clear_9 : decode cX0_clear 9 = .ok (.iload_n 1, 1) := by decide +kernel
theorem dX0_clear_10 : decode cX0_clear 10 = .ok (.invokestatic 35, 3) := by decide +kernel
theorem dX0_clear_13 : decode cX0_clear 13 = .ok (.aload_n 0, 1) := by decide +kernel
theorem dX0_clear_14 : decode cX0_clear 14 = .ok (.getfield 19, 3) := by decide +kernel
theorem dX0_clear_17 : decode cX0_clear 17 = .ok (.iload_n 1, 1) := by decide +kernel
theorem dX0_clear_18 : decode cX0_clear 18 = .ok (.invokestatic 35, 3) := by decide +kernel
theorem dX0_clear_21 : decode cX0_clear 21 = .ok (.aload_n 0, 1) := by decide +kernel
theorem dX0_clear_22 : decode cX0_clear 22 = .ok (.getfield 22, 3) := by decide +kernel
theorem dX0_clear_25 : decode cX0_clear 25 = .ok (.iconst (-1), 1) := by decide +kernel
theorem dX0_clear_26 : decode cX0_clear 26 = .ok (.invokestatic 35, 3) := by decide +kernel
theorem dX0_clear_29 : decode cX0_clear 29 = .ok (.aload_n 0, 1) := by decide +kernel
theorem dX0_clear_30 : decode cX0_clear 30 = .ok (.getfield 25, 3) := by decide +kernel
theorem dX0_clear_33 : decode cX0_clear 33 = .ok (.iconst 0, 1) := by decide +kernel
theorem dX0_clear_34 : decode cX0_clear 34 = .ok (.invokestatic 35, 3) := by decide +kernel
theorem dX0_clear_37 : decode cX0_clear 37 = .ok (.aload_n 0, 1) := by decide +kernel
theorem dX0_clear_38 : decode cX0_clear 38 = .ok (.getfield 28, 3) := by decide +kernel
theorem dX0_clear_41 : decode cX0_clear 41 = .ok (.iconst 0, 1) := by decide +kernel
theorem dX0_clear_42 : decode cX0_clear 42 = .ok (.invokestatic 35, 3) := by decide +kernel
theorem dX0_clear_45 : decode cX0_clear 45 = .ok (.aload_n 0, 1) := by decide +kernel
theorem dX0_clear_46 : decode cX0_clear 46 = .ok (.getfield 31, 3) := by decide +kernel
theorem dX0_clear_49 : decode cX0_clear 49 = .ok (.lconst 0, 1) := by decide +kernel
theorem dX0_clear_50 : decode cX0_clear 50 = .ok (.invokestatic 41, 3) := by decide +kernel
theorem dX0_clear_53 : decode cX0_clear 53 = .ok (.return_, 1) := by decide +kernel
theorem dX0_copyFrom_0 : decode cX0_copyFrom 0 = .ok (.aload_n 0, 1) := by decide +kernel
theorem dX0_copyFrom_1 : decode cX0_copyFrom 1 = .ok (.aload_n 1, 1) := by decide +kernel
theorem dX0_copyFrom_2 : decode cX0_copyFrom 2 = .ok (.getfield 9, 3) := by decide +kernel
theorem dX0_copyFrom_5 : decode cX0_copyFrom 5 = .ok (.putfield 9, 3) := by decide +kernel
theorem dX0_copyFrom_8 : decode cX0_copyFrom 8 = .ok (.aload_n 1, 1) := by decide +kernel
theorem dX0_copyFrom_9 : decode cX0_copyFrom 9 = .ok (.getfield 15, 3) := by decide +kernel
theorem dX0_copyFrom_12 : decode cX0_copyFrom 12 = .ok (.iconst 0, 1) := by decide +kernel
theorem dX0_copyFrom_13 : decode cX0_copyFrom 13 = .ok (.aload_n 0, 1) := by decide +kernel
theorem dX0_copyFrom_14 : decode cX0_copyFrom 14 = .ok (.getfield 15, 3) := by decide +kernel
theorem dX0_copyFrom_17 : decode cX0_copyFrom 17 = .ok (.iconst 0, 1) := by decide +kernel
theorem dX0_copyFrom_18 : decode cX0_copyFrom 18 = .ok (.bipush 40, 2) := by decide +kernel
theorem dX0_copyFrom_20 : decode cX0_copyFrom 20 = .ok (.invokestatic 44, 3) := by decide +kernel
theorem dX0_copyFrom_23 : decode cX0_copyFrom 23 = .ok (.aload_n 1, 1) := by decide +kernel
theorem dX0_copyFrom_24 : decode cX0_copyFrom 24 = .ok (.getfield 19, 3) := by decide +kernel
theorem dX0_copyFrom_27 : decode cX0_copyFrom 27 = .ok (.iconst 0, 1) := by decide +kernel
theorem dX0_copyFrom_28 : decode cX0_copyFrom 28 = .ok (.aload_n 0, 1) := by decide +kernel
theorem dX0_copyFrom_29 : decode cX0_copyFrom 29 = .ok (.getfield 19, 3) := by decide +kernel
theorem dX0_copyFrom_32 : decode cX0_copyFrom 32 = .ok (.iconst 0, 1) := by decide +kernel
theorem dX0_copyFrom_33 : decode cX0_copyFrom 33 = .ok (.bipush 40, 2) := by decide +kernel
theorem dX0_copyFrom_35 : decode cX0_copyFrom 35 = .ok (.invokestatic 44, 3) := by decide +kernel
theorem dX0_copyFrom_38 : decode cX0_copyFrom 38 = .ok (.aload_n 1, 1) := by decide +kernel
theorem dX0_copyFrom_39 : decode cX0_copyFrom 39 = .ok (.getfield 22, 3) := by decide +kernel
theorem dX0_copyFrom_42 : decode cX0_copyFrom 42 = .ok (.iconst 0, 1) := by decide +kernel
theorem dX0_copyFrom_43 : decode cX0_copyFrom 43 = .ok (.aload_n 0, 1) := by decide +kernel
theorem dX0_copyFrom_44 : decode cX0_copyFrom 44 = .ok (.getfield 22, 3) := by decide +kernel
theorem dX0_copyFrom_47 : decode cX0_copyFrom 47 = .ok (.iconst 0, 1) := by decide +kernel
theorem dX0_copyFrom_48 : decode cX0_copyFrom 48 = .ok (.bipush 40, 2) := by decide +kernel
theorem dX0_copyFrom_50 : decode cX0_copyFrom 50 = .ok (.invokestatic 44, 3) := by decide +kernel
theorem dX0_copyFrom_53 : decode cX0_copyFrom 53 = .ok (.aload_n 1, 1) := by decide +kernel
theorem dX0_copyFrom_54 : decode cX0_copyFrom 54 = .ok (.getfield 25, 3) := by decide +kernel
theorem dX0_copyFrom_57 : decode cX0_copyFrom 57 = .ok (.iconst 0, 1) := by decide +kernel
theorem dX0_copyFrom_58 : decode cX0_copyFrom 58 = .ok (.aload_n 0, 1) := by decide +kernel
theorem dX0_copyFrom_59 : decode cX0_copyFrom 59 = .ok (.getfield 25, 3) := by decide +kernel
theorem dX0_copyFrom_62 : decode cX0_copyFrom 62 = .ok (.iconst 0, 1) := by decide +kernel
theorem dX0_copyFrom_63 : decode cX0_copyFrom 63 = .ok (.bipush 40, 2) := by decide +kernel
theorem dX0_copyFrom_65 : decode cX0_copyFrom 65 = .ok (.invokestatic 44, 3) := by decide +kernel
theorem dX0_copyFrom_68 : decode cX0_copyFrom 68 = .ok (.aload_n 1, 1) := by decide +kernel
theorem dX0_copyFrom_69 : decode cX0_copyFrom 69 = .ok (.getfield 28, 3) := by decide +kernel
theorem dX0_copyFrom_72 : decode cX0_copyFrom 72 = .ok (.iconst 0, 1) := by decide +kernel
theorem dX0_copyFrom_73 : decode cX0_copyFrom 73 = .ok (.aload_n 0, 1) := by decide +kernel
theorem dX0_copyFrom_74 : decode cX0_copyFrom 74 = .ok (.getfield 28, 3) := by decide +kernel
theorem dX0_copyFrom_77 : decode cX0_copyFrom 77 = .ok (.iconst 0, 1) := by decide +kernel
theorem dX0_copyFrom_78 : decode cX0_copyFrom 78 = .ok (.bipush 40, 2) := by decide +kernel
theorem dX0_copyFrom_80 : decode cX0_copyFrom 80 = .ok (.invokestatic 44, 3) := by decide +kernel
theorem dX0_copyFrom_83 : decode cX0_copyFrom 83 = .ok (.aload_n 1, 1) := by decide +kernel
theorem dX0_copyFrom_84 : decode cX0_copyFrom 84 = .ok (.getfield 31, 3) := by decide +kernel
theorem dX0_copyFrom_87 : decode cX0_copyFrom 87 = .ok (.iconst 0, 1) := by decide +kernel
theorem dX0_copyFrom_88 : decode cX0_copyFrom 88 = .ok (.aload_n 0, 1) := by decide +kernel
theorem dX0_copyFrom_89 : decode cX0_copyFrom 89 = .ok (.getfield 31, 3) := by decide +kernel
theorem dX0_copyFrom_92 : decode cX0_copyFrom 92 = .ok (.iconst 0, 1) := by decide +kernel
theorem dX0_copyFrom_93 : decode cX0_copyFrom 93 = .ok (.bipush 40, 2) := by decide +kernel
theorem dX0_copyFrom_95 : decode cX0_copyFrom 95 = .ok (.invokestatic 44, 3) := by decide +kernel
theorem dX0_copyFrom_98 : decode cX0_copyFrom 98 = .ok (.return_, 1) := by decide +kernel
theorem dX0_placeOrder_0 : decode cX0_placeOrder 0 = .ok (.aload_n 0, 1) := by decide +kernel
theorem dX0_placeOrder_1 : decode cX0_placeOrder 1 = .ok (.getfield 22, 3) := by decide +kernel
theorem dX0_placeOrder_4 : decode cX0_placeOrder 4 = .ok (.aload_n 0, 1) := by decide +kernel
theorem dX0_placeOrder_5 : decode cX0_placeOrder 5 = .ok (.getfield 9, 3) := by decide +kernel
theorem dX0_placeOrder_8 : decode cX0_placeOrder 8 = .ok (.iload_n 1, 1) := by decide +kernel
theorem dX0_placeOrder_9 : decode cX0_placeOrder 9 = .ok (.iastore, 1) := by decide +kernel
theorem dX0_placeOrder_10 : decode cX0_placeOrder 10 = .ok (.aload_n 0, 1) := by decide +kernel
theorem dX0_placeOrder_11 : decode cX0_placeOrder 11 = .ok (.getfield 25, 3) := by decide +kernel
theorem dX0_placeOrder_14 : decode cX0_placeOrder 14 = .ok (.aload_n 0, 1) := by decide +kernel
theorem dX0_placeOrder_15 : decode cX0_placeOrder 15 = .ok (.getfield 9, 3) := by decide +kernel
theorem dX0_placeOrder_18 : decode cX0_placeOrder 18 = .ok (.iload_n 1, 1) := by decide +kernel
theorem dX0_placeOrder_19 : decode cX0_placeOrder 19 = .ok (.iastore, 1) := by decide +kernel
theorem dX0_placeOrder_20 : decode cX0_placeOrder 20 = .ok (.return_, 1) := by decide +kernel
theorem dX0_reserveFrom_0 : decode cX0_reserveFrom 0 = .ok (.iconst 0, 1) := by decide +kernel
theorem dX0_reserveFrom_1 : decode cX0_reserveFrom 1 = .ok (.istore 4, 2) := by decide +kernel
theorem dX0_reserveFrom_3 : decode cX0_reserveFrom 3 = .ok (.iload_n 1, 1) := by decide +kernel
theorem dX0_reserveFrom_4 : decode cX0_reserveFrom 4 = .ok (.istore 5, 2) := by decide +kernel
theorem dX0_reserveFrom_6 : decode cX0_reserveFrom 6 = .ok (.iload 5, 2) := by decide +kernel
theorem dX0_reserveFrom_8 : decode cX0_reserveFrom 8 = .ok (.iload_n 2, 1) := by decide +kernel
theorem dX0_reserveFrom_9 : decode cX0_reserveFrom 9 = .ok (.if_icmp .ge 31, 3) := by decide +kernel
theorem dX0_reserveFrom_12 : decode cX0_reserveFrom 12 = .ok (.aload_n 0, 1) := by decide +kernel
theorem dX0_reserveFrom_13 : decode cX0_reserveFrom 13 = .ok (.getfield 15, 3) := by decide +kernel
theorem dX0_reserveFrom_16 : decode cX0_reserveFrom 16 = .ok (.iload 5, 2) := by decide +kernel
theorem dX0_reserveFrom_18 : decode cX0_reserveFrom 18 = .ok (.iaload, 1) := by decide +kernel
theorem dX0_reserveFrom_19 : decode cX0_reserveFrom 19 = .ok (.iload_n 3, 1) := by decide +kernel
theorem dX0_reserveFrom_20 : decode cX0_reserveFrom 20 = .ok (.if_icmp .eq 14, 3) := by decide +kernel
theorem dX0_reserveFrom_23 : decode cX0_reserveFrom 23 = .ok (.aload_n 0, 1) := by decide +kernel
theorem dX0_reserveFrom_24 : decode cX0_reserveFrom 24 = .ok (.getfield 15, 3) := by decide +kernel
theorem dX0_reserveFrom_27 : decode cX0_reserveFrom 27 = .ok (.iload 5, 2) := by decide +kernel
theorem dX0_reserveFrom_29 : decode cX0_reserveFrom 29 = .ok (.iload_n 3, 1) := by decide +kernel
theorem dX0_reserveFrom_30 : decode cX0_reserveFrom 30 = .ok (.iastore, 1) := by decide +kernel
theorem dX0_reserveFrom_31 : decode cX0_reserveFrom 31 = .ok (.iinc 4 1, 3) := by decide +kernel
theorem dX0_reserveFrom_34 : decode cX0_reserveFrom 34 = .ok (.iinc 5 1, 3) := by decide +kernel
theorem dX0_reserveFrom_37 : decode cX0_reserveFrom 37 = .ok (.goto (-31), 3) := by decide +kernel
theorem dX0_reserveFrom_40 : decode cX0_reserveFrom 40 = .ok (.iload 4, 2) := by decide +kernel
theorem dX0_reserveFrom_42 : decode cX0_reserveFrom 42 = .ok (.ireturn, 1) := by decide +kernel
theorem dX0_closePeriod_0 : decode cX0_closePeriod 0 = .ok (.aload_n 0, 1) := by decide +kernel
theorem dX0_closePeriod_1 : decode cX0_closePeriod 1 = .ok (.getfield 9, 3) := by decide +kernel
theorem dX0_closePeriod_4 : decode cX0_closePeriod 4 = .ok (.istore_n 2, 1) := by decide +kernel
theorem dX0_closePeriod_5 : decode cX0_closePeriod 5 = .ok (.aload_n 0, 1) := by decide +kernel
theorem dX0_closePeriod_6 : decode cX0_closePeriod 6 = .ok (.getfield 22, 3) := by decide +kernel
theorem dX0_closePeriod_9 : decode cX0_closePeriod 9 = .ok (.iload_n 2, 1) := by decide +kernel
theorem dX0_closePeriod_10 : decode cX0_closePeriod 10 = .ok (.iaload, 1) := by decide +kernel
theorem dX0_closePeriod_11 : decode cX0_closePeriod 11 = .ok (.ifCond .ge 13, 3) := by decide +kernel
theorem dX0_closePeriod_14 : decode cX0_closePeriod 14 = .ok (.aload_n 0, 1) := by decide +kernel
theorem dX0_closePeriod_15 : decode cX0_closePeriod 15 = .ok (.aload_n 0, 1) := by decide +kernel
theorem dX0_closePeriod_16 : decode cX0_closePeriod 16 = .ok (.getfield 19, 3) := by decide +kernel
theorem dX0_closePeriod_19 : decode cX0_closePeriod 19 = .ok (.iload_n 2, 1) := by decide +kernel
theorem dX0_closePeriod_20 : decode cX0_closePeriod 20 = .ok (.iaload, 1) := by decide +kernel
theorem dX0_closePeriod_21 : decode cX0_closePeriod 21 = .ok (.invokevirtual 50, 3) := by decide +kernel
theorem dX0_closePeriod_24 : decode cX0_closePeriod 24 = .ok (.aload_n 0, 1) := by decide +kernel
theorem dX0_closePeriod_25 : decode cX0_closePeriod 25 = .ok (.aload_n 1, 1) := by decide +kernel
theorem dX0_closePeriod_26 : decode cX0_closePeriod 26 = .ok (.getfield 54, 3) := by decide +kernel
theorem dX0_closePeriod_29 : decode cX0_closePeriod 29 = .ok (.invokevirtual 59, 3) := by decide +kernel
theorem dX0_closePeriod_32 : decode cX0_closePeriod 32 = .ok (.istore_n 3, 1) := by decide +kernel
theorem dX0_closePeriod_33 : decode cX0_closePeriod 33 = .ok (.iload_n 2, 1) := by decide +kernel
theorem dX0_closePeriod_34 : decode cX0_closePeriod 34 = .ok (.aload_n 1, 1) := by decide +kernel
theorem dX0_closePeriod_35 : decode cX0_closePeriod 35 = .ok (.getfield 54, 3) := by decide +kernel
theorem dX0_closePeriod_38 : decode cX0_closePeriod 38 = .ok (.isub, 1) := by decide +kernel
theorem dX0_closePeriod_39 : decode cX0_closePeriod 39 = .ok (.istore 4, 2) := by decide +kernel
theorem dX0_closePeriod_41 : decode cX0_closePeriod 41 = .ok (.iload 4, 2) := by decide +kernel
theorem dX0_closePeriod_43 : decode cX0_closePeriod 43 = .ok (.ifCond .ge 7, 3) := by decide +kernel
theorem dX0_closePeriod_46 : decode cX0_closePeriod 46 = .ok (.iconst 0, 1) := by decide +kernel
theorem dX0_closePeriod_47 : decode cX0_closePeriod 47 = .ok (.goto 13, 3) := by decide +kernel
theorem dX0_closePeriod_50 : decode cX0_closePeriod 50 = .ok (.aload_n 0, 1) := by decide +kernel
theorem dX0_closePeriod_51 : decode cX0_closePeriod 51 = .ok (.iload 4, 2) := by decide +kernel
theorem dX0_closePeriod_53 : decode cX0_closePeriod 53 = .ok (.aload_n 1, 1) := by decide +kernel
theorem dX0_closePeriod_54 : decode cX0_closePeriod 54 = .ok (.getfield 63, 3) := by decide +kernel
theorem dX0_closePeriod_57 : decode cX0_closePeriod 57 = .ok (.invokevirtual 66, 3) := by decide +kernel
theorem dX0_closePeriod_60 : decode cX0_closePeriod 60 = .ok (.istore 5, 2) := by decide +kernel
theorem dX0_closePeriod_62 : decode cX0_closePeriod 62 = .ok (.iload 4, 2) := by decide +kernel
theorem dX0_closePeriod_64 : decode cX0_closePeriod 64 = .ok (.ifCond .ge 7, 3) := by decide +kernel
theorem dX0_closePeriod_67 : decode cX0_closePeriod 67 = .ok (.iconst 0, 1) := by decide +kernel
theorem dX0_closePeriod_68 : decode cX0_closePeriod 68 = .ok (.goto 9, 3) := by decide +kernel
theorem dX0_closePeriod_71 : decode cX0_closePeriod 71 = .ok (.aload_n 0, 1) := by decide +kernel
theorem dX0_closePeriod_72 : decode cX0_closePeriod 72 = .ok (.iload 4, 2) := by decide +kernel
theorem dX0_closePeriod_74 : decode cX0_closePeriod 74 = .ok (.invokevirtual 70, 3) := by decide +kernel
theorem dX0_closePeriod_77 : decode cX0_closePeriod 77 = .ok (.istore 6, 2) := by decide +kernel
theorem dX0_closePeriod_79 : decode cX0_closePeriod 79 = .ok (.aload_n 0, 1) := by decide +kernel
theorem dX0_closePeriod_80 : decode cX0_closePeriod 80 = .ok (.dup, 1) := by decide +kernel
theorem dX0_closePeriod_81 : decode cX0_closePeriod 81 = .ok (.getfield 9, 3) := by decide +kernel
theorem dX0_closePeriod_84 : decode cX0_closePeriod 84 = .ok (.iconst 1, 1) := by decide +kernel
theorem dX0_closePeriod_85 : decode cX0_closePeriod 85 = .ok (.iadd, 1) := by decide +kernel
theorem dX0_closePeriod_86 : decode cX0_closePeriod 86 = .ok (.putfield 9, 3) := by decide +kernel
theorem dX0_closePeriod_89 : decode cX0_closePeriod 89 = .ok (.aload_n 0, 1) := by decide +kernel
theorem dX0_closePeriod_90 : decode cX0_closePeriod 90 = .ok (.getfield 9, 3) := by decide +kernel
theorem dX0_closePeriod_93 : decode cX0_closePeriod 93 = .ok (.aload_n 1, 1) := by decide +kernel
theorem dX0_closePeriod_94 : decode cX0_closePeriod 94 = .ok (.getfield 73, 3) := by decide +kernel
theorem dX0_closePeriod_97 : decode cX0_closePeriod 97 = .ok (.if_icmp .lt 16, 3) := by decide +kernel
theorem dX0_closePeriod_100 : decode cX0_closePeriod 100 = .ok (.iload 6, 2) := by decide +kernel
theorem dX0_closePeriod_102 : decode cX0_closePeriod 102 = .ok (.aload_n 0, 1) := by decide +kernel
theorem dX0_closePeriod_103 : decode cX0_closePeriod 103 = .ok (.aload_n 1, 1) := by decide +kernel
theorem dX0_closePeriod_104 : decode cX0_closePeriod 104 = .ok (.getfield 73, 3) := by decide +kernel
theorem dX0_closePeriod_107 : decode cX0_closePeriod 107 = .ok (.invokevirtual 76, 3) := by decide +kernel
theorem dX0_closePeriod_110 : decode cX0_closePeriod 110 = .ok (.iadd, 1) := by decide +kernel
theorem dX0_closePeriod_111 : decode cX0_closePeriod 111 = .ok (.istore 6, 2) := by decide +kernel
theorem dX0_closePeriod_113 : decode cX0_closePeriod 113 = .ok (.iconst 0, 1) := by decide +kernel
theorem dX0_closePeriod_114 : decode cX0_closePeriod 114 = .ok (.aload_n 0, 1) := by decide +kernel
theorem dX0_closePeriod_115 : decode cX0_closePeriod 115 = .ok (.getfield 15, 3) := by decide +kernel
theorem dX0_closePeriod_118 : decode cX0_closePeriod 118 = .ok (.iload_n 2, 1) := by decide +kernel
theorem dX0_closePeriod_119 : decode cX0_closePeriod 119 = .ok (.iaload, 1) := by decide +kernel
theorem dX0_closePeriod_120 : decode cX0_closePeriod 120 = .ok (.aload_n 1, 1) := by decide +kernel
theorem dX0_closePeriod_121 : decode cX0_closePeriod 121 = .ok (.getfield 79, 3) := by decide +kernel
theorem dX0_closePeriod_124 : decode cX0_closePeriod 124 = .ok (.imul, 1) := by decide +kernel
theorem dX0_closePeriod_125 : decode cX0_closePeriod 125 = .ok (.bipush 100, 2) := by decide +kernel
theorem dX0_closePeriod_127 : decode cX0_closePeriod 127 = .ok (.idiv, 1) := by decide +kernel
theorem dX0_closePeriod_128 : decode cX0_closePeriod 128 = .ok (.aload_n 0, 1) := by decide +kernel
theorem dX0_closePeriod_129 : decode cX0_closePeriod 129 = .ok (.getfield 22, 3) := by decide +kernel
theorem dX0_closePeriod_132 : decode cX0_closePeriod 132 = .ok (.iload_n 2, 1) := by decide +kernel
theorem dX0_closePeriod_133 : decode cX0_closePeriod 133 = .ok (.iaload, 1) := by decide +kernel
theorem dX0_closePeriod_134 : decode cX0_closePeriod 134 = .ok (.isub, 1) := by decide +kernel
theorem dX0_closePeriod_135 : decode cX0_closePeriod 135 = .ok (.invokestatic 82, 3) := by decide +kernel
theorem dX0_closePeriod_138 : decode cX0_closePeriod 138 = .ok (.istore 7, 2) := by decide +kernel
theorem dX0_closePeriod_140 : decode cX0_closePeriod 140 = .ok (.aload_n 0, 1) := by decide +kernel
theorem dX0_closePeriod_141 : decode cX0_closePeriod 141 = .ok (.getfield 31, 3) := by decide +kernel
theorem dX0_closePeriod_144 : decode cX0_closePeriod 144 = .ok (.iload_n 2, 1) := by decide +kernel
theorem dX0_closePeriod_145 : decode cX0_closePeriod 145 = .ok (.aload_n 1, 1) := by decide +kernel
theorem dX0_closePeriod_146 : decode cX0_closePeriod 146 = .ok (.getfield 87, 3) := by decide +kernel
theorem dX0_closePeriod_149 : decode cX0_closePeriod 149 = .ok (.i2l, 1) := by decide +kernel
theorem dX0_closePeriod_150 : decode cX0_closePeriod 150 = .ok (.aload_n 0, 1) := by decide +kernel
theorem dX0_closePeriod_151 : decode cX0_closePeriod 151 = .ok (.getfield 15, 3) := by decide +kernel
theorem dX0_closePeriod_154 : decode cX0_closePeriod 154 = .ok (.iload_n 2, 1) := by decide +kernel
theorem dX0_closePeriod_155 : decode cX0_closePeriod 155 = .ok (.iaload, 1) := by decide +kernel
theorem dX0_closePeriod_156 : decode cX0_closePeriod 156 = .ok (.i2l, 1) := by decide +kernel
theorem dX0_closePeriod_157 : decode cX0_closePeriod 157 = .ok (.lmul, 1) := by decide +kernel
theorem dX0_closePeriod_158 : decode cX0_closePeriod 158 = .ok (.aload_n 1, 1) := by decide +kernel
theorem dX0_closePeriod_159 : decode cX0_closePeriod 159 = .ok (.getfield 90, 3) := by decide +kernel
theorem dX0_closePeriod_162 : decode cX0_closePeriod 162 = .ok (.i2l, 1) := by decide +kernel
theorem dX0_closePeriod_163 : decode cX0_closePeriod 163 = .ok (.iload_n 3, 1) := by decide +kernel
theorem dX0_closePeriod_164 : decode cX0_closePeriod 164 = .ok (.i2l, 1) := by decide +kernel
theorem dX0_closePeriod_165 : decode cX0_closePeriod 165 = .ok (.lmul, 1) := by decide +kernel
theorem dX0_closePeriod_166 : decode cX0_closePeriod 166 = .ok (.ladd, 1) := by decide +kernel
theorem dX0_closePeriod_167 : decode cX0_closePeriod 167 = .ok (.aload_n 1, 1) := by decide +kernel
theorem dX0_closePeriod_168 : decode cX0_closePeriod 168 = .ok (.getfield 93, 3) := by decide +kernel
theorem dX0_closePeriod_171 : decode cX0_closePeriod 171 = .ok (.i2l, 1) := by decide +kernel
theorem dX0_closePeriod_172 : decode cX0_closePeriod 172 = .ok (.iload 5, 2) := by decide +kernel
theorem dX0_closePeriod_174 : decode cX0_closePeriod 174 = .ok (.i2l, 1) := by decide +kernel
theorem dX0_closePeriod_175 : decode cX0_closePeriod 175 = .ok (.lmul, 1) := by decide +kernel
theorem dX0_closePeriod_176 : decode cX0_closePeriod 176 = .ok (.ladd, 1) := by decide +kernel
theorem dX0_closePeriod_177 : decode cX0_closePeriod 177 = .ok (.aload_n 1, 1) := by decide +kernel
theorem dX0_closePeriod_178 : decode cX0_closePeriod 178 = .ok (.getfield 90, 3) := by decide +kernel
theorem dX0_closePeriod_181 : decode cX0_closePeriod 181 = .ok (.i2l, 1) := by decide +kernel
theorem dX0_closePeriod_182 : decode cX0_closePeriod 182 = .ok (.iload 7, 2) := by decide +kernel
theorem dX0_closePeriod_184 : decode cX0_closePeriod 184 = .ok (.i2l, 1) := by decide +kernel
theorem dX0_closePeriod_185 : decode cX0_closePeriod 185 = .ok (.lmul, 1) := by decide +kernel
theorem dX0_closePeriod_186 : decode cX0_closePeriod 186 = .ok (.ladd, 1) := by decide +kernel
theorem dX0_closePeriod_187 : decode cX0_closePeriod 187 = .ok (.aload_n 1, 1) := by decide +kernel
theorem dX0_closePeriod_188 : decode cX0_closePeriod 188 = .ok (.getfield 96, 3) := by decide +kernel
theorem dX0_closePeriod_191 : decode cX0_closePeriod 191 = .ok (.i2l, 1) := by decide +kernel
theorem dX0_closePeriod_192 : decode cX0_closePeriod 192 = .ok (.iload 6, 2) := by decide +kernel
theorem dX0_closePeriod_194 : decode cX0_closePeriod 194 = .ok (.i2l, 1) := by decide +kernel
theorem dX0_closePeriod_195 : decode cX0_closePeriod 195 = .ok (.lmul, 1) := by decide +kernel
theorem dX0_closePeriod_196 : decode cX0_closePeriod 196 = .ok (.lsub, 1) := by decide +kernel
theorem dX0_closePeriod_197 : decode cX0_closePeriod 197 = .ok (.lastore, 1) := by decide +kernel
theorem dX0_closePeriod_198 : decode cX0_closePeriod 198 = .ok (.aload_n 0, 1) := by decide +kernel
theorem dX0_closePeriod_199 : decode cX0_closePeriod 199 = .ok (.getfield 31, 3) := by decide +kernel
theorem dX0_closePeriod_202 : decode cX0_closePeriod 202 = .ok (.iload_n 2, 1) := by decide +kernel
theorem dX0_closePeriod_203 : decode cX0_closePeriod 203 = .ok (.laload, 1) := by decide +kernel
theorem dX0_closePeriod_204 : decode cX0_closePeriod 204 = .ok (.lreturn, 1) := by decide +kernel
theorem dX0_deliverReserved_0 : decode cX0_deliverReserved 0 = .ok (.aload_n 0, 1) := by decide +kernel
theorem dX0_deliverReserved_1 : decode cX0_deliverReserved 1 = .ok (.getfield 15, 3) := by decide +kernel
theorem dX0_deliverReserved_4 : decode cX0_deliverReserved 4 = .ok (.aload_n 0, 1) := by decide +kernel
theorem dX0_deliverReserved_5 : decode cX0_deliverReserved 5 = .ok (.getfield 9, 3) := by decide +kernel
theorem dX0_deliverReserved_8 : decode cX0_deliverReserved 8 = .ok (.iaload, 1) := by decide +kernel
theorem dX0_deliverReserved_9 : decode cX0_deliverReserved 9 = .ok (.istore_n 2, 1) := by decide +kernel
theorem dX0_deliverReserved_10 : decode cX0_deliverReserved 10 = .ok (.iconst 0, 1) := by decide +kernel
theorem dX0_deliverReserved_11 : decode cX0_deliverReserved 11 = .ok (.aload_n 0, 1) := by decide +kernel
theorem dX0_deliverReserved_12 : decode cX0_deliverReserved 12 = .ok (.getfield 9, 3) := by decide +kernel
theorem dX0_deliverReserved_15 : decode cX0_deliverReserved 15 = .ok (.iload_n 1, 1) := by decide +kernel
theorem dX0_deliverReserved_16 : decode cX0_deliverReserved 16 = .ok (.isub, 1) := by decide +kernel
theorem dX0_deliverReserved_17 : decode cX0_deliverReserved 17 = .ok (.invokestatic 82, 3) := by decide +kernel
theorem dX0_deliverReserved_20 : decode cX0_deliverReserved 20 = .ok (.istore_n 3, 1) := by decide +kernel
theorem dX0_deliverReserved_21 : decode cX0_deliverReserved 21 = .ok (.iload_n 3, 1) := by decide +kernel
theorem dX0_deliverReserved_22 : decode cX0_deliverReserved 22 = .ok (.aload_n 0, 1) := by decide +kernel
theorem dX0_deliverReserved_23 : decode cX0_deliverReserved 23 = .ok (.getfield 9, 3) := by decide +kernel
theorem dX0_deliverReserved_26 : decode cX0_deliverReserved 26 = .ok (.if_icmp .gt 37, 3) := by decide +kernel
theorem dX0_deliverReserved_29 : decode cX0_deliverReserved 29 = .ok (.iload_n 2, 1) := by decide +kernel
theorem dX0_deliverReserved_30 : decode cX0_deliverReserved 30 = .ok (.aload_n 0, 1) := by decide +kernel
theorem dX0_deliverReserved_31 : decode cX0_deliverReserved 31 = .ok (.getfield 25, 3) := by decide +kernel
theorem dX0_deliverReserved_34 : decode cX0_deliverReserved 34 = .ok (.iload_n 3, 1) := by decide +kernel
theorem dX0_deliverReserved_35 : decode cX0_deliverReserved 35 = .ok (.iaload, 1) := by decide +kernel
theorem dX0_deliverReserved_36 : decode cX0_deliverReserved 36 = .ok (.invokestatic 99, 3) := by decide +kernel
theorem dX0_deliverReserved_39 : decode cX0_deliverReserved 39 = .ok (.istore 4, 2) := by decide +kernel
theorem dX0_deliverReserved_41 : decode cX0_deliverReserved 41 = .ok (.aload_n 0, 1) := by decide +kernel
theorem dX0_deliverReserved_42 : decode cX0_deliverReserved 42 = .ok (.getfield 25, 3) := by decide +kernel
theorem dX0_deliverReserved_45 : decode cX0_deliverReserved 45 = .ok (.iload_n 3, 1) := by decide +kernel
theorem dX0_deliverReserved_46 : decode cX0_deliverReserved 46 = .ok (.dup2, 1) := by decide +kernel
theorem dX0_deliverReserved_47 : decode cX0_deliverReserved 47 = .ok (.iaload, 1) := by decide +kernel
theorem dX0_deliverReserved_48 : decode cX0_deliverReserved 48 = .ok (.iload 4, 2) := by decide +kernel
theorem dX0_deliverReserved_50 : decode cX0_deliverReserved 50 = .ok (.isub, 1) := by decide +kernel
theorem dX0_deliverReserved_51 : decode cX0_deliverReserved 51 = .ok (.iastore, 1) := by decide +kernel
theorem dX0_deliverReserved_52 : decode cX0_deliverReserved 52 = .ok (.iload_n 2, 1) := by decide +kernel
theorem dX0_deliverReserved_53 : decode cX0_deliverReserved 53 = .ok (.iload 4, 2) := by decide +kernel
theorem dX0_deliverReserved_55 : decode cX0_deliverReserved 55 = .ok (.isub, 1) := by decide +kernel
theorem dX0_deliverReserved_56 : decode cX0_deliverReserved 56 = .ok (.istore_n 2, 1) := by decide +kernel
theorem dX0_deliverReserved_57 : decode cX0_deliverReserved 57 = .ok (.iinc 3 1, 3) := by decide +kernel
theorem dX0_deliverReserved_60 : decode cX0_deliverReserved 60 = .ok (.goto (-39), 3) := by decide +kernel
theorem dX0_deliverReserved_63 : decode cX0_deliverReserved 63 = .ok (.aload_n 0, 1) := by decide +kernel
theorem dX0_deliverReserved_64 : decode cX0_deliverReserved 64 = .ok (.getfield 15, 3) := by decide +kernel
theorem dX0_deliverReserved_67 : decode cX0_deliverReserved 67 = .ok (.aload_n 0, 1) := by decide +kernel
theorem dX0_deliverReserved_68 : decode cX0_deliverReserved 68 = .ok (.getfield 9, 3) := by decide +kernel
theorem dX0_deliverReserved_71 : decode cX0_deliverReserved 71 = .ok (.iaload, 1) := by decide +kernel
theorem dX0_deliverReserved_72 : decode cX0_deliverReserved 72 = .ok (.iload_n 2, 1) := by decide +kernel
theorem dX0_deliverReserved_73 : decode cX0_deliverReserved 73 = .ok (.isub, 1) := by decide +kernel
theorem dX0_deliverReserved_74 : decode cX0_deliverReserved 74 = .ok (.ireturn, 1) := by decide +kernel
theorem dX0_deliverSpot_0 : decode cX0_deliverSpot 0 = .ok (.iload_n 2, 1) := by decide +kernel
theorem dX0_deliverSpot_1 : decode cX0_deliverSpot 1 = .ok (.aload_n 0, 1) := by decide +kernel
theorem dX0_deliverSpot_2 : decode cX0_deliverSpot 2 = .ok (.getfield 25, 3) := by decide +kernel
theorem dX0_deliverSpot_5 : decode cX0_deliverSpot 5 = .ok (.iload_n 1, 1) := by decide +kernel
theorem dX0_deliverSpot_6 : decode cX0_deliverSpot 6 = .ok (.iaload, 1) := by decide +kernel
theorem dX0_deliverSpot_7 : decode cX0_deliverSpot 7 = .ok (.invokestatic 99, 3) := by decide +kernel
theorem dX0_deliverSpot_10 : decode cX0_deliverSpot 10 = .ok (.istore_n 3, 1) := by decide +kernel
theorem dX0_deliverSpot_11 : decode cX0_deliverSpot 11 = .ok (.aload_n 0, 1) := by decide +kernel
theorem dX0_deliverSpot_12 : decode cX0_deliverSpot 12 = .ok (.getfield 25, 3) := by decide +kernel
theorem dX0_deliverSpot_15 : decode cX0_deliverSpot 15 = .ok (.iload_n 1, 1) := by decide +kernel
theorem dX0_deliverSpot_16 : decode cX0_deliverSpot 16 = .ok (.dup2, 1) := by decide +kernel
theorem dX0_deliverSpot_17 : decode cX0_deliverSpot 17 = .ok (.iaload, 1) := by decide +kernel
theorem dX0_deliverSpot_18 : decode cX0_deliverSpot 18 = .ok (.iload_n 3, 1) := by decide +kernel
theorem dX0_deliverSpot_19 : decode cX0_deliverSpot 19 = .ok (.isub, 1) := by decide +kernel
theorem dX0_deliverSpot_20 : decode cX0_deliverSpot 20 = .ok (.iastore, 1) := by decide +kernel
theorem dX0_deliverSpot_21 : decode cX0_deliverSpot 21 = .ok (.iload_n 3, 1) := by decide +kernel
theorem dX0_deliverSpot_22 : decode cX0_deliverSpot 22 = .ok (.ireturn, 1) := by decide +kernel
theorem dX0_missOpen_0 : decode cX0_missOpen 0 = .ok (.aload_n 0, 1) := by decide +kernel
theorem dX0_missOpen_1 : decode cX0_missOpen 1 = .ok (.getfield 25, 3) := by decide +kernel
theorem dX0_missOpen_4 : decode cX0_missOpen 4 = .ok (.iload_n 1, 1) := by decide +kernel
theorem dX0_missOpen_5 : decode cX0_missOpen 5 = .ok (.iaload, 1) := by decide +kernel
theorem dX0_missOpen_6 : decode cX0_missOpen 6 = .ok (.istore_n 2, 1) := by decide +kernel
theorem dX0_missOpen_7 : decode cX0_missOpen 7 = .ok (.aload_n 0, 1) := by decide +kernel
theorem dX0_missOpen_8 : decode cX0_missOpen 8 = .ok (.getfield 25, 3) := by decide +kernel
theorem dX0_missOpen_11 : decode cX0_missOpen 11 = .ok (.iload_n 1, 1) := by decide +kernel
theorem dX0_missOpen_12 : decode cX0_missOpen 12 = .ok (.iconst 0, 1) := by decide +kernel
theorem dX0_missOpen_13 : decode cX0_missOpen 13 = .ok (.iastore, 1) := by decide +kernel
theorem dX0_missOpen_14 : decode cX0_missOpen 14 = .ok (.aload_n 0, 1) := by decide +kernel
theorem dX0_missOpen_15 : decode cX0_missOpen 15 = .ok (.getfield 28, 3) := by decide +kernel
theorem dX0_missOpen_18 : decode cX0_missOpen 18 = .ok (.iload_n 1, 1) := by decide +kernel
theorem dX0_missOpen_19 : decode cX0_missOpen 19 = .ok (.dup2, 1) := by decide +kernel
theorem dX0_missOpen_20 : decode cX0_missOpen 20 = .ok (.iaload, 1) := by decide +kernel
theorem dX0_missOpen_21 : decode cX0_missOpen 21 = .ok (.iload_n 2, 1) := by decide +kernel
theorem dX0_missOpen_22 : decode cX0_missOpen 22 = .ok (.iadd, 1) := by decide +kernel
theorem dX0_missOpen_23 : decode cX0_missOpen 23 = .ok (.iastore, 1) := by decide +kernel
theorem dX0_missOpen_24 : decode cX0_missOpen 24 = .ok (.iload_n 2, 1) := by decide +kernel
theorem dX0_missOpen_25 : decode cX0_missOpen 25 = .ok (.ireturn, 1) := by decide +kernel
theorem dX0_missAllOpen_0 : decode cX0_missAllOpen 0 = .ok (.iconst 0, 1) := by decide +kernel
theorem dX0_missAllOpen_1 : decode cX0_missAllOpen 1 = .ok (.istore_n 2, 1) := by decide +kernel
theorem dX0_missAllOpen_2 : decode cX0_missAllOpen 2 = .ok (.iconst 0, 1) := by decide +kernel
theorem dX0_missAllOpen_3 : decode cX0_missAllOpen 3 = .ok (.istore_n 3, 1) := by decide +kernel
theorem dX0_missAllOpen_4 : decode cX0_missAllOpen 4 = .ok (.iload_n 3, 1) := by decide +kernel
theorem dX0_missAllOpen_5 : decode cX0_missAllOpen 5 = .ok (.iload_n 1, 1) := by decide +kernel
theorem dX0_missAllOpen_6 : decode cX0_missAllOpen 6 = .ok (.if_icmp .ge 17, 3) := by decide +kernel
theorem dX0_missAllOpen_9 : decode cX0_missAllOpen 9 = .ok (.iload_n 2, 1) := by decide +kernel
theorem dX0_missAllOpen_10 : decode cX0_missAllOpen 10 = .ok (.aload_n 0, 1) := by decide +kernel
theorem dX0_missAllOpen_11 : decode cX0_missAllOpen 11 = .ok (.iload_n 3, 1) := by decide +kernel
theorem dX0_missAllOpen_12 : decode cX0_missAllOpen 12 = .ok (.invokevirtual 70, 3) := by decide +kernel
theorem dX0_missAllOpen_15 : decode cX0_missAllOpen 15 = .ok (.iadd, 1) := by decide +kernel
theorem dX0_missAllOpen_16 : decode cX0_missAllOpen 16 = .ok (.istore_n 2, 1) := by decide +kernel
theorem dX0_missAllOpen_17 : decode cX0_missAllOpen 17 = .ok (.iinc 3 1, 3) := by decide +kernel
theorem dX0_missAllOpen_20 : decode cX0_missAllOpen 20 = .ok (.goto (-16), 3) := by decide +kernel
theorem dX0_missAllOpen_23 : decode cX0_missAllOpen 23 = .ok (.iload_n 2, 1) := by decide +kernel
theorem dX0_missAllOpen_24 : decode cX0_missAllOpen 24 = .ok (.ireturn, 1) := by decide +kernel
theorem dX0_closeRest_0 : decode cX0_closeRest 0 = .ok (.lconst 0, 1) := by decide +kernel
theorem dX0_closeRest_1 : decode cX0_closeRest 1 = .ok (.lstore_n 2, 1) := by decide +kernel
theorem dX0_closeRest_2 : decode cX0_closeRest 2 = .ok (.aload_n 0, 1) := by decide +kernel
theorem dX0_closeRest_3 : decode cX0_closeRest 3 = .ok (.getfield 9, 3) := by decide +kernel
theorem dX0_closeRest_6 : decode cX0_closeRest 6 = .ok (.istore 4, 2) := by decide +kernel
theorem dX0_closeRest_8 : decode cX0_closeRest 8 = .ok (.iload 4, 2) := by decide +kernel
theorem dX0_closeRest_10 : decode cX0_closeRest 10 = .ok (.aload_n 1, 1) := by decide +kernel
theorem dX0_closeRest_11 : decode cX0_closeRest 11 = .ok (.getfield 73, 3) := by decide +kernel
theorem dX0_closeRest_14 : decode cX0_closeRest 14 = .ok (.if_icmp .ge 17, 3) := by decide +kernel
theorem dX0_closeRest_17 : decode cX0_closeRest 17 = .ok (.lload_n 2, 1) := by decide +kernel
theorem dX0_closeRest_18 : decode cX0_closeRest 18 = .ok (.aload_n 0, 1) := by decide +kernel
theorem dX0_closeRest_19 : decode cX0_closeRest 19 = .ok (.aload_n 1, 1) := by decide +kernel
theorem dX0_closeRest_20 : decode cX0_closeRest 20 = .ok (.invokevirtual 102, 3) := by decide +kernel
theorem dX0_closeRest_23 : decode cX0_closeRest 23 = .ok (.ladd, 1) := by decide +kernel
theorem dX0_closeRest_24 : decode cX0_closeRest 24 = .ok (.lstore_n 2, 1) := by decide +kernel
theorem dX0_closeRest_25 : decode cX0_closeRest 25 = .ok (.iinc 4 1, 3) := by decide +kernel
theorem dX0_closeRest_28 : decode cX0_closeRest 28 = .ok (.goto (-20), 3) := by decide +kernel
theorem dX0_closeRest_31 : decode cX0_closeRest 31 = .ok (.lload_n 2, 1) := by decide +kernel
theorem dX0_closeRest_32 : decode cX0_closeRest 32 = .ok (.lreturn, 1) := by decide +kernel
theorem dX0_invoiceSum_0 : decode cX0_invoiceSum 0 = .ok (.lconst 0, 1) := by decide +kernel
theorem dX0_invoiceSum_1 : decode cX0_invoiceSum 1 = .ok (.lstore_n 2, 1) := by decide +kernel
theorem dX0_invoiceSum_2 : decode cX0_invoiceSum 2 = .ok (.iconst 0, 1) := by decide +kernel
theorem dX0_invoiceSum_3 : decode cX0_invoiceSum 3 = .ok (.istore 4, 2) := by decide +kernel
theorem dX0_invoiceSum_5 : decode cX0_invoiceSum 5 = .ok (.iload 4, 2) := by decide +kernel
theorem dX0_invoiceSum_7 : decode cX0_invoiceSum 7 = .ok (.iload_n 1, 1) := by decide +kernel
theorem dX0_invoiceSum_8 : decode cX0_invoiceSum 8 = .ok (.if_icmp .ge 19, 3) := by decide +kernel
theorem dX0_invoiceSum_11 : decode cX0_invoiceSum 11 = .ok (.lload_n 2, 1) := by decide +kernel
theorem dX0_invoiceSum_12 : decode cX0_invoiceSum 12 = .ok (.aload_n 0, 1) := by decide +kernel
theorem dX0_invoiceSum_13 : decode cX0_invoiceSum 13 = .ok (.getfield 31, 3) := by decide +kernel
theorem dX0_invoiceSum_16 : decode cX0_invoiceSum 16 = .ok (.iload 4, 2) := by decide +kernel
theorem dX0_invoiceSum_18 : decode cX0_invoiceSum 18 = .ok (.laload, 1) := by decide +kernel
theorem dX0_invoiceSum_19 : decode cX0_invoiceSum 19 = .ok (.ladd, 1) := by decide +kernel
theorem dX0_invoiceSum_20 : decode cX0_invoiceSum 20 = .ok (.lstore_n 2, 1) := by decide +kernel
theorem dX0_invoiceSum_21 : decode cX0_invoiceSum 21 = .ok (.iinc 4 1, 3) := by decide +kernel
theorem dX0_invoiceSum_24 : decode cX0_invoiceSum 24 = .ok (.goto (-19), 3) := by decide +kernel
theorem dX0_invoiceSum_27 : decode cX0_invoiceSum 27 = .ok (.lload_n 2, 1) := by decide +kernel
theorem dX0_invoiceSum_28 : decode cX0_invoiceSum 28 = .ok (.lreturn, 1) := by decide +kernel
theorem dX0_mixInto_0 : decode cX0_mixInto 0 = .ok (.lload_n 1, 1) := by decide +kernel
theorem dX0_mixInto_1 : decode cX0_mixInto 1 = .ok (.lstore 4, 2) := by decide +kernel
theorem dX0_mixInto_3 : decode cX0_mixInto 3 = .ok (.iconst 0, 1) := by decide +kernel
theorem dX0_mixInto_4 : decode cX0_mixInto 4 = .ok (.istore 6, 2) := by decide +kernel
theorem dX0_mixInto_6 : decode cX0_mixInto 6 = .ok (.iload 6, 2) := by decide +kernel
theorem dX0_mixInto_8 : decode cX0_mixInto 8 = .ok (.iload_n 3, 1) := by decide +kernel
theorem dX0_mixInto_9 : decode cX0_mixInto 9 = .ok (.if_icmp .ge 94, 3) := by decide +kernel
theorem dX0_mixInto_12 : decode cX0_mixInto 12 = .ok (.ldc2_w 106, 3) := by decide +kernel
theorem dX0_mixInto_15 : decode cX0_mixInto 15 = .ok (.lload 4, 2) := by decide +kernel
theorem dX0_mixInto_17 : decode cX0_mixInto 17 = .ok (.lmul, 1) := by decide +kernel
theorem dX0_mixInto_18 : decode cX0_mixInto 18 = .ok (.aload_n 0, 1) := by decide +kernel
theorem dX0_mixInto_19 : decode cX0_mixInto 19 = .ok (.getfield 15, 3) := by decide +kernel
theorem dX0_mixInto_22 : decode cX0_mixInto 22 = .ok (.iload 6, 2) := by decide +kernel
theorem dX0_mixInto_24 : decode cX0_mixInto 24 = .ok (.iaload, 1) := by decide +kernel
theorem dX0_mixInto_25 : decode cX0_mixInto 25 = .ok (.i2l, 1) := by decide +kernel
theorem dX0_mixInto_26 : decode cX0_mixInto 26 = .ok (.ladd, 1) := by decide +kernel
theorem dX0_mixInto_27 : decode cX0_mixInto 27 = .ok (.lstore 4, 2) := by decide +kernel
theorem dX0_mixInto_29 : decode cX0_mixInto 29 = .ok (.ldc2_w 106, 3) := by decide +kernel
theorem dX0_mixInto_32 : decode cX0_mixInto 32 = .ok (.lload 4, 2) := by decide +kernel
theorem dX0_mixInto_34 : decode cX0_mixInto 34 = .ok (.lmul, 1) := by decide +kernel
theorem dX0_mixInto_35 : decode cX0_mixInto 35 = .ok (.aload_n 0, 1) := by decide +kernel
theorem dX0_mixInto_36 : decode cX0_mixInto 36 = .ok (.getfield 19, 3) := by decide +kernel
theorem dX0_mixInto_39 : decode cX0_mixInto 39 = .ok (.iload 6, 2) := by decide +kernel
theorem dX0_mixInto_41 : decode cX0_mixInto 41 = .ok (.iaload, 1) := by decide +kernel
theorem dX0_mixInto_42 : decode cX0_mixInto 42 = .ok (.i2l, 1) := by decide +kernel
theorem dX0_mixInto_43 : decode cX0_mixInto 43 = .ok (.ladd, 1) := by decide +kernel
theorem dX0_mixInto_44 : decode cX0_mixInto 44 = .ok (.lstore 4, 2) := by decide +kernel
theorem dX0_mixInto_46 : decode cX0_mixInto 46 = .ok (.ldc2_w 106, 3) := by decide +kernel
theorem dX0_mixInto_49 : decode cX0_mixInto 49 = .ok (.lload 4, 2) := by decide +kernel
theorem dX0_mixInto_51 : decode cX0_mixInto 51 = .ok (.lmul, 1) := by decide +kernel
theorem dX0_mixInto_52 : decode cX0_mixInto 52 = .ok (.aload_n 0, 1) := by decide +kernel
theorem dX0_mixInto_53 : decode cX0_mixInto 53 = .ok (.getfield 22, 3) := by decide +kernel
theorem dX0_mixInto_56 : decode cX0_mixInto 56 = .ok (.iload 6, 2) := by decide +kernel
theorem dX0_mixInto_58 : decode cX0_mixInto 58 = .ok (.iaload, 1) := by decide +kernel
theorem dX0_mixInto_59 : decode cX0_mixInto 59 = .ok (.i2l, 1) := by decide +kernel
theorem dX0_mixInto_60 : decode cX0_mixInto 60 = .ok (.ladd, 1) := by decide +kernel
theorem dX0_mixInto_61 : decode cX0_mixInto 61 = .ok (.lstore 4, 2) := by decide +kernel
theorem dX0_mixInto_63 : decode cX0_mixInto 63 = .ok (.ldc2_w 106, 3) := by decide +kernel
theorem dX0_mixInto_66 : decode cX0_mixInto 66 = .ok (.lload 4, 2) := by decide +kernel
theorem dX0_mixInto_68 : decode cX0_mixInto 68 = .ok (.lmul, 1) := by decide +kernel
theorem dX0_mixInto_69 : decode cX0_mixInto 69 = .ok (.aload_n 0, 1) := by decide +kernel
theorem dX0_mixInto_70 : decode cX0_mixInto 70 = .ok (.getfield 25, 3) := by decide +kernel
theorem dX0_mixInto_73 : decode cX0_mixInto 73 = .ok (.iload 6, 2) := by decide +kernel
theorem dX0_mixInto_75 : decode cX0_mixInto 75 = .ok (.iaload, 1) := by decide +kernel
theorem dX0_mixInto_76 : decode cX0_mixInto 76 = .ok (.i2l, 1) := by decide +kernel
theorem dX0_mixInto_77 : decode cX0_mixInto 77 = .ok (.ladd, 1) := by decide +kernel
theorem dX0_mixInto_78 : decode cX0_mixInto 78 = .ok (.lstore 4, 2) := by decide +kernel
theorem dX0_mixInto_80 : decode cX0_mixInto 80 = .ok (.ldc2_w 106, 3) := by decide +kernel
theorem dX0_mixInto_83 : decode cX0_mixInto 83 = .ok (.lload 4, 2) := by decide +kernel
theorem dX0_mixInto_85 : decode cX0_mixInto 85 = .ok (.lmul, 1) := by decide +kernel
theorem dX0_mixInto_86 : decode cX0_mixInto 86 = .ok (.aload_n 0, 1) := by decide +kernel
theorem dX0_mixInto_87 : decode cX0_mixInto 87 = .ok (.getfield 28, 3) := by decide +kernel
theorem dX0_mixInto_90 : decode cX0_mixInto 90 = .ok (.iload 6, 2) := by decide +kernel
theorem dX0_mixInto_92 : decode cX0_mixInto 92 = .ok (.iaload, 1) := by decide +kernel
theorem dX0_mixInto_93 : decode cX0_mixInto 93 = .ok (.i2l, 1) := by decide +kernel
theorem dX0_mixInto_94 : decode cX0_mixInto 94 = .ok (.ladd, 1) := by decide +kernel
theorem dX0_mixInto_95 : decode cX0_mixInto 95 = .ok (.lstore 4, 2) := by decide +kernel
theorem dX0_mixInto_97 : decode cX0_mixInto 97 = .ok (.iinc 6 1, 3) := by decide +kernel
theorem dX0_mixInto_100 : decode cX0_mixInto 100 = .ok (.goto (-94), 3) := by decide +kernel
theorem dX0_mixInto_103 : decode cX0_mixInto 103 = .ok (.lload 4, 2) := by decide +kernel
theorem dX0_mixInto_105 : decode cX0_mixInto 105 = .ok (.lreturn, 1) := by decide +kernel
theorem dX1_init_0 : decode cX1_init 0 = .ok (.aload_n 0, 1) := by decide +kernel
theorem dX1_init_1 : decode cX1_init 1 = .ok (.invokespecial 3, 3) := by decide +kernel
theorem dX1_init_4 : decode cX1_init 4 = .ok (.aload_n 0, 1) := by decide +kernel
theorem dX1_init_5 : decode cX1_init 5 = .ok (.iconst 0, 1) := by decide +kernel
theorem dX1_init_6 : decode cX1_init 6 = .ok (.putfield 9, 3) := by decide +kernel
theorem dX1_init_9 : decode cX1_init 9 = .ok (.aload_n 0, 1) := by decide +kernel
theorem dX1_init_10 : decode cX1_init 10 = .ok (.iconst 0, 1) := by decide +kernel
theorem dX1_init_11 : decode cX1_init 11 = .ok (.putfield 15, 3) := by decide +kernel
theorem dX1_init_14 : decode cX1_init 14 = .ok (.aload_n 0, 1) := by decide +kernel
theorem dX1_init_15 : decode cX1_init 15 = .ok (.iconst 0, 1) := by decide +kernel
theorem dX1_init_16 : decode cX1_init 16 = .ok (.putfield 18, 3) := by decide +kernel
theorem dX1_init_19 : decode cX1_init 19 = .ok (.aload_n 0, 1) := by decide +kernel
theorem dX1_init_20 : decode cX1_init 20 = .ok (.bipush 20, 2) := by decide +kernel
theorem dX1_init_22 : decode cX1_init 22 = .ok (.newarray .int, 2) := by decide +kernel
theorem dX1_init_24 : decode cX1_init 24 = .ok (.putfield 21, 3) := by decide +kernel
theorem dX1_init_27 : decode cX1_init 27 = .ok (.aload_n 0, 1) := by decide +kernel
theorem dX1_init_28 : decode cX1_init 28 = .ok (.bipush 20, 2) := by decide +kernel
theorem dX1_init_30 : decode cX1_init 30 = .ok (.newarray .int, 2) := by decide +kernel
theorem dX1_init_32 : decode cX1_init 32 = .ok (.putfield 25, 3) := by decide +kernel
theorem dX1_init_35 : decode cX1_init 35 = .ok (.aload_n 0, 1) := by decide +kernel
theorem dX1_init_36 : decode cX1_init 36 = .ok (.bipush 20, 2) := by decide +kernel
theorem dX1_init_38 : decode cX1_init 38 = .ok (.newarray .int, 2) := by decide +kernel
theorem dX1_init_40 : decode cX1_init 40 = .ok (.putfield 28, 3) := by decide +kernel
theorem dX1_init_43 : decode cX1_init 43 = .ok (.aload_n 0, 1) := by decide +kernel
theorem dX1_init_44 : decode cX1_init 44 = .ok (.bipush 20, 2) := by decide +kernel
theorem dX1_init_46 : decode cX1_init 46 = .ok (.newarray .boolean, 2) := by decide +kernel
theorem dX1_init_48 : decode cX1_init 48 = .ok (.putfield 31, 3) := by decide +kernel
theorem dX1_init_51 : decode cX1_init 51 = .ok (.return_, 1) := by decide +kernel
theorem dX1_copyFrom_0 : decode cX1_copyFrom 0 = .ok (.aload_n 0, 1) := by decide +kernel
theorem dX1_copyFrom_1 : decode cX1_copyFrom 1 = .ok (.aload_n 1, 1) := by decide +kernel
theorem dX1_copyFrom_2 : decode cX1_copyFrom 2 = .ok (.getfield 9, 3) := by decide +kernel
theorem dX1_copyFrom_5 : decode cX1_copyFrom 5 = .ok (.putfield 9, 3) := by decide +kernel
theorem dX1_copyFrom_8 : decode cX1_copyFrom 8 = .ok (.aload_n 0, 1) := by decide +kernel
theorem dX1_copyFrom_9 : decode cX1_copyFrom 9 = .ok (.aload_n 1, 1) := by decide +kernel
theorem dX1_copyFrom_10 : decode cX1_copyFrom 10 = .ok (.getfield 15, 3) := by decide +kernel
theorem dX1_copyFrom_13 : decode cX1_copyFrom 13 = .ok (.putfield 15, 3) := by decide +kernel
theorem dX1_copyFrom_16 : decode cX1_copyFrom 16 = .ok (.aload_n 0, 1) := by decide +kernel
theorem dX1_copyFrom_17 : decode cX1_copyFrom 17 = .ok (.aload_n 1, 1) := by decide +kernel
theorem dX1_copyFrom_18 : decode cX1_copyFrom 18 = .ok (.getfield 18, 3) := by decide +kernel
theorem dX1_copyFrom_21 : decode cX1_copyFrom 21 = .ok (.putfield 18, 3) := by decide +kernel
theorem dX1_copyFrom_24 : decode cX1_copyFrom 24 = .ok (.aload_n 1, 1) := by decide +kernel
theorem dX1_copyFrom_25 : decode cX1_copyFrom 25 = .ok (.getfield 21, 3) := by decide +kernel
theorem dX1_copyFrom_28 : decode cX1_copyFrom 28 = .ok (.iconst 0, 1) := by decide +kernel
theorem dX1_copyFrom_29 : decode cX1_copyFrom 29 = .ok (.aload_n 0, 1) := by decide +kernel
theorem dX1_copyFrom_30 : decode cX1_copyFrom 30 = .ok (.getfield 21, 3) := by decide +kernel
theorem dX1_copyFrom_33 : decode cX1_copyFrom 33 = .ok (.iconst 0, 1) := by decide +kernel
theorem dX1_copyFrom_34 : decode cX1_copyFrom 34 = .ok (.bipush 20, 2) := by decide +kernel
theorem dX1_copyFrom_36 : decode cX1_copyFrom 36 = .ok (.invokestatic 35, 3) := by decide +kernel
theorem dX1_copyFrom_39 : decode cX1_copyFrom 39 = .ok (.aload_n 1, 1) := by decide +kernel
theorem dX1_copyFrom_40 : decode cX1_copyFrom 40 = .ok (.getfield 25, 3) := by decide +kernel
theorem dX1_copyFrom_43 : decode cX1_copyFrom 43 = .ok (.iconst 0, 1) := by decide +kernel
theorem dX1_copyFrom_44 : decode cX1_copyFrom 44 = .ok (.aload_n 0, 1) := by decide +kernel
theorem dX1_copyFrom_45 : decode cX1_copyFrom 45 = .ok (.getfield 25, 3) := by decide +kernel
theorem dX1_copyFrom_48 : decode cX1_copyFrom 48 = .ok (.iconst 0, 1) := by decide +kernel
theorem dX1_copyFrom_49 : decode cX1_copyFrom 49 = .ok (.bipush 20, 2) := by decide +kernel
theorem dX1_copyFrom_51 : decode cX1_copyFrom 51 = .ok (.invokestatic 35, 3) := by decide +kernel
theorem dX1_copyFrom_54 : decode cX1_copyFrom 54 = .ok (.aload_n 1, 1) := by decide +kernel
theorem dX1_copyFrom_55 : decode cX1_copyFrom 55 = .ok (.getfield 28, 3) := by decide +kernel
theorem dX1_copyFrom_58 : decode cX1_copyFrom 58 = .ok (.iconst 0, 1) := by decide +kernel
theorem dX1_copyFrom_59 : decode cX1_copyFrom 59 = .ok (.aload_n 0, 1) := by decide +kernel
theorem dX1_copyFrom_60 : decode cX1_copyFrom 60 = .ok (.getfield 28, 3) := by decide +kernel
theorem dX1_copyFrom_63 : decode cX1_copyFrom 63 = .ok (.iconst 0, 1) := by decide +kernel
theorem dX1_copyFrom_64 : decode cX1_copyFrom 64 = .ok (.bipush 20, 2) := by decide +kernel
theorem dX1_copyFrom_66 : decode cX1_copyFrom 66 = .ok (.invokestatic 35, 3) := by decide +kernel
theorem dX1_copyFrom_69 : decode cX1_copyFrom 69 = .ok (.aload_n 1, 1) := by decide +kernel
theorem dX1_copyFrom_70 : decode cX1_copyFrom 70 = .ok (.getfield 31, 3) := by decide +kernel
theorem dX1_copyFrom_73 : decode cX1_copyFrom 73 = .ok (.iconst 0, 1) := by decide +kernel
theorem dX1_copyFrom_74 : decode cX1_copyFrom 74 = .ok (.aload_n 0, 1) := by decide +kernel
theorem dX1_copyFrom_75 : decode cX1_copyFrom 75 = .ok (.getfield 31, 3) := by decide +kernel
theorem dX1_copyFrom_78 : decode cX1_copyFrom 78 = .ok (.iconst 0, 1) := by decide +kernel
theorem dX1_copyFrom_79 : decode cX1_copyFrom 79 = .ok (.bipush 20, 2) := by decide +kernel
theorem dX1_copyFrom_81 : decode cX1_copyFrom 81 = .ok (.invokestatic 35, 3) := by decide +kernel
theorem dX1_copyFrom_84 : decode cX1_copyFrom 84 = .ok (.return_, 1) := by decide +kernel
theorem dX1_addBreach_0 : decode cX1_addBreach 0 = .ok (.aload_n 0, 1) := by decide +kernel
theorem dX1_addBreach_1 : decode cX1_addBreach 1 = .ok (.dup, 1) := by decide +kernel
theorem dX1_addBreach_2 : decode cX1_addBreach 2 = .ok (.getfield 15, 3) := by decide +kernel
theorem dX1_addBreach_5 : decode cX1_addBreach 5 = .ok (.iconst 1, 1) := by decide +kernel
theorem dX1_addBreach_6 : decode cX1_addBreach 6 = .ok (.iadd, 1) := by decide +kernel
theorem dX1_addBreach_7 : decode cX1_addBreach 7 = .ok (.putfield 15, 3) := by decide +kernel
theorem dX1_addBreach_10 : decode cX1_addBreach 10 = .ok (.aload_n 0, 1) := by decide +kernel
theorem dX1_addBreach_11 : decode cX1_addBreach 11 = .ok (.getfield 9, 3) := by decide +kernel
theorem dX1_addBreach_14 : decode cX1_addBreach 14 = .ok (.bipush 20, 2) := by decide +kernel
theorem dX1_addBreach_16 : decode cX1_addBreach 16 = .ok (.if_icmp .lt 5, 3) := by decide +kernel
theorem dX1_addBreach_19 : decode cX1_addBreach 19 = .ok (.iconst 0, 1) := by decide +kernel
theorem dX1_addBreach_20 : decode cX1_addBreach 20 = .ok (.ireturn, 1) := by decide +kernel
theorem dX1_addBreach_21 : decode cX1_addBreach 21 = .ok (.aload_n 0, 1) := by decide +kernel
theorem dX1_addBreach_22 : decode cX1_addBreach 22 = .ok (.getfield 21, 3) := by decide +kernel
theorem dX1_addBreach_25 : decode cX1_addBreach 25 = .ok (.aload_n 0, 1) := by decide +kernel
theorem dX1_addBreach_26 : decode cX1_addBreach 26 = .ok (.getfield 9, 3) := by decide +kernel
theorem dX1_addBreach_29 : decode cX1_addBreach 29 = .ok (.iload_n 1, 1) := by decide +kernel
theorem dX1_addBreach_30 : decode cX1_addBreach 30 = .ok (.iastore, 1) := by decide +kernel
theorem dX1_addBreach_31 : decode cX1_addBreach 31 = .ok (.aload_n 0, 1) := by decide +kernel
theorem dX1_addBreach_32 : decode cX1_addBreach 32 = .ok (.getfield 25, 3) := by decide +kernel
theorem dX1_addBreach_35 : decode cX1_addBreach 35 = .ok (.aload_n 0, 1) := by decide +kernel
theorem dX1_addBreach_36 : decode cX1_addBreach 36 = .ok (.getfield 9, 3) := by decide +kernel
theorem dX1_addBreach_39 : decode cX1_addBreach 39 = .ok (.iload_n 2, 1) := by decide +kernel
theorem dX1_addBreach_40 : decode cX1_addBreach 40 = .ok (.iastore, 1) := by decide +kernel
theorem dX1_addBreach_41 : decode cX1_addBreach 41 = .ok (.aload_n 0, 1) := by decide +kernel
theorem dX1_addBreach_42 : decode cX1_addBreach 42 = .ok (.getfield 28, 3) := by decide +kernel
theorem dX1_addBreach_45 : decode cX1_addBreach 45 = .ok (.aload_n 0, 1) := by decide +kernel
theorem dX1_addBreach_46 : decode cX1_addBreach 46 = .ok (.getfield 9, 3) := by decide +kernel
theorem dX1_addBreach_49 : decode cX1_addBreach 49 = .ok (.iload_n 3, 1) := by decide +kernel
theorem dX1_addBreach_50 : decode cX1_addBreach 50 = .ok (.iastore, 1) := by decide +kernel
theorem dX1_addBreach_51 : decode cX1_addBreach 51 = .ok (.aload_n 0, 1) := by decide +kernel
theorem dX1_addBreach_52 : decode cX1_addBreach 52 = .ok (.getfield 31, 3) := by decide +kernel
theorem dX1_addBreach_55 : decode cX1_addBreach 55 = .ok (.aload_n 0, 1) := by decide +kernel
theorem dX1_addBreach_56 : decode cX1_addBreach 56 = .ok (.getfield 9, 3) := by decide +kernel
theorem dX1_addBreach_59 : decode cX1_addBreach 59 = .ok (.iconst 0, 1) := by decide +kernel
theorem dX1_addBreach_60 : decode cX1_addBreach 60 = .ok (.bastore, 1) := by decide +kernel
theorem dX1_addBreach_61 : decode cX1_addBreach 61 = .ok (.aload_n 0, 1) := by decide +kernel
theorem dX1_addBreach_62 : decode cX1_addBreach 62 = .ok (.dup, 1) := by decide +kernel
theorem dX1_addBreach_63 : decode cX1_addBreach 63 = .ok (.getfield 9, 3) := by decide +kernel
theorem dX1_addBreach_66 : decode cX1_addBreach 66 = .ok (.iconst 1, 1) := by decide +kernel
theorem dX1_addBreach_67 : decode cX1_addBreach 67 = .ok (.iadd, 1) := by decide +kernel
theorem dX1_addBreach_68 : decode cX1_addBreach 68 = .ok (.putfield 9, 3) := by decide +kernel
theorem dX1_addBreach_71 : decode cX1_addBreach 71 = .ok (.iload_n 3, 1) := by decide +kernel
theorem dX1_addBreach_72 : decode cX1_addBreach 72 = .ok (.ireturn, 1) := by decide +kernel
theorem dX1_canBeWaived_0 : decode cX1_canBeWaived 0 = .ok (.aload_n 0, 1) := by decide +kernel
theorem dX1_canBeWaived_1 : decode cX1_canBeWaived 1 = .ok (.getfield 31, 3) := by decide +kernel
theorem dX1_canBeWaived_4 : decode cX1_canBeWaived 4 = .ok (.iload_n 1, 1) := by decide +kernel
theorem dX1_canBeWaived_5 : decode cX1_canBeWaived 5 = .ok (.baload, 1) := by decide +kernel
theorem dX1_canBeWaived_6 : decode cX1_canBeWaived 6 = .ok (.ifCond .ne 30, 3) := by decide +kernel
theorem dX1_canBeWaived_9 : decode cX1_canBeWaived 9 = .ok (.aload_n 0, 1) := by decide +kernel
theorem dX1_canBeWaived_10 : decode cX1_canBeWaived 10 = .ok (.getfield 18, 3) := by decide +kernel
theorem dX1_canBeWaived_13 : decode cX1_canBeWaived 13 = .ok (.aload_n 2, 1) := by decide +kernel
theorem dX1_canBeWaived_14 : decode cX1_canBeWaived 14 = .ok (.getfield 41, 3) := by decide +kernel
theorem dX1_canBeWaived_17 : decode cX1_canBeWaived 17 = .ok (.if_icmp .ge 19, 3) := by decide +kernel
theorem dX1_canBeWaived_20 : decode cX1_canBeWaived 20 = .ok (.aload_n 0, 1) := by decide +kernel
theorem dX1_canBeWaived_21 : decode cX1_canBeWaived 21 = .ok (.iload_n 1, 1) := by decide +kernel
theorem dX1_canBeWaived_22 : decode cX1_canBeWaived 22 = .ok (.aload_n 2, 1) := by decide +kernel
theorem dX1_canBeWaived_23 : decode cX1_canBeWaived 23 = .ok (.getfield 46, 3) := by decide +kernel
theorem dX1_canBeWaived_26 : decode cX1_canBeWaived 26 = .ok (.invokevirtual 49, 3) := by decide +kernel
theorem dX1_canBeWaived_29 : decode cX1_canBeWaived 29 = .ok (.ifCond .eq 7, 3) := by decide +kernel
theorem dX1_canBeWaived_32 : decode cX1_canBeWaived 32 = .ok (.iconst 1, 1) := by decide +kernel
theorem dX1_canBeWaived_33 : decode cX1_canBeWaived 33 = .ok (.goto 4, 3) := by decide +kernel
theorem dX1_canBeWaived_36 : decode cX1_canBeWaived 36 = .ok (.iconst 0, 1) := by decide +kernel
theorem dX1_canBeWaived_37 : decode cX1_canBeWaived 37 = .ok (.ireturn, 1) := by decide +kernel
theorem dX1_keepsGap_0 : decode cX1_keepsGap 0 = .ok (.iconst 0, 1) := by decide +kernel
theorem dX1_keepsGap_1 : decode cX1_keepsGap 1 = .ok (.istore_n 3, 1) := by decide +kernel
theorem dX1_keepsGap_2 : decode cX1_keepsGap 2 = .ok (.iload_n 3, 1) := by decide +kernel
theorem dX1_keepsGap_3 : decode cX1_keepsGap 3 = .ok (.aload_n 0, 1) := by decide +kernel
theorem dX1_keepsGap_4 : decode cX1_keepsGap 4 = .ok (.getfield 9, 3) := by decide +kernel
theorem dX1_keepsGap_7 : decode cX1_keepsGap 7 = .ok (.if_icmp .ge 30, 3) := by decide +kernel
theorem dX1_keepsGap_10 : decode cX1_keepsGap 10 = .ok (.aload_n 0, 1) := by decide +kernel
theorem dX1_keepsGap_11 : decode cX1_keepsGap 11 = .ok (.getfield 31, 3) := by decide +kernel
theorem dX1_keepsGap_14 : decode cX1_keepsGap 14 = .ok (.iload_n 3, 1) := by decide +kernel
theorem dX1_keepsGap_15 : decode cX1_keepsGap 15 = .ok (.baload, 1) := by decide +kernel
theorem dX1_keepsGap_16 : decode cX1_keepsGap 16 = .ok (.ifCond .eq 15, 3) := by decide +kernel
theorem dX1_keepsGap_19 : decode cX1_keepsGap 19 = .ok (.aload_n 0, 1) := by decide +kernel
theorem dX1_keepsGap_20 : decode cX1_keepsGap 20 = .ok (.iload_n 1, 1) := by decide +kernel
theorem dX1_keepsGap_21 : decode cX1_keepsGap 21 = .ok (.iload_n 3, 1) := by decide +kernel
theorem dX1_keepsGap_22 : decode cX1_keepsGap 22 = .ok (.invokevirtual 53, 3) := by decide +kernel
theorem dX1_keepsGap_25 : decode cX1_keepsGap 25 = .ok (.iload_n 2, 1) := by decide +kernel
theorem dX1_keepsGap_26 : decode cX1_keepsGap 26 = .ok (.if_icmp .ge 5, 3) := by decide +kernel
theorem dX1_keepsGap_29 : decode cX1_keepsGap 29 = .ok (.iconst 0, 1) := by decide +kernel
theorem dX1_keepsGap_30 : decode cX1_keepsGap 30 = .ok (.ireturn, 1) := by decide +kernel
theorem dX1_keepsGap_31 : decode cX1_keepsGap 31 = .ok (.iinc 3 1, 3) := by decide +kernel
theorem dX1_keepsGap_34 : decode cX1_keepsGap 34 = .ok (.goto (-32), 3) := by decide +kernel
theorem dX1_keepsGap_37 : decode cX1_keepsGap 37 = .ok (.iconst 1, 1) := by decide +kernel
theorem dX1_keepsGap_38 : decode cX1_keepsGap 38 = .ok (.ireturn, 1) := by decide +kernel
theorem dX1_distance_0 : decode cX1_distance 0 = .ok (.aload_n 0, 1) := by decide +kernel
theorem dX1_distance_1 : decode cX1_distance 1 = .ok (.getfield 21, 3) := by decide +kernel
theorem dX1_distance_4 : decode cX1_distance 4 = .ok (.iload_n 1, 1) := by decide +kernel
theorem dX1_distance_5 : decode cX1_distance 5 = .ok (.iaload, 1) := by decide +kernel
theorem dX1_distance_6 : decode cX1_distance 6 = .ok (.aload_n 0, 1) := by decide +kernel
theorem dX1_distance_7 : decode cX1_distance 7 = .ok (.getfield 21, 3) := by decide +kernel
theorem dX1_distance_10 : decode cX1_distance 10 = .ok (.iload_n 2, 1) := by decide +kernel
theorem dX1_distance_11 : decode cX1_distance 11 = .ok (.iaload, 1) := by decide +kernel
theorem dX1_distance_12 : decode cX1_distance 12 = .ok (.isub, 1) := by decide +kernel
theorem dX1_distance_13 : decode cX1_distance 13 = .ok (.invokestatic 57, 3) := by decide +kernel
theorem dX1_distance_16 : decode cX1_distance 16 = .ok (.ireturn, 1) := by decide +kernel
theorem dX1_markWaived_0 : decode cX1_markWaived 0 = .ok (.aload_n 0, 1) := by decide +kernel
theorem dX1_markWaived_1 : decode cX1_markWaived 1 = .ok (.getfield 31, 3) := by decide +kernel
theorem dX1_markWaived_4 : decode cX1_markWaived 4 = .ok (.iload_n 1, 1) := by decide +kernel
theorem dX1_markWaived_5 : decode cX1_markWaived 5 = .ok (.iconst 1, 1) := by decide +kernel
theorem dX1_markWaived_6 : decode cX1_markWaived 6 = .ok (.bastore, 1) := by decide +kernel
theorem dX1_markWaived_7 : decode cX1_markWaived 7 = .ok (.aload_n 0, 1) := by decide +kernel
theorem dX1_markWaived_8 : decode cX1_markWaived 8 = .ok (.dup, 1) := by decide +kernel
theorem dX1_markWaived_9 : decode cX1_markWaived 9 = .ok (.getfield 18, 3) := by decide +kernel
theorem dX1_markWaived_12 : decode cX1_markWaived 12 = .ok (.iconst 1, 1) := by decide +kernel
theorem dX1_markWaived_13 : decode cX1_markWaived 13 = .ok (.iadd, 1) := by decide +kernel
theorem dX1_markWaived_14 : decode cX1_markWaived 14 = .ok (.putfield 18, 3) := by decide +kernel
theorem dX1_markWaived_17 : decode cX1_markWaived 17 = .ok (.aload_n 0, 1) := by decide +kernel
theorem dX1_markWaived_18 : decode cX1_markWaived 18 = .ok (.getfield 28, 3) := by decide +kernel
theorem dX1_markWaived_21 : decode cX1_markWaived 21 = .ok (.iload_n 1, 1) := by decide +kernel
theorem dX1_markWaived_22 : decode cX1_markWaived 22 = .ok (.iaload, 1) := by decide +kernel
theorem dX1_markWaived_23 : decode cX1_markWaived 23 = .ok (.ireturn, 1) := by decide +kernel
theorem dX1_unwaivedSum_0 : decode cX1_unwaivedSum 0 = .ok (.lconst 0, 1) := by decide +kernel
theorem dX1_unwaivedSum_1 : decode cX1_unwaivedSum 1 = .ok (.lstore_n 1, 1) := by decide +kernel
theorem dX1_unwaivedSum_2 : decode cX1_unwaivedSum 2 = .ok (.iconst 0, 1) := by decide +kernel
theorem dX1_unwaivedSum_3 : decode cX1_unwaivedSum 3 = .ok (.istore_n 3, 1) := by decide +kernel
theorem dX1_unwaivedSum_4 : decode cX1_unwaivedSum 4 = .ok (.iload_n 3, 1) := by decide +kernel
theorem dX1_unwaivedSum_5 : decode cX1_unwaivedSum 5 = .ok (.aload_n 0, 1) := by decide +kernel
theorem dX1_unwaivedSum_6 : decode cX1_unwaivedSum 6 = .ok (.getfield 9, 3) := by decide +kernel
theorem dX1_unwaivedSum_9 : decode cX1_unwaivedSum 9 = .ok (.if_icmp .ge 28, 3) := by decide +kernel
theorem dX1_unwaivedSum_12 : decode cX1_unwaivedSum 12 = .ok (.aload_n 0, 1) := by decide +kernel
theorem dX1_unwaivedSum_13 : decode cX1_unwaivedSum 13 = .ok (.getfield 31, 3) := by decide +kernel
theorem dX1_unwaivedSum_16 : decode cX1_unwaivedSum 16 = .ok (.iload_n 3, 1) := by decide +kernel
theorem dX1_unwaivedSum_17 : decode cX1_unwaivedSum 17 = .ok (.baload, 1) := by decide +kernel
theorem dX1_unwaivedSum_18 : decode cX1_unwaivedSum 18 = .ok (.ifCond .ne 13, 3) := by decide +kernel
theorem dX1_unwaivedSum_21 : decode cX1_unwaivedSum 21 = .ok (.lload_n 1, 1) := by decide +kernel
theorem dX1_unwaivedSum_22 : decode cX1_unwaivedSum 22 = .ok (.aload_n 0, 1) := by decide +kernel
theorem dX1_unwaivedSum_23 : decode cX1_unwaivedSum 23 = .ok (.getfield 28, 3) := by decide +kernel
theorem dX1_unwaivedSum_26 : decode cX1_unwaivedSum 26 = .ok (.iload_n 3, 1) := by decide +kernel
theorem dX1_unwaivedSum_27 : decode cX1_unwaivedSum 27 = .ok (.iaload, 1) := by decide +kernel
theorem dX1_unwaivedSum_28 : decode cX1_unwaivedSum 28 = .ok (.i2l, 1) := by decide +kernel
theorem dX1_unwaivedSum_29 : decode cX1_unwaivedSum 29 = .ok (.ladd, 1) := by decide +kernel
theorem dX1_unwaivedSum_30 : decode cX1_unwaivedSum 30 = .ok (.lstore_n 1, 1) := by decide +kernel
theorem dX1_unwaivedSum_31 : decode cX1_unwaivedSum 31 = .ok (.iinc 3 1, 3) := by decide +kernel
theorem dX1_unwaivedSum_34 : decode cX1_unwaivedSum 34 = .ok (.goto (-30), 3) := by decide +kernel
theorem dX1_unwaivedSum_37 : decode cX1_unwaivedSum 37 = .ok (.lload_n 1, 1) := by decide +kernel
theorem dX1_unwaivedSum_38 : decode cX1_unwaivedSum 38 = .ok (.lreturn, 1) := by decide +kernel
theorem dX1_mixInto_0 : decode cX1_mixInto 0 = .ok (.lload_n 1, 1) := by decide +kernel
theorem dX1_mixInto_1 : decode cX1_mixInto 1 = .ok (.lstore_n 3, 1) := by decide +kernel
theorem dX1_mixInto_2 : decode cX1_mixInto 2 = .ok (.iconst 0, 1) := by decide +kernel
theorem dX1_mixInto_3 : decode cX1_mixInto 3 = .ok (.istore 5, 2) := by decide +kernel
theorem dX1_mixInto_5 : decode cX1_mixInto 5 = .ok (.iload 5, 2) := by decide +kernel
theorem dX1_mixInto_7 : decode cX1_mixInto 7 = .ok (.aload_n 0, 1) := by decide +kernel
theorem dX1_mixInto_8 : decode cX1_mixInto 8 = .ok (.getfield 9, 3) := by decide +kernel
theorem dX1_mixInto_11 : decode cX1_mixInto 11 = .ok (.if_icmp .ge 38, 3) := by decide +kernel
theorem dX1_mixInto_14 : decode cX1_mixInto 14 = .ok (.ldc2_w 63, 3) := by decide +kernel
theorem dX1_mixInto_17 : decode cX1_mixInto 17 = .ok (.lload_n 3, 1) := by decide +kernel
theorem dX1_mixInto_18 : decode cX1_mixInto 18 = .ok (.lmul, 1) := by decide +kernel
theorem dX1_mixInto_19 : decode cX1_mixInto 19 = .ok (.aload_n 0, 1) := by decide +kernel
theorem dX1_mixInto_20 : decode cX1_mixInto 20 = .ok (.getfield 31, 3) := by decide +kernel
theorem dX1_mixInto_23 : decode cX1_mixInto 23 = .ok (.iload 5, 2) := by decide +kernel
theorem dX1_mixInto_25 : decode cX1_mixInto 25 = .ok (.baload, 1) := by decide +kernel
theorem dX1_mixInto_26 : decode cX1_mixInto 26 = .ok (.ifCond .eq 7, 3) := by decide +kernel
theorem dX1_mixInto_29 : decode cX1_mixInto 29 = .ok (.iconst (-1), 1) := by decide +kernel
theorem dX1_mixInto_30 : decode cX1_mixInto 30 = .ok (.goto 10, 3) := by decide +kernel
theorem dX1_mixInto_33 : decode cX1_mixInto 33 = .ok (.aload_n 0, 1) := by decide +kernel
theorem dX1_mixInto_34 : decode cX1_mixInto 34 = .ok (.getfield 28, 3) := by decide +kernel
theorem dX1_mixInto_37 : decode cX1_mixInto 37 = .ok (.iload 5, 2) := by decide +kernel
theorem dX1_mixInto_39 : decode cX1_mixInto 39 = .ok (.iaload, 1) := by decide +kernel
theorem dX1_mixInto_40 : decode cX1_mixInto 40 = .ok (.i2l, 1) := by decide +kernel
theorem dX1_mixInto_41 : decode cX1_mixInto 41 = .ok (.ladd, 1) := by decide +kernel
theorem dX1_mixInto_42 : decode cX1_mixInto 42 = .ok (.lstore_n 3, 1) := by decide +kernel
theorem dX1_mixInto_43 : decode cX1_mixInto 43 = .ok (.iinc 5 1, 3) := by decide +kernel
theorem dX1_mixInto_46 : decode cX1_mixInto 46 = .ok (.goto (-41), 3) := by decide +kernel
theorem dX1_mixInto_49 : decode cX1_mixInto 49 = .ok (.lload_n 3, 1) := by decide +kernel
theorem dX1_mixInto_50 : decode cX1_mixInto 50 = .ok (.lreturn, 1) := by decide +kernel
theorem dX2_init_0 : decode cX2_init 0 = .ok (.aload_n 0, 1) := by decide +kernel
theorem dX2_init_1 : decode cX2_init 1 = .ok (.invokespecial 1, 3) := by decide +kernel
theorem dX2_init_4 : decode cX2_init 4 = .ok (.aload_n 0, 1) := by decide +kernel
theorem dX2_init_5 : decode cX2_init 5 = .ok (.new 7, 3) := by decide +kernel
theorem dX2_init_8 : decode cX2_init 8 = .ok (.dup, 1) := by decide +kernel
theorem dX2_init_9 : decode cX2_init 9 = .ok (.invokespecial 9, 3) := by decide +kernel
theorem dX2_init_12 : decode cX2_init 12 = .ok (.putfield 10, 3) := by decide +kernel
theorem dX2_init_15 : decode cX2_init 15 = .ok (.aload_n 0, 1) := by decide +kernel
theorem dX2_init_16 : decode cX2_init 16 = .ok (.new 16, 3) := by decide +kernel
theorem dX2_init_19 : decode cX2_init 19 = .ok (.dup, 1) := by decide +kernel
theorem dX2_init_20 : decode cX2_init 20 = .ok (.invokespecial 18, 3) := by decide +kernel
theorem dX2_init_23 : decode cX2_init 23 = .ok (.putfield 19, 3) := by decide +kernel
theorem dX2_init_26 : decode cX2_init 26 = .ok (.aload_n 0, 1) := by decide +kernel
theorem dX2_init_27 : decode cX2_init 27 = .ok (.new 23, 3) := by decide +kernel
theorem dX2_init_30 : decode cX2_init 30 = .ok (.dup, 1) := by decide +kernel
theorem dX2_init_31 : decode cX2_init 31 = .ok (.invokespecial 25, 3) := by decide +kernel
theorem dX2_init_34 : decode cX2_init 34 = .ok (.putfield 26, 3) := by decide +kernel
theorem dX2_init_37 : decode cX2_init 37 = .ok (.return_, 1) := by decide +kernel
theorem dX2_copyFrom_0 : decode cX2_copyFrom 0 = .ok (.aload_n 0, 1) := by decide +kernel
theorem dX2_copyFrom_1 : decode cX2_copyFrom 1 = .ok (.getfield 10, 3) := by decide +kernel
theorem dX2_copyFrom_4 : decode cX2_copyFrom 4 = .ok (.aload_n 1, 1) := by decide +kernel
theorem dX2_copyFrom_5 : decode cX2_copyFrom 5 = .ok (.getfield 10, 3) := by decide +kernel
theorem dX2_copyFrom_8 : decode cX2_copyFrom 8 = .ok (.invokevirtual 30, 3) := by decide +kernel
theorem dX2_copyFrom_11 : decode cX2_copyFrom 11 = .ok (.aload_n 0, 1) := by decide +kernel
theorem dX2_copyFrom_12 : decode cX2_copyFrom 12 = .ok (.getfield 19, 3) := by decide +kernel
theorem dX2_copyFrom_15 : decode cX2_copyFrom 15 = .ok (.aload_n 1, 1) := by decide +kernel
theorem dX2_copyFrom_16 : decode cX2_copyFrom 16 = .ok (.getfield 19, 3) := by decide +kernel
theorem dX2_copyFrom_19 : decode cX2_copyFrom 19 = .ok (.invokevirtual 34, 3) := by decide +kernel
theorem dX2_copyFrom_22 : decode cX2_copyFrom 22 = .ok (.aload_n 0, 1) := by decide +kernel
theorem dX2_copyFrom_23 : decode cX2_copyFrom 23 = .ok (.getfield 26, 3) := by decide +kernel
theorem dX2_copyFrom_26 : decode cX2_copyFrom 26 = .ok (.aload_n 1, 1) := by decide +kernel
theorem dX2_copyFrom_27 : decode cX2_copyFrom 27 = .ok (.getfield 26, 3) := by decide +kernel
theorem dX2_copyFrom_30 : decode cX2_copyFrom 30 = .ok (.invokevirtual 37, 3) := by decide +kernel
theorem dX2_copyFrom_33 : decode cX2_copyFrom 33 = .ok (.return_, 1) := by decide +kernel
theorem dX3_init_0 : decode cX3_init 0 = .ok (.aload_n 0, 1) := by decide +kernel
theorem dX3_init_1 : decode cX3_init 1 = .ok (.invokespecial 3, 3) := by decide +kernel
theorem dX3_init_4 : decode cX3_init 4 = .ok (.aload_n 0, 1) := by decide +kernel
theorem dX3_init_5 : decode cX3_init 5 = .ok (.iconst 0, 1) := by decide +kernel
theorem dX3_init_6 : decode cX3_init 6 = .ok (.putfield 9, 3) := by decide +kernel
theorem dX3_init_9 : decode cX3_init 9 = .ok (.aload_n 0, 1) := by decide +kernel
theorem dX3_init_10 : decode cX3_init 10 = .ok (.iconst 0, 1) := by decide +kernel
theorem dX3_init_11 : decode cX3_init 11 = .ok (.putfield 15, 3) := by decide +kernel
theorem dX3_init_14 : decode cX3_init 14 = .ok (.return_, 1) := by decide +kernel
theorem dX3_sum_0 : decode cX3_sum 0 = .ok (.aload_n 0, 1) := by decide +kernel
theorem dX3_sum_1 : decode cX3_sum 1 = .ok (.aload_n 1, 1) := by decide +kernel
theorem dX3_sum_2 : decode cX3_sum 2 = .ok (.iload_n 2, 1) := by decide +kernel
theorem dX3_sum_3 : decode cX3_sum 3 = .ok (.invokevirtual 18, 3) := by decide +kernel
theorem dX3_sum_6 : decode cX3_sum 6 = .ok (.lstore_n 3, 1) := by decide +kernel
theorem dX3_sum_7 : decode cX3_sum 7 = .ok (.iconst 0, 1) := by decide +kernel
theorem dX3_sum_8 : decode cX3_sum 8 = .ok (.istore 5, 2) := by decide +kernel
theorem dX3_sum_10 : decode cX3_sum 10 = .ok (.iload 5, 2) := by decide +kernel
theorem dX3_sum_12 : decode cX3_sum 12 = .ok (.sipush 800, 3) := by decide +kernel
theorem dX3_sum_15 : decode cX3_sum 15 = .ok (.if_icmp .ge 54, 3) := by decide +kernel
theorem dX3_sum_18 : decode cX3_sum 18 = .ok (.aload_n 1, 1) := by decide +kernel
theorem dX3_sum_19 : decode cX3_sum 19 = .ok (.bipush 43, 2) := by decide +kernel
theorem dX3_sum_21 : decode cX3_sum 21 = .ok (.invokevirtual 22, 3) := by decide +kernel
theorem dX3_sum_24 : decode cX3_sum 24 = .ok (.ifCond .eq 18, 3) := by decide +kernel
theorem dX3_sum_27 : decode cX3_sum 27 = .ok (.lload_n 3, 1) := by decide +kernel
theorem dX3_sum_28 : decode cX3_sum 28 = .ok (.aload_n 0, 1) := by decide +kernel
theorem dX3_sum_29 : decode cX3_sum 29 = .ok (.aload_n 1, 1) := by decide +kernel
theorem dX3_sum_30 : decode cX3_sum 30 = .ok (.iload_n 2, 1) := by decide +kernel
theorem dX3_sum_31 : decode cX3_sum 31 = .ok (.invokevirtual 18, 3) := by decide +kernel
theorem dX3_sum_34 : decode cX3_sum 34 = .ok (.ladd, 1) := by decide +kernel
theorem dX3_sum_35 : decode cX3_sum 35 = .ok (.invokestatic 28, 3) := by decide +kernel
theorem dX3_sum_38 : decode cX3_sum 38 = .ok (.lstore_n 3, 1) := by decide +kernel
theorem dX3_sum_39 : decode cX3_sum 39 = .ok (.goto 24, 3) := by decide +kernel
theorem dX3_sum_42 : decode cX3_sum 42 = .ok (.aload_n 1, 1) := by decide +kernel
theorem dX3_sum_43 : decode cX3_sum 43 = .ok (.bipush 45, 2) := by decide +kernel
theorem dX3_sum_45 : decode cX3_sum 45 = .ok (.invokevirtual 22, 3) := by decide +kernel
theorem dX3_sum_48 : decode cX3_sum 48 = .ok (.ifCond .eq 21, 3) := by decide +kernel
theorem dX3_sum_51 : decode cX3_sum 51 = .ok (.lload_n 3, 1) := by decide +kernel
theorem dX3_sum_52 : decode cX3_sum 52 = .ok (.aload_n 0, 1) := by decide +kernel
theorem dX3_sum_53 : decode cX3_sum 53 = .ok (.aload_n 1, 1) := by decide +kernel
theorem dX3_sum_54 : decode cX3_sum 54 = .ok (.iload_n 2, 1) := by decide +kernel
theorem dX3_sum_55 : decode cX3_sum 55 = .ok (.invokevirtual 18, 3) := by decide +kernel
theorem dX3_sum_58 : decode cX3_sum 58 = .ok (.lsub, 1) := by decide +kernel
theorem dX3_sum_59 : decode cX3_sum 59 = .ok (.invokestatic 28, 3) := by decide +kernel
theorem dX3_sum_62 : decode cX3_sum 62 = .ok (.lstore_n 3, 1) := by decide +kernel
theorem dX3_sum_63 : decode cX3_sum 63 = .ok (.iinc 5 1, 3) := by decide +kernel
theorem dX3_sum_66 : decode cX3_sum 66 = .ok (.goto (-56), 3) := by decide +kernel
theorem dX3_sum_69 : decode cX3_sum 69 = .ok (.lload_n 3, 1) := by decide +kernel
theorem dX3_sum_70 : decode cX3_sum 70 = .ok (.lreturn, 1) := by decide +kernel
theorem dX3_term_0 : decode cX3_term 0 = .ok (.aload_n 0, 1) := by decide +kernel
theorem dX3_term_1 : decode cX3_term 1 = .ok (.aload_n 1, 1) := by decide +kernel
theorem dX3_term_2 : decode cX3_term 2 = .ok (.iload_n 2, 1) := by decide +kernel
theorem dX3_term_3 : decode cX3_term 3 = .ok (.invokevirtual 32, 3) := by decide +kernel
theorem dX3_term_6 : decode cX3_term 6 = .ok (.lstore_n 3, 1) := by decide +kernel
theorem dX3_term_7 : decode cX3_term 7 = .ok (.iconst 0, 1) := by decide +kernel
theorem dX3_term_8 : decode cX3_term 8 = .ok (.istore 5, 2) := by decide +kernel
theorem dX3_term_10 : decode cX3_term 10 = .ok (.iload 5, 2) := by decide +kernel
theorem dX3_term_12 : decode cX3_term 12 = .ok (.sipush 800, 3) := by decide +kernel
theorem dX3_term_15 : decode cX3_term 15 = .ok (.if_icmp .ge 56, 3) := by decide +kernel
theorem dX3_term_18 : decode cX3_term 18 = .ok (.aload_n 1, 1) := by decide +kernel
theorem dX3_term_19 : decode cX3_term 19 = .ok (.bipush 42, 2) := by decide +kernel
theorem dX3_term_21 : decode cX3_term 21 = .ok (.invokevirtual 22, 3) := by decide +kernel
theorem dX3_term_24 : decode cX3_term 24 = .ok (.ifCond .eq 18, 3) := by decide +kernel
theorem dX3_term_27 : decode cX3_term 27 = .ok (.lload_n 3, 1) := by decide +kernel
theorem dX3_term_28 : decode cX3_term 28 = .ok (.aload_n 0, 1) := by decide +kernel
theorem dX3_term_29 : decode cX3_term 29 = .ok (.aload_n 1, 1) := by decide +kernel
theorem dX3_term_30 : decode cX3_term 30 = .ok (.iload_n 2, 1) := by decide +kernel
theorem dX3_term_31 : decode cX3_term 31 = .ok (.invokevirtual 32, 3) := by decide +kernel
theorem dX3_term_34 : decode cX3_term 34 = .ok (.lmul, 1) := by decide +kernel
theorem dX3_term_35 : decode cX3_term 35 = .ok (.invokestatic 28, 3) := by decide +kernel
theorem dX3_term_38 : decode cX3_term 38 = .ok (.lstore_n 3, 1) := by decide +kernel
theorem dX3_term_39 : decode cX3_term 39 = .ok (.goto 26, 3) := by decide +kernel
theorem dX3_term_42 : decode cX3_term 42 = .ok (.aload_n 1, 1) := by decide +kernel
theorem dX3_term_43 : decode cX3_term 43 = .ok (.bipush 47, 2) := by decide +kernel
theorem dX3_term_45 : decode cX3_term 45 = .ok (.invokevirtual 22, 3) := by decide +kernel
theorem dX3_term_48 : decode cX3_term 48 = .ok (.ifCond .eq 23, 3) := by decide +kernel
theorem dX3_term_51 : decode cX3_term 51 = .ok (.lload_n 3, 1) := by decide +kernel
theorem dX3_term_52 : decode cX3_term 52 = .ok (.aload_n 0, 1) := by decide +kernel
theorem dX3_term_53 : decode cX3_term 53 = .ok (.aload_n 1, 1) := by decide +kernel
theorem dX3_term_54 : decode cX3_term 54 = .ok (.iload_n 2, 1) := by decide +kernel
theorem dX3_term_55 : decode cX3_term 55 = .ok (.invokevirtual 32, 3) := by decide +kernel
theorem dX3_term_58 : decode cX3_term 58 = .ok (.invokestatic 35, 3) := by decide +kernel
theorem dX3_term_61 : decode cX3_term 61 = .ok (.invokestatic 28, 3) := by decide +kernel
theorem dX3_term_64 : decode cX3_term 64 = .ok (.lstore_n 3, 1) := by decide +kernel
theorem dX3_term_65 : decode cX3_term 65 = .ok (.iinc 5 1, 3) := by decide +kernel
theorem dX3_term_68 : decode cX3_term 68 = .ok (.goto (-58), 3) := by decide +kernel
theorem dX3_term_71 : decode cX3_term 71 = .ok (.lload_n 3, 1) := by decide +kernel
theorem dX3_term_72 : decode cX3_term 72 = .ok (.lreturn, 1) := by decide +kernel
theorem dX3_factor_0 : decode cX3_factor 0 = .ok (.aload_n 1, 1) := by decide +kernel
theorem dX3_factor_1 : decode cX3_factor 1 = .ok (.getfield 39, 3) := by decide +kernel
theorem dX3_factor_4 : decode cX3_factor 4 = .ok (.bipush 40, 2) := by decide +kernel
theorem dX3_factor_6 : decode cX3_factor 6 = .ok (.if_icmp .ne 20, 3) := by decide +kernel
theorem dX3_factor_9 : decode cX3_factor 9 = .ok (.iload_n 2, 1) := by decide +kernel
theorem dX3_factor_10 : decode cX3_factor 10 = .ok (.iconst 4, 1) := by decide +kernel
theorem dX3_factor_11 : decode cX3_factor 11 = .ok (.if_icmp .lt 15, 3) := by decide +kernel
theorem dX3_factor_14 : decode cX3_factor 14 = .ok (.aload_n 1, 1) := by decide +kernel
theorem dX3_factor_15 : decode cX3_factor 15 = .ok (.bipush (-5), 2) := by decide +kernel
theorem dX3_factor_17 : decode cX3_factor 17 = .ok (.aload_n 1, 1) := by decide +kernel
theorem dX3_factor_18 : decode cX3_factor 18 = .ok (.getfield 42, 3) := by decide +kernel
theorem dX3_factor_21 : decode cX3_factor 21 = .ok (.invokevirtual 45, 3) := by decide +kernel
theorem dX3_factor_24 : decode cX3_factor 24 = .ok (.lconst 0, 1) := by decide +kernel
theorem dX3_factor_25 : decode cX3_factor 25 = .ok (.lreturn, 1) := by decide +kernel
theorem dX3_factor_26 : decode cX3_factor 26 = .ok (.aload_n 1, 1) := by decide +kernel
theorem dX3_factor_27 : decode cX3_factor 27 = .ok (.bipush 40, 2) := by decide +kernel
theorem dX3_factor_29 : decode cX3_factor 29 = .ok (.invokevirtual 22, 3) := by decide +kernel
theorem dX3_factor_32 : decode cX3_factor 32 = .ok (.ifCond .eq 20, 3) := by decide +kernel
theorem dX3_factor_35 : decode cX3_factor 35 = .ok (.aload_n 0, 1) := by decide +kernel
theorem dX3_factor_36 : decode cX3_factor 36 = .ok (.aload_n 1, 1) := by decide +kernel
theorem dX3_factor_37 : decode cX3_factor 37 = .ok (.iload_n 2, 1) := by decide +kernel
theorem dX3_factor_38 : decode cX3_factor 38 = .ok (.iconst 1, 1) := by decide +kernel
theorem dX3_factor_39 : decode cX3_factor 39 = .ok (.iadd, 1) := by decide +kernel
theorem dX3_factor_40 : decode cX3_factor 40 = .ok (.invokevirtual 49, 3) := by decide +kernel
theorem dX3_factor_43 : decode cX3_factor 43 = .ok (.lstore_n 3, 1) := by decide +kernel
theorem dX3_factor_44 : decode cX3_factor 44 = .ok (.aload_n 1, 1) := by decide +kernel
theorem dX3_factor_45 : decode cX3_factor 45 = .ok (.bipush 41, 2) := by decide +kernel
theorem dX3_factor_47 : decode cX3_factor 47 = .ok (.invokevirtual 52, 3) := by decide +kernel
theorem dX3_factor_50 : decode cX3_factor 50 = .ok (.lload_n 3, 1) := by decide +kernel
theorem dX3_factor_51 : decode cX3_factor 51 = .ok (.lreturn, 1) := by decide +kernel
theorem dX3_factor_52 : decode cX3_factor 52 = .ok (.aload_n 1, 1) := by decide +kernel
theorem dX3_factor_53 : decode cX3_factor 53 = .ok (.ldc 56, 2) := by decide +kernel
theorem dX3_factor_55 : decode cX3_factor 55 = .ok (.invokevirtual 57, 3) := by decide +kernel
theorem dX3_factor_58 : decode cX3_factor 58 = .ok (.ifCond .eq 9, 3) := by decide +kernel
theorem dX3_factor_61 : decode cX3_factor 61 = .ok (.aload_n 0, 1) := by decide +kernel
theorem dX3_factor_62 : decode cX3_factor 62 = .ok (.getfield 9, 3) := by decide +kernel
theorem dX3_factor_65 : decode cX3_factor 65 = .ok (.i2l, 1) := by decide +kernel
theorem dX3_factor_66 : decode cX3_factor 66 = .ok (.lreturn, 1) := by decide +kernel
theorem dX3_factor_67 : decode cX3_factor 67 = .ok (.aload_n 1, 1) := by decide +kernel
theorem dX3_factor_68 : decode cX3_factor 68 = .ok (.ldc 61, 2) := by decide +kernel
theorem dX3_factor_70 : decode cX3_factor 70 = .ok (.invokevirtual 57, 3) := by decide +kernel
theorem dX3_factor_73 : decode cX3_factor 73 = .ok (.ifCond .eq 11, 3) := by decide +kernel
theorem dX3_factor_76 : decode cX3_factor 76 = .ok (.aload_n 0, 1) := by decide +kernel
theorem dX3_factor_77 : decode cX3_factor 77 = .ok (.getfield 9, 3) := by decide +kernel
theorem dX3_factor_80 : decode cX3_factor 80 = .ok (.iconst 4, 1) := by decide +kernel
theorem dX3_factor_81 : decode cX3_factor 81 = .ok (.irem, 1) := by decide +kernel
theorem dX3_factor_82 : decode cX3_factor 82 = .ok (.i2l, 1) := by decide +kernel
theorem dX3_factor_83 : decode cX3_factor 83 = .ok (.lreturn, 1) := by decide +kernel
theorem dX3_factor_84 : decode cX3_factor 84 = .ok (.aload_n 1, 1) := by decide +kernel
theorem dX3_factor_85 : decode cX3_factor 85 = .ok (.ldc 63, 2) := by decide +kernel
theorem dX3_factor_87 : decode cX3_factor 87 = .ok (.invokevirtual 57, 3) := by decide +kernel
theorem dX3_factor_90 : decode cX3_factor 90 = .ok (.ifCond .eq 9, 3) := by decide +kernel
theorem dX3_factor_93 : decode cX3_factor 93 = .ok (.aload_n 0, 1) := by decide +kernel
theorem dX3_factor_94 : decode cX3_factor 94 = .ok (.getfield 15, 3) := by decide +kernel
theorem dX3_factor_97 : decode cX3_factor 97 = .ok (.i2l, 1) := by decide +kernel
theorem dX3_factor_98 : decode cX3_factor 98 = .ok (.lreturn, 1) := by decide +kernel
theorem dX3_factor_99 : decode cX3_factor 99 = .ok (.aload_n 1, 1) := by decide +kernel
theorem dX3_factor_100 : decode cX3_factor 100 = .ok (.iconst 0, 1) := by decide +kernel
theorem dX3_factor_101 : decode cX3_factor 101 = .ok (.sipush 9999, 3) := by decide +kernel
theorem dX3_factor_104 : decode cX3_factor 104 = .ok (.invokevirtual 64, 3) := by decide +kernel
theorem dX3_factor_107 : decode cX3_factor 107 = .ok (.i2l, 1) := by decide +kernel
theorem dX3_factor_108 : decode cX3_factor 108 = .ok (.lreturn, 1) := by decide +kernel
theorem dX3_quotient_0 : decode cX3_quotient 0 = .ok (.lload_n 2, 1) := by decide +kernel
theorem dX3_quotient_1 : decode cX3_quotient 1 = .ok (.lconst 0, 1) := by decide +kernel
theorem dX3_quotient_2 : decode cX3_quotient 2 = .ok (.lcmp, 1) := by decide +kernel
theorem dX3_quotient_3 : decode cX3_quotient 3 = .ok (.ifCond .ne 7, 3) := by decide +kernel
theorem dX3_quotient_6 : decode cX3_quotient 6 = .ok (.lconst 0, 1) := by decide +kernel
theorem dX3_quotient_7 : decode cX3_quotient 7 = .ok (.goto 6, 3) := by decide +kernel
theorem dX3_quotient_10 : decode cX3_quotient 10 = .ok (.lload_n 0, 1) := by decide +kernel
theorem dX3_quotient_11 : decode cX3_quotient 11 = .ok (.lload_n 2, 1) := by decide +kernel
theorem dX3_quotient_12 : decode cX3_quotient 12 = .ok (.ldiv, 1) := by decide +kernel
theorem dX3_quotient_13 : decode cX3_quotient 13 = .ok (.lreturn, 1) := by decide +kernel
theorem dX3_limited_0 : decode cX3_limited 0 = .ok (.ldc2_w 68, 3) := by decide +kernel
theorem dX3_limited_3 : decode cX3_limited 3 = .ok (.ldc2_w 70, 3) := by decide +kernel
theorem dX3_limited_6 : decode cX3_limited 6 = .ok (.lload_n 0, 1) := by decide +kernel
theorem dX3_limited_7 : decode cX3_limited 7 = .ok (.invokestatic 72, 3) := by decide +kernel
theorem dX3_limited_10 : decode cX3_limited 10 = .ok (.invokestatic 77, 3) := by decide +kernel
theorem dX3_limited_13 : decode cX3_limited 13 = .ok (.lreturn, 1) := by decide +kernel
theorem dX4_init_0 : decode cX4_init 0 = .ok (.aload_n 0, 1) := by decide +kernel
theorem dX4_init_1 : decode cX4_init 1 = .ok (.invokespecial 3, 3) := by decide +kernel
theorem dX4_init_4 : decode cX4_init 4 = .ok (.aload_n 0, 1) := by decide +kernel
theorem dX4_init_5 : decode cX4_init 5 = .ok (.bipush 8, 2) := by decide +kernel
theorem dX4_init_7 : decode cX4_init 7 = .ok (.anewarray 9, 3) := by decide +kernel
theorem dX4_init_10 : decode cX4_init 10 = .ok (.putfield 11, 3) := by decide +kernel
theorem dX4_init_13 : decode cX4_init 13 = .ok (.aload_n 0, 1) := by decide +kernel
theorem dX4_init_14 : decode cX4_init 14 = .ok (.iconst 0, 1) := by decide +kernel
theorem dX4_init_15 : decode cX4_init 15 = .ok (.putfield 17, 3) := by decide +kernel
theorem dX4_init_18 : decode cX4_init 18 = .ok (.aload_n 0, 1) := by decide +kernel
theorem dX4_init_19 : decode cX4_init 19 = .ok (.iconst 0, 1) := by decide +kernel
theorem dX4_init_20 : decode cX4_init 20 = .ok (.putfield 21, 3) := by decide +kernel
theorem dX4_init_23 : decode cX4_init 23 = .ok (.return_, 1) := by decide +kernel
theorem dX4_keep_0 : decode cX4_keep 0 = .ok (.aload_n 0, 1) := by decide +kernel
theorem dX4_keep_1 : decode cX4_keep 1 = .ok (.getfield 11, 3) := by decide +kernel
theorem dX4_keep_4 : decode cX4_keep 4 = .ok (.aload_n 0, 1) := by decide +kernel
theorem dX4_keep_5 : decode cX4_keep 5 = .ok (.getfield 17, 3) := by decide +kernel
theorem dX4_keep_8 : decode cX4_keep 8 = .ok (.aaload, 1) := by decide +kernel
theorem dX4_keep_9 : decode cX4_keep 9 = .ok (.astore_n 2, 1) := by decide +kernel
theorem dX4_keep_10 : decode cX4_keep 10 = .ok (.aload_n 2, 1) := by decide +kernel
theorem dX4_keep_11 : decode cX4_keep 11 = .ok (.ifnonnull 21, 3) := by decide +kernel
theorem dX4_keep_14 : decode cX4_keep 14 = .ok (.new 9, 3) := by decide +kernel
theorem dX4_keep_17 : decode cX4_keep 17 = .ok (.dup, 1) := by decide +kernel
theorem dX4_keep_18 : decode cX4_keep 18 = .ok (.invokespecial 24, 3) := by decide +kernel
theorem dX4_keep_21 : decode cX4_keep 21 = .ok (.astore_n 2, 1) := by decide +kernel
theorem dX4_keep_22 : decode cX4_keep 22 = .ok (.aload_n 0, 1) := by decide +kernel
theorem dX4_keep_23 : decode cX4_keep 23 = .ok (.getfield 11, 3) := by decide +kernel
theorem dX4_keep_26 : decode cX4_keep 26 = .ok (.aload_n 0, 1) := by decide +kernel
theorem dX4_keep_27 : decode cX4_keep 27 = .ok (.getfield 17, 3) := by decide +kernel
theorem dX4_keep_30 : decode cX4_keep 30 = .ok (.aload_n 2, 1) := by decide +kernel
theorem dX4_keep_31 : decode cX4_keep 31 = .ok (.aastore, 1) := by decide +kernel
theorem dX4_keep_32 : decode cX4_keep 32 = .ok (.aload_n 2, 1) := by decide +kernel
theorem dX4_keep_33 : decode cX4_keep 33 = .ok (.aload_n 1, 1) := by decide +kernel
theorem dX4_keep_34 : decode cX4_keep 34 = .ok (.invokevirtual 25, 3) := by decide +kernel
theorem dX4_keep_37 : decode cX4_keep 37 = .ok (.aload_n 0, 1) := by decide +kernel
theorem dX4_keep_38 : decode cX4_keep 38 = .ok (.aload_n 0, 1) := by decide +kernel
theorem dX4_keep_39 : decode cX4_keep 39 = .ok (.getfield 17, 3) := by decide +kernel
theorem dX4_keep_42 : decode cX4_keep 42 = .ok (.iconst 1, 1) := by decide +kernel
theorem dX4_keep_43 : decode cX4_keep 43 = .ok (.iadd, 1) := by decide +kernel
theorem dX4_keep_44 : decode cX4_keep 44 = .ok (.bipush 8, 2) := by decide +kernel
theorem dX4_keep_46 : decode cX4_keep 46 = .ok (.irem, 1) := by decide +kernel
theorem dX4_keep_47 : decode cX4_keep 47 = .ok (.putfield 17, 3) := by decide +kernel
theorem dX4_keep_50 : decode cX4_keep 50 = .ok (.aload_n 0, 1) := by decide +kernel
theorem dX4_keep_51 : decode cX4_keep 51 = .ok (.aload_n 0, 1) := by decide +kernel
theorem dX4_keep_52 : decode cX4_keep 52 = .ok (.getfield 21, 3) := by decide +kernel
theorem dX4_keep_55 : decode cX4_keep 55 = .ok (.iconst 1, 1) := by decide +kernel
theorem dX4_keep_56 : decode cX4_keep 56 = .ok (.iadd, 1) := by decide +kernel
theorem dX4_keep_57 : decode cX4_keep 57 = .ok (.bipush 8, 2) := by decide +kernel
theorem dX4_keep_59 : decode cX4_keep 59 = .ok (.invokestatic 29, 3) := by decide +kernel
theorem dX4_keep_62 : decode cX4_keep 62 = .ok (.putfield 21, 3) := by decide +kernel
theorem dX4_keep_65 : decode cX4_keep 65 = .ok (.return_, 1) := by decide +kernel
theorem dX4_giveBack_0 : decode cX4_giveBack 0 = .ok (.aload_n 0, 1) := by decide +kernel
theorem dX4_giveBack_1 : decode cX4_giveBack 1 = .ok (.getfield 17, 3) := by decide +kernel
theorem dX4_giveBack_4 : decode cX4_giveBack 4 = .ok (.bipush 8, 2) := by decide +kernel
theorem dX4_giveBack_6 : decode cX4_giveBack 6 = .ok (.iadd, 1) := by decide +kernel
theorem dX4_giveBack_7 : decode cX4_giveBack 7 = .ok (.iconst 1, 1) := by decide +kernel
theorem dX4_giveBack_8 : decode cX4_giveBack 8 = .ok (.isub, 1) := by decide +kernel
theorem dX4_giveBack_9 : decode cX4_giveBack 9 = .ok (.bipush 8, 2) := by decide +kernel
theorem dX4_giveBack_11 : decode cX4_giveBack 11 = .ok (.irem, 1) := by decide +kernel
theorem dX4_giveBack_12 : decode cX4_giveBack 12 = .ok (.istore_n 2, 1) := by decide +kernel
theorem dX4_giveBack_13 : decode cX4_giveBack 13 = .ok (.aload_n 0, 1) := by decide +kernel
theorem dX4_giveBack_14 : decode cX4_giveBack 14 = .ok (.getfield 11, 3) := by decide +kernel
theorem dX4_giveBack_17 : decode cX4_giveBack 17 = .ok (.iload_n 2, 1) := by decide +kernel
theorem dX4_giveBack_18 : decode cX4_giveBack 18 = .ok (.aaload, 1) := by decide +kernel
theorem dX4_giveBack_19 : decode cX4_giveBack 19 = .ok (.astore_n 3, 1) := by decide +kernel
theorem dX4_giveBack_20 : decode cX4_giveBack 20 = .ok (.aload_n 0, 1) := by decide +kernel
theorem dX4_giveBack_21 : decode cX4_giveBack 21 = .ok (.getfield 21, 3) := by decide +kernel
theorem dX4_giveBack_24 : decode cX4_giveBack 24 = .ok (.ifCond .eq 7, 3) := by decide +kernel
theorem dX4_giveBack_27 : decode cX4_giveBack 27 = .ok (.aload_n 3, 1) := by decide +kernel
theorem dX4_giveBack_28 : decode cX4_giveBack 28 = .ok (.ifnonnull 5, 3) := by decide +kernel
theorem dX4_giveBack_31 : decode cX4_giveBack 31 = .ok (.iconst (-1), 1) := by decide +kernel
theorem dX4_giveBack_32 : decode cX4_giveBack 32 = .ok (.ireturn, 1) := by decide +kernel
theorem dX4_giveBack_33 : decode cX4_giveBack 33 = .ok (.aload_n 1, 1) := by decide +kernel
theorem dX4_giveBack_34 : decode cX4_giveBack 34 = .ok (.aload_n 3, 1) := by decide +kernel
theorem dX4_giveBack_35 : decode cX4_giveBack 35 = .ok (.invokevirtual 25, 3) := by decide +kernel
theorem dX4_giveBack_38 : decode cX4_giveBack 38 = .ok (.aload_n 0, 1) := by decide +kernel
theorem dX4_giveBack_39 : decode cX4_giveBack 39 = .ok (.iload_n 2, 1) := by decide +kernel
theorem dX4_giveBack_40 : decode cX4_giveBack 40 = .ok (.putfield 17, 3) := by decide +kernel
theorem dX4_giveBack_43 : decode cX4_giveBack 43 = .ok (.aload_n 0, 1) := by decide +kernel
theorem dX4_giveBack_44 : decode cX4_giveBack 44 = .ok (.dup, 1) := by decide +kernel
theorem dX4_giveBack_45 : decode cX4_giveBack 45 = .ok (.getfield 21, 3) := by decide +kernel
theorem dX4_giveBack_48 : decode cX4_giveBack 48 = .ok (.iconst 1, 1) := by decide +kernel
theorem dX4_giveBack_49 : decode cX4_giveBack 49 = .ok (.isub, 1) := by decide +kernel
theorem dX4_giveBack_50 : decode cX4_giveBack 50 = .ok (.putfield 21, 3) := by decide +kernel
theorem dX4_giveBack_53 : decode cX4_giveBack 53 = .ok (.aload_n 0, 1) := by decide +kernel
theorem dX4_giveBack_54 : decode cX4_giveBack 54 = .ok (.getfield 21, 3) := by decide +kernel
theorem dX4_giveBack_57 : decode cX4_giveBack 57 = .ok (.ireturn, 1) := by decide +kernel
theorem dX5_init_0 : decode cX5_init 0 = .ok (.aload_n 0, 1) := by decide +kernel
theorem dX5_init_1 : decode cX5_init 1 = .ok (.invokespecial 3, 3) := by decide +kernel
theorem dX5_init_4 : decode cX5_init 4 = .ok (.aload_n 0, 1) := by decide +kernel
theorem dX5_init_5 : decode cX5_init 5 = .ok (.sipush 800, 3) := by decide +kernel
theorem dX5_init_8 : decode cX5_init 8 = .ok (.newarray .byte, 2) := by decide +kernel
theorem dX5_init_10 : decode cX5_init 10 = .ok (.putfield 9, 3) := by decide +kernel
theorem dX5_init_13 : decode cX5_init 13 = .ok (.aload_n 0, 1) := by decide +kernel
theorem dX5_init_14 : decode cX5_init 14 = .ok (.iconst 0, 1) := by decide +kernel
theorem dX5_init_15 : decode cX5_init 15 = .ok (.putfield 15, 3) := by decide +kernel
theorem dX5_init_18 : decode cX5_init 18 = .ok (.aload_n 0, 1) := by decide +kernel
theorem dX5_init_19 : decode cX5_init 19 = .ok (.iconst 0, 1) := by decide +kernel
theorem dX5_init_20 : decode cX5_init 20 = .ok (.putfield 19, 3) := by decide +kernel
theorem dX5_init_23 : decode cX5_init 23 = .ok (.aload_n 0, 1) := by decide +kernel
theorem dX5_init_24 : decode cX5_init 24 = .ok (.iconst 0, 1) := by decide +kernel
theorem dX5_init_25 : decode cX5_init 25 = .ok (.putfield 22, 3) := by decide +kernel
theorem dX5_init_28 : decode cX5_init 28 = .ok (.aload_n 0, 1) := by decide +kernel
theorem dX5_init_29 : decode cX5_init 29 = .ok (.iconst (-1), 1) := by decide +kernel
theorem dX5_init_30 : decode cX5_init 30 = .ok (.putfield 25, 3) := by decide +kernel
theorem dX5_init_33 : decode cX5_init 33 = .ok (.aload_n 0, 1) := by decide +kernel
theorem dX5_init_34 : decode cX5_init 34 = .ok (.iconst 0, 1) := by decide +kernel
theorem dX5_init_35 : decode cX5_init 35 = .ok (.putfield 28, 3) := by decide +kernel
theorem dX5_init_38 : decode cX5_init 38 = .ok (.aload_n 0, 1) := by decide +kernel
theorem dX5_init_39 : decode cX5_init 39 = .ok (.iconst 0, 1) := by decide +kernel
theorem dX5_init_40 : decode cX5_init 40 = .ok (.putfield 31, 3) := by decide +kernel
theorem dX5_init_43 : decode cX5_init 43 = .ok (.aload_n 0, 1) := by decide +kernel
theorem dX5_init_44 : decode cX5_init 44 = .ok (.iconst 0, 1) := by decide +kernel
theorem dX5_init_45 : decode cX5_init 45 = .ok (.putfield 34, 3) := by decide +kernel
theorem dX5_init_48 : decode cX5_init 48 = .ok (.aload_n 0, 1) := by decide +kernel
theorem dX5_init_49 : decode cX5_init 49 = .ok (.iconst (-1), 1) := by decide +kernel
theorem dX5_init_50 : decode cX5_init 50 = .ok (.putfield 37, 3) := by decide +kernel
theorem dX5_init_53 : decode cX5_init 53 = .ok (.return_, 1) := by decide +kernel
theorem dX5_addWord_0 : decode cX5_addWord 0 = .ok (.bipush 24, 2) := by decide +kernel
theorem dX5_addWord_2 : decode cX5_addWord 2 = .ok (.istore_n 2, 1) := by decide +kernel
theorem dX5_addWord_3 : decode cX5_addWord 3 = .ok (.iload_n 2, 1) := by decide +kernel
theorem dX5_addWord_4 : decode cX5_addWord 4 = .ok (.ifCond .lt 32, 3) := by decide +kernel
theorem dX5_addWord_7 : decode cX5_addWord 7 = .ok (.aload_n 0, 1) := by decide +kernel
theorem dX5_addWord_8 : decode cX5_addWord 8 = .ok (.getfield 9, 3) := by decide +kernel
theorem dX5_addWord_11 : decode cX5_addWord 11 = .ok (.aload_n 0, 1) := by decide +kernel
theorem dX5_addWord_12 : decode cX5_addWord 12 = .ok (.getfield 15, 3) := by decide +kernel
theorem dX5_addWord_15 : decode cX5_addWord 15 = .ok (.iload_n 1, 1) := by decide +kernel
theorem dX5_addWord_16 : decode cX5_addWord 16 = .ok (.iload_n 2, 1) := by decide +kernel
theorem dX5_addWord_17 : decode cX5_addWord 17 = .ok (.ishr, 1) := by decide +kernel
theorem dX5_addWord_18 : decode cX5_addWord 18 = .ok (.i2b, 1) := by decide +kernel
theorem dX5_addWord_19 : decode cX5_addWord 19 = .ok (.bastore, 1) := by decide +kernel
theorem dX5_addWord_20 : decode cX5_addWord 20 = .ok (.aload_n 0, 1) := by decide +kernel
theorem dX5_addWord_21 : decode cX5_addWord 21 = .ok (.dup, 1) := by decide +kernel
theorem dX5_addWord_22 : decode cX5_addWord 22 = .ok (.getfield 15, 3) := by decide +kernel
theorem dX5_addWord_25 : decode cX5_addWord 25 = .ok (.iconst 1, 1) := by decide +kernel
theorem dX5_addWord_26 : decode cX5_addWord 26 = .ok (.iadd, 1) := by decide +kernel
theorem dX5_addWord_27 : decode cX5_addWord 27 = .ok (.putfield 15, 3) := by decide +kernel
theorem dX5_addWord_30 : decode cX5_addWord 30 = .ok (.iinc 2 (-8), 3) := by decide +kernel
theorem dX5_addWord_33 : decode cX5_addWord 33 = .ok (.goto (-30), 3) := by decide +kernel
theorem dX5_addWord_36 : decode cX5_addWord 36 = .ok (.return_, 1) := by decide +kernel
theorem dX5_begin_0 : decode cX5_begin 0 = .ok (.aload_n 0, 1) := by decide +kernel
theorem dX5_begin_1 : decode cX5_begin 1 = .ok (.iload_n 1, 1) := by decide +kernel
theorem dX5_begin_2 : decode cX5_begin 2 = .ok (.putfield 19, 3) := by decide +kernel
theorem dX5_begin_5 : decode cX5_begin 5 = .ok (.aload_n 0, 1) := by decide +kernel
theorem dX5_begin_6 : decode cX5_begin 6 = .ok (.iconst 0, 1) := by decide +kernel
theorem dX5_begin_7 : decode cX5_begin 7 = .ok (.putfield 34, 3) := by decide +kernel
theorem dX5_begin_10 : decode cX5_begin 10 = .ok (.aload_n 0, 1) := by decide +kernel
theorem dX5_begin_11 : decode cX5_begin 11 = .ok (.iconst (-1), 1) := by decide +kernel
theorem dX5_begin_12 : decode cX5_begin 12 = .ok (.putfield 37, 3) := by decide +kernel
theorem dX5_begin_15 : decode cX5_begin 15 = .ok (.aload_n 0, 1) := by decide +kernel
theorem dX5_begin_16 : decode cX5_begin 16 = .ok (.iconst 0, 1) := by decide +kernel
theorem dX5_begin_17 : decode cX5_begin 17 = .ok (.invokevirtual 40, 3) := by decide +kernel
theorem dX5_begin_20 : decode cX5_begin 20 = .ok (.return_, 1) := by decide +kernel
theorem dX5_goTo_0 : decode cX5_goTo 0 = .ok (.aload_n 0, 1) := by decide +kernel
theorem dX5_goTo_1 : decode cX5_goTo 1 = .ok (.iload_n 1, 1) := by decide +kernel
theorem dX5_goTo_2 : decode cX5_goTo 2 = .ok (.putfield 22, 3) := by decide +kernel
theorem dX5_goTo_5 : decode cX5_goTo 5 = .ok (.aload_n 0, 1) := by decide +kernel
theorem dX5_goTo_6 : decode cX5_goTo 6 = .ok (.invokevirtual 44, 3) := by decide +kernel
theorem dX5_goTo_9 : decode cX5_goTo 9 = .ok (.return_, 1) := by decide +kernel
theorem dX5_advance_0 : decode cX5_advance 0 = .ok (.aload_n 0, 1) := by decide +kernel
theorem dX5_advance_1 : decode cX5_advance 1 = .ok (.getfield 22, 3) := by decide +kernel
theorem dX5_advance_4 : decode cX5_advance 4 = .ok (.aload_n 0, 1) := by decide +kernel
theorem dX5_advance_5 : decode cX5_advance 5 = .ok (.getfield 19, 3) := by decide +kernel
theorem dX5_advance_8 : decode cX5_advance 8 = .ok (.if_icmp .ge 30, 3) := by decide +kernel
theorem dX5_advance_11 : decode cX5_advance 11 = .ok (.aload_n 0, 1) := by decide +kernel
theorem dX5_advance_12 : decode cX5_advance 12 = .ok (.getfield 9, 3) := by decide +kernel
theorem dX5_advance_15 : decode cX5_advance 15 = .ok (.aload_n 0, 1) := by decide +kernel
theorem dX5_advance_16 : decode cX5_advance 16 = .ok (.getfield 22, 3) := by decide +kernel
theorem dX5_advance_19 : decode cX5_advance 19 = .ok (.baload, 1) := by decide +kernel
theorem dX5_advance_20 : decode cX5_advance 20 = .ok (.bipush 32, 2) := by decide +kernel
theorem dX5_advance_22 : decode cX5_advance 22 = .ok (.if_icmp .ne 16, 3) := by decide +kernel
theorem dX5_advance_25 : decode cX5_advance 25 = .ok (.aload_n 0, 1) := by decide +kernel
theorem dX5_advance_26 : decode cX5_advance 26 = .ok (.dup, 1) := by decide +kernel
theorem dX5_advance_27 : decode cX5_advance 27 = .ok (.getfield 22, 3) := by decide +kernel
theorem dX5_advance_30 : decode cX5_advance 30 = .ok (.iconst 1, 1) := by decide +kernel
theorem dX5_advance_31 : decode cX5_advance 31 = .ok (.iadd, 1) := by decide +kernel
theorem dX5_advance_32 : decode cX5_advance 32 = .ok (.putfield 22, 3) := by decide +kernel
theorem dX5_advance_35 : decode cX5_advance 35 = .ok (.goto (-35), 3) := by decide +kernel
theorem dX5_advance_38 : decode cX5_advance 38 = .ok (.aload_n 0, 1) := by decide +kernel
theorem dX5_advance_39 : decode cX5_advance 39 = .ok (.aload_n 0, 1) := by decide +kernel
theorem dX5_advance_40 : decode cX5_advance 40 = .ok (.getfield 22, 3) := by decide +kernel
theorem dX5_advance_43 : decode cX5_advance 43 = .ok (.putfield 28, 3) := by decide +kernel
theorem dX5_advance_46 : decode cX5_advance 46 = .ok (.aload_n 0, 1) := by decide +kernel
theorem dX5_advance_47 : decode cX5_advance 47 = .ok (.getfield 22, 3) := by decide +kernel
theorem dX5_advance_50 : decode cX5_advance 50 = .ok (.aload_n 0, 1) := by decide +kernel
theorem dX5_advance_51 : decode cX5_advance 51 = .ok (.getfield 19, 3) := by decide +kernel
theorem dX5_advance_54 : decode cX5_advance 54 = .ok (.if_icmp .lt 11, 3) := by decide +kernel
theorem dX5_advance_57 : decode cX5_advance 57 = .ok (.aload_n 0, 1) := by decide +kernel
theorem dX5_advance_58 : decode cX5_advance 58 = .ok (.iconst (-1), 1) := by decide +kernel
theorem dX5_advance_59 : decode cX5_advance 59 = .ok (.putfield 25, 3) := by decide +kernel
theorem dX5_advance_62 : decode cX5_advance 62 = .ok (.goto 238, 3) := by decide +kernel
theorem dX5_advance_65 : decode cX5_advance 65 = .ok (.aload_n 0, 1) := by decide +kernel
theorem dX5_advance_66 : decode cX5_advance 66 = .ok (.getfield 9, 3) := by decide +kernel
theorem dX5_advance_69 : decode cX5_advance 69 = .ok (.aload_n 0, 1) := by decide +kernel
theorem dX5_advance_70 : decode cX5_advance 70 = .ok (.getfield 22, 3) := by decide +kernel
theorem dX5_advance_73 : decode cX5_advance 73 = .ok (.baload, 1) := by decide +kernel
theorem dX5_advance_74 : decode cX5_advance 74 = .ok (.bipush 48, 2) := by decide +kernel
theorem dX5_advance_76 : decode cX5_advance 76 = .ok (.if_icmp .lt 110, 3) := by decide +kernel
theorem dX5_advance_79 : decode cX5_advance 79 = .ok (.aload_n 0, 1) := by decide +kernel
theorem dX5_advance_80 : decode cX5_advance 80 = .ok (.getfield 9, 3) := by decide +kernel
theorem dX5_advance_83 : decode cX5_advance 83 = .ok (.aload_n 0, 1) := by decide +kernel
theorem dX5_advance_84 : decode cX5_advance 84 = .ok (.getfield 22, 3) := by decide +kernel
theorem dX5_advance_87 : decode cX5_advance 87 = .ok (.baload, 1) := by decide +kernel
theorem dX5_advance_88 : decode cX5_advance 88 = .ok (.bipush 57, 2) := by decide +kernel
theorem dX5_advance_90 : decode cX5_advance 90 = .ok (.if_icmp .gt 96, 3) := by decide +kernel
theorem dX5_advance_93 : decode cX5_advance 93 = .ok (.aload_n 0, 1) := by decide +kernel
theorem dX5_advance_94 : decode cX5_advance 94 = .ok (.sipush 256, 3) := by decide +kernel
theorem dX5_advance_97 : decode cX5_advance 97 = .ok (.putfield 25, 3) := by decide +kernel
theorem dX5_advance_100 : decode cX5_advance 100 = .ok (.aload_n 0, 1) := by decide +kernel
theorem dX5_advance_101 : decode cX5_advance 101 = .ok (.iconst 0, 1) := by decide +kernel
theorem dX5_advance_102 : decode cX5_advance 102 = .ok (.putfield 31, 3) := by decide +kernel
theorem dX5_advance_105 : decode cX5_advance 105 = .ok (.aload_n 0, 1) := by decide +kernel
theorem dX5_advance_106 : decode cX5_advance 106 = .ok (.getfield 22, 3) := by decide +kernel
theorem dX5_advance_109 : decode cX5_advance 109 = .ok (.aload_n 0, 1) := by decide +kernel
theorem dX5_advance_110 : decode cX5_advance 110 = .ok (.getfield 19, 3) := by decide +kernel
theorem dX5_advance_113 : decode cX5_advance 113 = .ok (.if_icmp .ge 187, 3) := by decide +kernel
theorem dX5_advance_116 : decode cX5_advance 116 = .ok (.aload_n 0, 1) := by decide +kernel
theorem dX5_advance_117 : decode cX5_advance 117 = .ok (.getfield 9, 3) := by decide +kernel
theorem dX5_advance_120 : decode cX5_advance 120 = .ok (.aload_n 0, 1) := by decide +kernel
theorem dX5_advance_121 : decode cX5_advance 121 = .ok (.getfield 22, 3) := by decide +kernel
theorem dX5_advance_124 : decode cX5_advance 124 = .ok (.baload, 1) := by decide +kernel
theorem dX5_advance_125 : decode cX5_advance 125 = .ok (.bipush 48, 2) := by decide +kernel
theorem dX5_advance_127 : decode cX5_advance 127 = .ok (.if_icmp .lt 173, 3) := by decide +kernel
theorem dX5_advance_130 : decode cX5_advance 130 = .ok (.aload_n 0, 1) := by decide +kernel
theorem dX5_advance_131 : decode cX5_advance 131 = .ok (.getfield 9, 3) := by decide +kernel
theorem dX5_advance_134 : decode cX5_advance 134 = .ok (.aload_n 0, 1) := by decide +kernel
theorem dX5_advance_135 : decode cX5_advance 135 = .ok (.getfield 22, 3) := by decide +kernel
theorem dX5_advance_138 : decode cX5_advance 138 = .ok (.baload, 1) := by decide +kernel
theorem dX5_advance_139 : decode cX5_advance 139 = .ok (.bipush 57, 2) := by decide +kernel
theorem dX5_advance_141 : decode cX5_advance 141 = .ok (.if_icmp .gt 159, 3) := by decide +kernel
theorem dX5_advance_144 : decode cX5_advance 144 = .ok (.aload_n 0, 1) := by decide +kernel
theorem dX5_advance_145 : decode cX5_advance 145 = .ok (.ldc 47, 2) := by decide +kernel
theorem dX5_advance_147 : decode cX5_advance 147 = .ok (.bipush 10, 2) := by decide +kernel
theorem dX5_advance_149 : decode cX5_advance 149 = .ok (.aload_n 0, 1) := by decide +kernel
theorem dX5_advance_150 : decode cX5_advance 150 = .ok (.getfield 31, 3) := by decide +kernel
theorem dX5_advance_153 : decode cX5_advance 153 = .ok (.imul, 1) := by decide +kernel
theorem dX5_advance_154 : decode cX5_advance 154 = .ok (.aload_n 0, 1) := by decide +kernel
theorem dX5_advance_155 : decode cX5_advance 155 = .ok (.getfield 9, 3) := by decide +kernel
theorem dX5_advance_158 : decode cX5_advance 158 = .ok (.aload_n 0, 1) := by decide +kernel
theorem dX5_advance_159 : decode cX5_advance 159 = .ok (.getfield 22, 3) := by decide +kernel
theorem dX5_advance_162 : decode cX5_advance 162 = .ok (.baload, 1) := by decide +kernel
theorem dX5_advance_163 : decode cX5_advance 163 = .ok (.iadd, 1) := by decide +kernel
theorem dX5_advance_164 : decode cX5_advance 164 = .ok (.bipush 48, 2) := by decide +kernel
theorem dX5_advance_166 : decode cX5_advance 166 = .ok (.isub, 1) := by decide +kernel
theorem dX5_advance_167 : decode cX5_advance 167 = .ok (.invokestatic 48, 3) := by decide +kernel
theorem dX5_advance_170 : decode cX5_advance 170 = .ok (.putfield 31, 3) := by decide +kernel
theorem dX5_advance_173 : decode cX5_advance 173 = .ok (.aload_n 0, 1) := by decide +kernel
theorem dX5_advance_174 : decode cX5_advance 174 = .ok (.dup, 1) := by decide +kernel
theorem dX5_advance_175 : decode cX5_advance 175 = .ok (.getfield 22, 3) := by decide +kernel
theorem dX5_advance_178 : decode cX5_advance 178 = .ok (.iconst 1, 1) := by decide +kernel
theorem dX5_advance_179 : decode cX5_advance 179 = .ok (.iadd, 1) := by decide +kernel
theorem dX5_advance_180 : decode cX5_advance 180 = .ok (.putfield 22, 3) := by decide +kernel
theorem dX5_advance_183 : decode cX5_advance 183 = .ok (.goto (-78), 3) := by decide +kernel
theorem dX5_advance_186 : decode cX5_advance 186 = .ok (.aload_n 0, 1) := by decide +kernel
theorem dX5_advance_187 : decode cX5_advance 187 = .ok (.getfield 9, 3) := by decide +kernel
theorem dX5_advance_190 : decode cX5_advance 190 = .ok (.aload_n 0, 1) := by decide +kernel
theorem dX5_advance_191 : decode cX5_advance 191 = .ok (.getfield 22, 3) := by decide +kernel
theorem dX5_advance_194 : decode cX5_advance 194 = .ok (.baload, 1) := by decide +kernel
theorem dX5_advance_195 : decode cX5_advance 195 = .ok (.bipush 97, 2) := by decide +kernel
theorem dX5_advance_197 : decode cX5_advance 197 = .ok (.if_icmp .lt 76, 3) := by decide +kernel
theorem dX5_advance_200 : decode cX5_advance 200 = .ok (.aload_n 0, 1) := by decide +kernel
theorem dX5_advance_201 : decode cX5_advance 201 = .ok (.getfield 9, 3) := by decide +kernel
theorem dX5_advance_204 : decode cX5_advance 204 = .ok (.aload_n 0, 1) := by decide +kernel
theorem dX5_advance_205 : decode cX5_advance 205 = .ok (.getfield 22, 3) := by decide +kernel
theorem dX5_advance_208 : decode cX5_advance 208 = .ok (.baload, 1) := by decide +kernel
theorem dX5_advance_209 : decode cX5_advance 209 = .ok (.bipush 122, 2) := by decide +kernel
theorem dX5_advance_211 : decode cX5_advance 211 = .ok (.if_icmp .gt 62, 3) := by decide +kernel
theorem dX5_advance_214 : decode cX5_advance 214 = .ok (.aload_n 0, 1) := by decide +kernel
theorem dX5_advance_215 : decode cX5_advance 215 = .ok (.sipush 257, 3) := by decide +kernel
theorem dX5_advance_218 : decode cX5_advance 218 = .ok (.putfield 25, 3) := by decide +kernel
theorem dX5_advance_221 : decode cX5_advance 221 = .ok (.aload_n 0, 1) := by decide +kernel
theorem dX5_advance_222 : decode cX5_advance 222 = .ok (.getfield 22, 3) := by decide +kernel
theorem dX5_advance_225 : decode cX5_advance 225 = .ok (.aload_n 0, 1) := by decide +kernel
theorem dX5_advance_226 : decode cX5_advance 226 = .ok (.getfield 19, 3) := by decide +kernel
theorem dX5_advance_229 : decode cX5_advance 229 = .ok (.if_icmp .ge 71, 3) := by decide +kernel
theorem dX5_advance_232 : decode cX5_advance 232 = .ok (.aload_n 0, 1) := by decide +kernel
theorem dX5_advance_233 : decode cX5_advance 233 = .ok (.getfield 9, 3) := by decide +kernel
theorem dX5_advance_236 : decode cX5_advance 236 = .ok (.aload_n 0, 1) := by decide +kernel
theorem dX5_advance_237 : decode cX5_advance 237 = .ok (.getfield 22, 3) := by decide +kernel
theorem dX5_advance_240 : decode cX5_advance 240 = .ok (.baload, 1) := by decide +kernel
theorem dX5_advance_241 : decode cX5_advance 241 = .ok (.bipush 97, 2) := by decide +kernel
theorem dX5_advance_243 : decode cX5_advance 243 = .ok (.if_icmp .lt 57, 3) := by decide +kernel
theorem dX5_advance_246 : decode cX5_advance 246 = .ok (.aload_n 0, 1) := by decide +kernel
theorem dX5_advance_247 : decode cX5_advance 247 = .ok (.getfield 9, 3) := by decide +kernel
theorem dX5_advance_250 : decode cX5_advance 250 = .ok (.aload_n 0, 1) := by decide +kernel
theorem dX5_advance_251 : decode cX5_advance 251 = .ok (.getfield 22, 3) := by decide +kernel
theorem dX5_advance_254 : decode cX5_advance 254 = .ok (.baload, 1) := by decide +kernel
theorem dX5_advance_255 : decode cX5_advance 255 = .ok (.bipush 122, 2) := by decide +kernel
theorem dX5_advance_257 : decode cX5_advance 257 = .ok (.if_icmp .gt 43, 3) := by decide +kernel
theorem dX5_advance_260 : decode cX5_advance 260 = .ok (.aload_n 0, 1) := by decide +kernel
theorem dX5_advance_261 : decode cX5_advance 261 = .ok (.dup, 1) := by decide +kernel
theorem dX5_advance_262 : decode cX5_advance 262 = .ok (.getfield 22, 3) := by decide +kernel
theorem dX5_advance_265 : decode cX5_advance 265 = .ok (.iconst 1, 1) := by decide +kernel
theorem dX5_advance_266 : decode cX5_advance 266 = .ok (.iadd, 1) := by decide +kernel
theorem dX5_advance_267 : decode cX5_advance 267 = .ok (.putfield 22, 3) := by decide +kernel
theorem dX5_advance_270 : decode cX5_advance 270 = .ok (.goto (-49), 3) := by decide +kernel
theorem dX5_advance_273 : decode cX5_advance 273 = .ok (.aload_n 0, 1) := by decide +kernel
theorem dX5_advance_274 : decode cX5_advance 274 = .ok (.aload_n 0, 1) := by decide +kernel
theorem dX5_advance_275 : decode cX5_advance 275 = .ok (.getfield 9, 3) := by decide +kernel
theorem dX5_advance_278 : decode cX5_advance 278 = .ok (.aload_n 0, 1) := by decide +kernel
theorem dX5_advance_279 : decode cX5_advance 279 = .ok (.getfield 22, 3) := by decide +kernel
theorem dX5_advance_282 : decode cX5_advance 282 = .ok (.baload, 1) := by decide +kernel
theorem dX5_advance_283 : decode cX5_advance 283 = .ok (.sipush 255, 3) := by decide +kernel
theorem dX5_advance_286 : decode cX5_advance 286 = .ok (.iand, 1) := by decide +kernel
theorem dX5_advance_287 : decode cX5_advance 287 = .ok (.putfield 25, 3) := by decide +kernel
theorem dX5_advance_290 : decode cX5_advance 290 = .ok (.aload_n 0, 1) := by decide +kernel
theorem dX5_advance_291 : decode cX5_advance 291 = .ok (.dup, 1) := by decide +kernel
theorem dX5_advance_292 : decode cX5_advance 292 = .ok (.getfield 22, 3) := by decide +kernel
theorem dX5_advance_295 : decode cX5_advance 295 = .ok (.iconst 1, 1) := by decide +kernel
theorem dX5_advance_296 : decode cX5_advance 296 = .ok (.iadd, 1) := by decide +kernel
theorem dX5_advance_297 : decode cX5_advance 297 = .ok (.putfield 22, 3) := by decide +kernel
theorem dX5_advance_300 : decode cX5_advance 300 = .ok (.return_, 1) := by decide +kernel
theorem dX5_fail_0 : decode cX5_fail 0 = .ok (.aload_n 0, 1) := by decide +kernel
theorem dX5_fail_1 : decode cX5_fail 1 = .ok (.getfield 34, 3) := by decide +kernel
theorem dX5_fail_4 : decode cX5_fail 4 = .ok (.ifCond .ne 13, 3) := by decide +kernel
theorem dX5_fail_7 : decode cX5_fail 7 = .ok (.aload_n 0, 1) := by decide +kernel
theorem dX5_fail_8 : decode cX5_fail 8 = .ok (.iload_n 1, 1) := by decide +kernel
theorem dX5_fail_9 : decode cX5_fail 9 = .ok (.putfield 34, 3) := by decide +kernel
theorem dX5_fail_12 : decode cX5_fail 12 = .ok (.aload_n 0, 1) := by decide +kernel
theorem dX5_fail_13 : decode cX5_fail 13 = .ok (.iload_n 2, 1) := by decide +kernel
theorem dX5_fail_14 : decode cX5_fail 14 = .ok (.putfield 37, 3) := by decide +kernel
theorem dX5_fail_17 : decode cX5_fail 17 = .ok (.aload_n 0, 1) := by decide +kernel
theorem dX5_fail_18 : decode cX5_fail 18 = .ok (.aload_n 0, 1) := by decide +kernel
theorem dX5_fail_19 : decode cX5_fail 19 = .ok (.getfield 19, 3) := by decide +kernel
theorem dX5_fail_22 : decode cX5_fail 22 = .ok (.putfield 22, 3) := by decide +kernel
theorem dX5_fail_25 : decode cX5_fail 25 = .ok (.aload_n 0, 1) := by decide +kernel
theorem dX5_fail_26 : decode cX5_fail 26 = .ok (.iconst (-1), 1) := by decide +kernel
theorem dX5_fail_27 : decode cX5_fail 27 = .ok (.putfield 25, 3) := by decide +kernel
theorem dX5_fail_30 : decode cX5_fail 30 = .ok (.return_, 1) := by decide +kernel
theorem dX5_number_0 : decode cX5_number 0 = .ok (.aload_n 0, 1) := by decide +kernel
theorem dX5_number_1 : decode cX5_number 1 = .ok (.getfield 25, 3) := by decide +kernel
theorem dX5_number_4 : decode cX5_number 4 = .ok (.sipush 256, 3) := by decide +kernel
theorem dX5_number_7 : decode cX5_number 7 = .ok (.if_icmp .eq 15, 3) := by decide +kernel
theorem dX5_number_10 : decode cX5_number 10 = .ok (.aload_n 0, 1) := by decide +kernel
theorem dX5_number_11 : decode cX5_number 11 = .ok (.bipush (-2), 2) := by decide +kernel
theorem dX5_number_13 : decode cX5_number 13 = .ok (.aload_n 0, 1) := by decide +kernel
theorem dX5_number_14 : decode cX5_number 14 = .ok (.getfield 28, 3) := by decide +kernel
theorem dX5_number_17 : decode cX5_number 17 = .ok (.invokevirtual 54, 3) := by decide +kernel
theorem dX5_number_20 : decode cX5_number 20 = .ok (.iload_n 1, 1) := by decide +kernel
theorem dX5_number_21 : decode cX5_number 21 = .ok (.ireturn, 1) := by decide +kernel
theorem dX5_number_22 : decode cX5_number 22 = .ok (.aload_n 0, 1) := by decide +kernel
theorem dX5_number_23 : decode cX5_number 23 = .ok (.getfield 31, 3) := by decide +kernel
theorem dX5_number_26 : decode cX5_number 26 = .ok (.iload_n 1, 1) := by decide +kernel
theorem dX5_number_27 : decode cX5_number 27 = .ok (.if_icmp .lt 11, 3) := by decide +kernel
theorem dX5_number_30 : decode cX5_number 30 = .ok (.aload_n 0, 1) := by decide +kernel
theorem dX5_number_31 : decode cX5_number 31 = .ok (.getfield 31, 3) := by decide +kernel
theorem dX5_number_34 : decode cX5_number 34 = .ok (.iload_n 2, 1) := by decide +kernel
theorem dX5_number_35 : decode cX5_number 35 = .ok (.if_icmp .le 15, 3) := by decide +kernel
theorem dX5_number_38 : decode cX5_number 38 = .ok (.aload_n 0, 1) := by decide +kernel
theorem dX5_number_39 : decode cX5_number 39 = .ok (.bipush (-3), 2) := by decide +kernel
theorem dX5_number_41 : decode cX5_number 41 = .ok (.aload_n 0, 1) := by decide +kernel
theorem dX5_number_42 : decode cX5_number 42 = .ok (.getfield 28, 3) := by decide +kernel
theorem dX5_number_45 : decode cX5_number 45 = .ok (.invokevirtual 54, 3) := by decide +kernel
theorem dX5_number_48 : decode cX5_number 48 = .ok (.iload_n 1, 1) := by decide +kernel
theorem dX5_number_49 : decode cX5_number 49 = .ok (.ireturn, 1) := by decide +kernel
theorem dX5_number_50 : decode cX5_number 50 = .ok (.aload_n 0, 1) := by decide +kernel
theorem dX5_number_51 : decode cX5_number 51 = .ok (.getfield 31, 3) := by decide +kernel
theorem dX5_number_54 : decode cX5_number 54 = .ok (.istore_n 3, 1) := by decide +kernel
theorem dX5_number_55 : decode cX5_number 55 = .ok (.aload_n 0, 1) := by decide +kernel
theorem dX5_number_56 : decode cX5_number 56 = .ok (.invokevirtual 44, 3) := by decide +kernel
theorem dX5_number_59 : decode cX5_number 59 = .ok (.iload_n 3, 1) := by decide +kernel
theorem dX5_number_60 : decode cX5_number 60 = .ok (.ireturn, 1) := by decide +kernel
theorem dX5_sign_0 : decode cX5_sign 0 = .ok (.aload_n 0, 1) := by decide +kernel
theorem dX5_sign_1 : decode cX5_sign 1 = .ok (.getfield 25, 3) := by decide +kernel
theorem dX5_sign_4 : decode cX5_sign 4 = .ok (.iload_n 1, 1) := by decide +kernel
theorem dX5_sign_5 : decode cX5_sign 5 = .ok (.if_icmp .ne 10, 3) := by decide +kernel
theorem dX5_sign_8 : decode cX5_sign 8 = .ok (.aload_n 0, 1) := by decide +kernel
theorem dX5_sign_9 : decode cX5_sign 9 = .ok (.invokevirtual 44, 3) := by decide +kernel
theorem dX5_sign_12 : decode cX5_sign 12 = .ok (.goto 13, 3) := by decide +kernel
theorem dX5_sign_15 : decode cX5_sign 15 = .ok (.aload_n 0, 1) := by decide +kernel
theorem dX5_sign_16 : decode cX5_sign 16 = .ok (.bipush (-2), 2) := by decide +kernel
theorem dX5_sign_18 : decode cX5_sign 18 = .ok (.aload_n 0, 1) := by decide +kernel
theorem dX5_sign_19 : decode cX5_sign 19 = .ok (.getfield 28, 3) := by decide +kernel
theorem dX5_sign_22 : decode cX5_sign 22 = .ok (.invokevirtual 54, 3) := by decide +kernel
theorem dX5_sign_25 : decode cX5_sign 25 = .ok (.return_, 1) := by decide +kernel
theorem dX5_takeSign_0 : decode cX5_takeSign 0 = .ok (.aload_n 0, 1) := by decide +kernel
theorem dX5_takeSign_1 : decode cX5_takeSign 1 = .ok (.getfield 25, 3) := by decide +kernel
theorem dX5_takeSign_4 : decode cX5_takeSign 4 = .ok (.iload_n 1, 1) := by decide +kernel
theorem dX5_takeSign_5 : decode cX5_takeSign 5 = .ok (.if_icmp .ne 7, 3) := by decide +kernel
theorem dX5_takeSign_8 : decode cX5_takeSign 8 = .ok (.iconst 1, 1) := by decide +kernel
theorem dX5_takeSign_9 : decode cX5_takeSign 9 = .ok (.goto 4, 3) := by decide +kernel
theorem dX5_takeSign_12 : decode cX5_takeSign 12 = .ok (.iconst 0, 1) := by decide +kernel
theorem dX5_takeSign_13 : decode cX5_takeSign 13 = .ok (.istore_n 2, 1) := by decide +kernel
theorem dX5_takeSign_14 : decode cX5_takeSign 14 = .ok (.iload_n 2, 1) := by decide +kernel
theorem dX5_takeSign_15 : decode cX5_takeSign 15 = .ok (.ifCond .eq 7, 3) := by decide +kernel
theorem dX5_takeSign_18 : decode cX5_takeSign 18 = .ok (.aload_n 0, 1) := by decide +kernel
theorem dX5_takeSign_19 : decode cX5_takeSign 19 = .ok (.invokevirtual 44, 3) := by decide +kernel
theorem dX5_takeSign_22 : decode cX5_takeSign 22 = .ok (.iload_n 2, 1) := by decide +kernel
theorem dX5_takeSign_23 : decode cX5_takeSign 23 = .ok (.ireturn, 1) := by decide +kernel
theorem dX5_takeWord_0 : decode cX5_takeWord 0 = .ok (.aload_n 0, 1) := by decide +kernel
theorem dX5_takeWord_1 : decode cX5_takeWord 1 = .ok (.aload_n 1, 1) := by decide +kernel
theorem dX5_takeWord_2 : decode cX5_takeWord 2 = .ok (.invokevirtual 58, 3) := by decide +kernel
theorem dX5_takeWord_5 : decode cX5_takeWord 5 = .ok (.istore_n 2, 1) := by decide +kernel
theorem dX5_takeWord_6 : decode cX5_takeWord 6 = .ok (.iload_n 2, 1) := by decide +kernel
theorem dX5_takeWord_7 : decode cX5_takeWord 7 = .ok (.ifCond .eq 7, 3) := by decide +kernel
theorem dX5_takeWord_10 : decode cX5_takeWord 10 = .ok (.aload_n 0, 1) := by decide +kernel
theorem dX5_takeWord_11 : decode cX5_takeWord 11 = .ok (.invokevirtual 44, 3) := by decide +kernel
theorem dX5_takeWord_14 : decode cX5_takeWord 14 = .ok (.iload_n 2, 1) := by decide +kernel
theorem dX5_takeWord_15 : decode cX5_takeWord 15 = .ok (.ireturn, 1) := by decide +kernel
theorem dX5_isWord_0 : decode cX5_isWord 0 = .ok (.aload_n 0, 1) := by decide +kernel
theorem dX5_isWord_1 : decode cX5_isWord 1 = .ok (.getfield 25, 3) := by decide +kernel
theorem dX5_isWord_4 : decode cX5_isWord 4 = .ok (.sipush 257, 3) := by decide +kernel
theorem dX5_isWord_7 : decode cX5_isWord 7 = .ok (.if_icmp .ne 19, 3) := by decide +kernel
theorem dX5_isWord_10 : decode cX5_isWord 10 = .ok (.aload_n 0, 1) := by decide +kernel
theorem dX5_isWord_11 : decode cX5_isWord 11 = .ok (.getfield 22, 3) := by decide +kernel
theorem dX5_isWord_14 : decode cX5_isWord 14 = .ok (.aload_n 0, 1) := by decide +kernel
theorem dX5_isWord_15 : decode cX5_isWord 15 = .ok (.getfield 28, 3) := by decide +kernel
theorem dX5_isWord_18 : decode cX5_isWord 18 = .ok (.isub, 1) := by decide +kernel
theorem dX5_isWord_19 : decode cX5_isWord 19 = .ok (.aload_n 1, 1) := by decide +kernel
theorem dX5_isWord_20 : decode cX5_isWord 20 = .ok (.invokevirtual 62, 3) := by decide +kernel
theorem dX5_isWord_23 : decode cX5_isWord 23 = .ok (.if_icmp .eq 5, 3) := by decide +kernel
theorem dX5_isWord_26 : decode cX5_isWord 26 = .ok (.iconst 0, 1) := by decide +kernel
theorem dX5_isWord_27 : decode cX5_isWord 27 = .ok (.ireturn, 1) := by decide +kernel
theorem dX5_isWord_28 : decode cX5_isWord 28 = .ok (.iconst 0, 1) := by decide +kernel
theorem dX5_isWord_29 : decode cX5_isWord 29 = .ok (.istore_n 2, 1) := by decide +kernel
theorem dX5_isWord_30 : decode cX5_isWord 30 = .ok (.iload_n 2, 1) := by decide +kernel
theorem dX5_isWord_31 : decode cX5_isWord 31 = .ok (.aload_n 1, 1) := by decide +kernel
theorem dX5_isWord_32 : decode cX5_isWord 32 = .ok (.invokevirtual 62, 3) := by decide +kernel
theorem dX5_isWord_35 : decode cX5_isWord 35 = .ok (.if_icmp .ge 30, 3) := by decide +kernel
theorem dX5_isWord_38 : decode cX5_isWord 38 = .ok (.aload_n 0, 1) := by decide +kernel
theorem dX5_isWord_39 : decode cX5_isWord 39 = .ok (.getfield 9, 3) := by decide +kernel
theorem dX5_isWord_42 : decode cX5_isWord 42 = .ok (.aload_n 0, 1) := by decide +kernel
theorem dX5_isWord_43 : decode cX5_isWord 43 = .ok (.getfield 28, 3) := by decide +kernel
theorem dX5_isWord_46 : decode cX5_isWord 46 = .ok (.iload_n 2, 1) := by decide +kernel
theorem dX5_isWord_47 : decode cX5_isWord 47 = .ok (.iadd, 1) := by decide +kernel
theorem dX5_isWord_48 : decode cX5_isWord 48 = .ok (.baload, 1) := by decide +kernel
theorem dX5_isWord_49 : decode cX5_isWord 49 = .ok (.aload_n 1, 1) := by decide +kernel
theorem dX5_isWord_50 : decode cX5_isWord 50 = .ok (.iload_n 2, 1) := by decide +kernel
theorem dX5_isWord_51 : decode cX5_isWord 51 = .ok (.invokevirtual 67, 3) := by decide +kernel
theorem dX5_isWord_54 : decode cX5_isWord 54 = .ok (.if_icmp .eq 5, 3) := by decide +kernel
theorem dX5_isWord_57 : decode cX5_isWord 57 = .ok (.iconst 0, 1) := by decide +kernel
theorem dX5_isWord_58 : decode cX5_isWord 58 = .ok (.ireturn, 1) := by decide +kernel
theorem dX5_isWord_59 : decode cX5_isWord 59 = .ok (.iinc 2 1, 3) := by decide +kernel
theorem dX5_isWord_62 : decode cX5_isWord 62 = .ok (.goto (-32), 3) := by decide +kernel
theorem dX5_isWord_65 : decode cX5_isWord 65 = .ok (.iconst 1, 1) := by decide +kernel
theorem dX5_isWord_66 : decode cX5_isWord 66 = .ok (.ireturn, 1) := by decide +kernel
theorem dX6_init_0 : decode cX6_init 0 = .ok (.aload_n 0, 1) := by decide +kernel
theorem dX6_init_1 : decode cX6_init 1 = .ok (.invokespecial 3, 3) := by decide +kernel
theorem dX6_init_4 : decode cX6_init 4 = .ok (.aload_n 0, 1) := by decide +kernel
theorem dX6_init_5 : decode cX6_init 5 = .ok (.new 9, 3) := by decide +kernel
theorem dX6_init_8 : decode cX6_init 8 = .ok (.dup, 1) := by decide +kernel
theorem dX6_init_9 : decode cX6_init 9 = .ok (.invokespecial 11, 3) := by decide +kernel
theorem dX6_init_12 : decode cX6_init 12 = .ok (.putfield 12, 3) := by decide +kernel
theorem dX6_init_15 : decode cX6_init 15 = .ok (.aload_n 0, 1) := by decide +kernel
theorem dX6_init_16 : decode cX6_init 16 = .ok (.new 18, 3) := by decide +kernel
theorem dX6_init_19 : decode cX6_init 19 = .ok (.dup, 1) := by decide +kernel
theorem dX6_init_20 : decode cX6_init 20 = .ok (.invokespecial 20, 3) := by decide +kernel
theorem dX6_init_23 : decode cX6_init 23 = .ok (.putfield 21, 3) := by decide +kernel
theorem dX6_init_26 : decode cX6_init 26 = .ok (.aload_n 0, 1) := by decide +kernel
theorem dX6_init_27 : decode cX6_init 27 = .ok (.new 25, 3) := by decide +kernel
theorem dX6_init_30 : decode cX6_init 30 = .ok (.dup, 1) := by decide +kernel
theorem dX6_init_31 : decode cX6_init 31 = .ok (.invokespecial 27, 3) := by decide +kernel
theorem dX6_init_34 : decode cX6_init 34 = .ok (.putfield 28, 3) := by decide +kernel
theorem dX6_init_37 : decode cX6_init 37 = .ok (.aload_n 0, 1) := by decide +kernel
theorem dX6_init_38 : decode cX6_init 38 = .ok (.iconst 0, 1) := by decide +kernel
theorem dX6_init_39 : decode cX6_init 39 = .ok (.putfield 32, 3) := by decide +kernel
theorem dX6_init_42 : decode cX6_init 42 = .ok (.aload_n 0, 1) := by decide +kernel
theorem dX6_init_43 : decode cX6_init 43 = .ok (.iconst 0, 1) := by decide +kernel
theorem dX6_init_44 : decode cX6_init 44 = .ok (.putfield 36, 3) := by decide +kernel
theorem dX6_init_47 : decode cX6_init 47 = .ok (.return_, 1) := by decide +kernel
theorem dX6_read_0 : decode cX6_read 0 = .ok (.aload_n 0, 1) := by decide +kernel
theorem dX6_read_1 : decode cX6_read 1 = .ok (.getfield 12, 3) := by decide +kernel
theorem dX6_read_4 : decode cX6_read 4 = .ok (.iload_n 1, 1) := by decide +kernel
theorem dX6_read_5 : decode cX6_read 5 = .ok (.invokevirtual 39, 3) := by decide +kernel
theorem dX6_read_8 : decode cX6_read 8 = .ok (.aload_n 0, 1) := by decide +kernel
theorem dX6_read_9 : decode cX6_read 9 = .ok (.iconst 0, 1) := by decide +kernel
theorem dX6_read_10 : decode cX6_read 10 = .ok (.putfield 32, 3) := by decide +kernel
theorem dX6_read_13 : decode cX6_read 13 = .ok (.aload_n 0, 1) := by decide +kernel
theorem dX6_read_14 : decode cX6_read 14 = .ok (.getfield 28, 3) := by decide +kernel
theorem dX6_read_17 : decode cX6_read 17 = .ok (.getfield 43, 3) := by decide +kernel
theorem dX6_read_20 : decode cX6_read 20 = .ok (.invokevirtual 47, 3) := by decide +kernel
theorem dX6_read_23 : decode cX6_read 23 = .ok (.aload_n 0, 1) := by decide +kernel
theorem dX6_read_24 : decode cX6_read 24 = .ok (.invokevirtual 52, 3) := by decide +kernel
theorem dX6_read_27 : decode cX6_read 27 = .ok (.iconst 0, 1) := by decide +kernel
theorem dX6_read_28 : decode cX6_read 28 = .ok (.istore_n 2, 1) := by decide +kernel
theorem dX6_read_29 : decode cX6_read 29 = .ok (.iload_n 2, 1) := by decide +kernel
theorem dX6_read_30 : decode cX6_read 30 = .ok (.iload_n 1, 1) := by decide +kernel
theorem dX6_read_31 : decode cX6_read 31 = .ok (.if_icmp .ge 33, 3) := by decide +kernel
theorem dX6_read_34 : decode cX6_read 34 = .ok (.aload_n 0, 1) := by decide +kernel
theorem dX6_read_35 : decode cX6_read 35 = .ok (.getfield 12, 3) := by decide +kernel
theorem dX6_read_38 : decode cX6_read 38 = .ok (.getfield 55, 3) := by decide +kernel
theorem dX6_read_41 : decode cX6_read 41 = .ok (.iconst (-1), 1) := by decide +kernel
theorem dX6_read_42 : decode cX6_read 42 = .ok (.if_icmp .eq 22, 3) := by decide +kernel
theorem dX6_read_45 : decode cX6_read 45 = .ok (.aload_n 0, 1) := by decide +kernel
theorem dX6_read_46 : decode cX6_read 46 = .ok (.invokevirtual 58, 3) := by decide +kernel
theorem dX6_read_49 : decode cX6_read 49 = .ok (.aload_n 0, 1) := by decide +kernel
theorem dX6_read_50 : decode cX6_read 50 = .ok (.getfield 12, 3) := by decide +kernel
theorem dX6_read_53 : decode cX6_read 53 = .ok (.bipush 59, 2) := by decide +kernel
theorem dX6_read_55 : decode cX6_read 55 = .ok (.invokevirtual 61, 3) := by decide +kernel
theorem dX6_read_58 : decode cX6_read 58 = .ok (.iinc 2 1, 3) := by decide +kernel
theorem dX6_read_61 : decode cX6_read 61 = .ok (.goto (-32), 3) := by decide +kernel
theorem dX6_read_64 : decode cX6_read 64 = .ok (.aload_n 0, 1) := by decide +kernel
theorem dX6_read_65 : decode cX6_read 65 = .ok (.getfield 12, 3) := by decide +kernel
theorem dX6_read_68 : decode cX6_read 68 = .ok (.getfield 65, 3) := by decide +kernel
theorem dX6_read_71 : decode cX6_read 71 = .ok (.ifCond .ne 17, 3) := by decide +kernel
theorem dX6_read_74 : decode cX6_read 74 = .ok (.aload_n 0, 1) := by decide +kernel
theorem dX6_read_75 : decode cX6_read 75 = .ok (.getfield 32, 3) := by decide +kernel
theorem dX6_read_78 : decode cX6_read 78 = .ok (.bipush 64, 2) := by decide +kernel
theorem dX6_read_80 : decode cX6_read 80 = .ok (.iand, 1) := by decide +kernel
theorem dX6_read_81 : decode cX6_read 81 = .ok (.ifCond .eq 7, 3) := by decide +kernel
theorem dX6_read_84 : decode cX6_read 84 = .ok (.aload_n 0, 1) := by decide +kernel
theorem dX6_read_85 : decode cX6_read 85 = .ok (.invokevirtual 68, 3) := by decide +kernel
theorem dX6_read_88 : decode cX6_read 88 = .ok (.aload_n 0, 1) := by decide +kernel
theorem dX6_read_89 : decode cX6_read 89 = .ok (.getfield 12, 3) := by decide +kernel
theorem dX6_read_92 : decode cX6_read 92 = .ok (.getfield 65, 3) := by decide +kernel
theorem dX6_read_95 : decode cX6_read 95 = .ok (.ireturn, 1) := by decide +kernel
theorem dX6_readContract_0 : decode cX6_readContract 0 = .ok (.aload_n 0, 1) := by decide +kernel
theorem dX6_readContract_1 : decode cX6_readContract 1 = .ok (.getfield 28, 3) := by decide +kernel
theorem dX6_readContract_4 : decode cX6_readContract 4 = .ok (.getfield 43, 3) := by decide +kernel
theorem dX6_readContract_7 : decode cX6_readContract 7 = .ok (.astore_n 1, 1) := by decide +kernel
theorem dX6_readContract_8 : decode cX6_readContract 8 = .ok (.aload_n 0, 1) := by decide +kernel
theorem dX6_readContract_9 : decode cX6_readContract 9 = .ok (.getfield 12, 3) := by decide +kernel
theorem dX6_readContract_12 : decode cX6_readContract 12 = .ok (.ldc 71, 2) := by decide +kernel
theorem dX6_readContract_14 : decode cX6_readContract 14 = .ok (.invokevirtual 73, 3) := by decide +kernel
theorem dX6_readContract_17 : decode cX6_readContract 17 = .ok (.ifCond .ne 19, 3) := by decide +kernel
theorem dX6_readContract_20 : decode cX6_readContract 20 = .ok (.aload_n 0, 1) := by decide +kernel
theorem dX6_readContract_21 : decode cX6_readContract 21 = .ok (.getfield 12, 3) := by decide +kernel
theorem dX6_readContract_24 : decode cX6_readContract 24 = .ok (.bipush (-2), 2) := by decide +kernel
theorem dX6_readContract_26 : decode cX6_readContract 26 = .ok (.aload_n 0, 1) := by decide +kernel
theorem dX6_readContract_27 : decode cX6_readContract 27 = .ok (.getfield 12, 3) := by decide +kernel
theorem dX6_readContract_30 : decode cX6_readContract 30 = .ok (.getfield 77, 3) := by decide +kernel
theorem dX6_readContract_33 : decode cX6_readContract 33 = .ok (.invokevirtual 80, 3) := by decide +kernel
theorem dX6_readContract_36 : decode cX6_readContract 36 = .ok (.aload_n 1, 1) := by decide +kernel
theorem dX6_readContract_37 : decode cX6_readContract 37 = .ok (.aload_n 0, 1) := by decide +kernel
theorem dX6_readContract_38 : decode cX6_readContract 38 = .ok (.getfield 12, 3) := by decide +kernel
theorem dX6_readContract_41 : decode cX6_readContract 41 = .ok (.iconst 2, 1) := by decide +kernel
theorem dX6_readContract_42 : decode cX6_readContract 42 = .ok (.bipush 40, 2) := by decide +kernel
theorem dX6_readContract_44 : decode cX6_readContract 44 = .ok (.invokevirtual 84, 3) := by decide +kernel
theorem dX6_readContract_47 : decode cX6_readContract 47 = .ok (.putfield 88, 3) := by decide +kernel
theorem dX6_readContract_50 : decode cX6_readContract 50 = .ok (.aload_n 0, 1) := by decide +kernel
theorem dX6_readContract_51 : decode cX6_readContract 51 = .ok (.getfield 28, 3) := by decide +kernel
theorem dX6_readContract_54 : decode cX6_readContract 54 = .ok (.getfield 91, 3) := by decide +kernel
theorem dX6_readContract_57 : decode cX6_readContract 57 = .ok (.aload_n 0, 1) := by decide +kernel
theorem dX6_readContract_58 : decode cX6_readContract 58 = .ok (.getfield 12, 3) := by decide +kernel
theorem dX6_readContract_61 : decode cX6_readContract 61 = .ok (.iconst 0, 1) := by decide +kernel
theorem dX6_readContract_62 : decode cX6_readContract 62 = .ok (.sipush 9999, 3) := by decide +kernel
theorem dX6_readContract_65 : decode cX6_readContract 65 = .ok (.invokevirtual 84, 3) := by decide +kernel
theorem dX6_readContract_68 : decode cX6_readContract 68 = .ok (.invokevirtual 95, 3) := by decide +kernel
theorem dX6_readContract_71 : decode cX6_readContract 71 = .ok (.aload_n 1, 1) := by decide +kernel
theorem dX6_readContract_72 : decode cX6_readContract 72 = .ok (.aload_n 0, 1) := by decide +kernel
theorem dX6_readContract_73 : decode cX6_readContract 73 = .ok (.getfield 12, 3) := by decide +kernel
theorem dX6_readContract_76 : decode cX6_readContract 76 = .ok (.iconst 0, 1) := by decide +kernel
theorem dX6_readContract_77 : decode cX6_readContract 77 = .ok (.sipush 999, 3) := by decide +kernel
theorem dX6_readContract_80 : decode cX6_readContract 80 = .ok (.invokevirtual 84, 3) := by decide +kernel
theorem dX6_readContract_83 : decode cX6_readContract 83 = .ok (.putfield 99, 3) := by decide +kernel
theorem dX6_readContract_86 : decode cX6_readContract 86 = .ok (.aload_n 1, 1) := by decide +kernel
theorem dX6_readContract_87 : decode cX6_readContract 87 = .ok (.aload_n 0, 1) := by decide +kernel
theorem dX6_readContract_88 : decode cX6_readContract 88 = .ok (.getfield 12, 3) := by decide +kernel
theorem dX6_readContract_91 : decode cX6_readContract 91 = .ok (.iconst 0, 1) := by decide +kernel
theorem dX6_readContract_92 : decode cX6_readContract 92 = .ok (.bipush 99, 2) := by decide +kernel
theorem dX6_readContract_94 : decode cX6_readContract 94 = .ok (.invokevirtual 84, 3) := by decide +kernel
theorem dX6_readContract_97 : decode cX6_readContract 97 = .ok (.putfield 102, 3) := by decide +kernel
theorem dX6_readContract_100 : decode cX6_readContract 100 = .ok (.aload_n 0, 1) := by decide +kernel
theorem dX6_readContract_101 : decode cX6_readContract 101 = .ok (.getfield 12, 3) := by decide +kernel
theorem dX6_readContract_104 : decode cX6_readContract 104 = .ok (.bipush 59, 2) := by decide +kernel
theorem dX6_readContract_106 : decode cX6_readContract 106 = .ok (.invokevirtual 61, 3) := by decide +kernel
theorem dX6_readContract_109 : decode cX6_readContract 109 = .ok (.return_, 1) := by decide +kernel
theorem dX6_readStatement_0 : decode cX6_readStatement 0 = .ok (.aload_n 0, 1) := by decide +kernel
theorem dX6_readStatement_1 : decode cX6_readStatement 1 = .ok (.getfield 28, 3) := by decide +kernel
theorem dX6_readStatement_4 : decode cX6_readStatement 4 = .ok (.getfield 43, 3) := by decide +kernel
theorem dX6_readStatement_7 : decode cX6_readStatement 7 = .ok (.astore_n 1, 1) := by decide +kernel
theorem dX6_readStatement_8 : decode cX6_readStatement 8 = .ok (.aload_n 0, 1) := by decide +kernel
theorem dX6_readStatement_9 : decode cX6_readStatement 9 = .ok (.getfield 12, 3) := by decide +kernel
theorem dX6_readStatement_12 : decode cX6_readStatement 12 = .ok (.ldc 105, 2) := by decide +kernel
theorem dX6_readStatement_14 : decode cX6_readStatement 14 = .ok (.invokevirtual 73, 3) := by decide +kernel
theorem dX6_readStatement_17 : decode cX6_readStatement 17 = .ok (.ifCond .eq 10, 3) := by decide +kernel
theorem dX6_readStatement_20 : decode cX6_readStatement 20 = .ok (.aload_n 0, 1) := by decide +kernel
theorem dX6_readStatement_21 : decode cX6_readStatement 21 = .ok (.invokevirtual 107, 3) := by decide +kernel
theorem dX6_readStatement_24 : decode cX6_readStatement 24 = .ok (.goto 242, 3) := by decide +kernel
theorem dX6_readStatement_27 : decode cX6_readStatement 27 = .ok (.aload_n 0, 1) := by decide +kernel
theorem dX6_readStatement_28 : decode cX6_readStatement 28 = .ok (.ldc 110, 2) := by decide +kernel
theorem dX6_readStatement_30 : decode cX6_readStatement 30 = .ok (.iconst 1, 1) := by decide +kernel
theorem dX6_readStatement_31 : decode cX6_readStatement 31 = .ok (.invokevirtual 112, 3) := by decide +kernel
theorem dX6_readStatement_34 : decode cX6_readStatement 34 = .ok (.ifCond .eq 36, 3) := by decide +kernel
theorem dX6_readStatement_37 : decode cX6_readStatement 37 = .ok (.aload_n 1, 1) := by decide +kernel
theorem dX6_readStatement_38 : decode cX6_readStatement 38 = .ok (.aload_n 0, 1) := by decide +kernel
theorem dX6_readStatement_39 : decode cX6_readStatement 39 = .ok (.getfield 12, 3) := by decide +kernel
theorem dX6_readStatement_42 : decode cX6_readStatement 42 = .ok (.iconst 0, 1) := by decide +kernel
theorem dX6_readStatement_43 : decode cX6_readStatement 43 = .ok (.sipush 9999, 3) := by decide +kernel
theorem dX6_readStatement_46 : decode cX6_readStatement 46 = .ok (.invokevirtual 84, 3) := by decide +kernel
theorem dX6_readStatement_49 : decode cX6_readStatement 49 = .ok (.putfield 116, 3) := by decide +kernel
theorem dX6_readStatement_52 : decode cX6_readStatement 52 = .ok (.aload_n 1, 1) := by decide +kernel
theorem dX6_readStatement_53 : decode cX6_readStatement 53 = .ok (.aload_n 0, 1) := by decide +kernel
theorem dX6_readStatement_54 : decode cX6_readStatement 54 = .ok (.getfield 12, 3) := by decide +kernel
theorem dX6_readStatement_57 : decode cX6_readStatement 57 = .ok (.iconst 0, 1) := by decide +kernel
theorem dX6_readStatement_58 : decode cX6_readStatement 58 = .ok (.sipush 999, 3) := by decide +kernel
theorem dX6_readStatement_61 : decode cX6_readStatement 61 = .ok (.invokevirtual 84, 3) := by decide +kernel
theorem dX6_readStatement_64 : decode cX6_readStatement 64 = .ok (.putfield 119, 3) := by decide +kernel
theorem dX6_readStatement_67 : decode cX6_readStatement 67 = .ok (.goto 199, 3) := by decide +kernel
theorem dX6_readStatement_70 : decode cX6_readStatement 70 = .ok (.aload_n 0, 1) := by decide +kernel
theorem dX6_readStatement_71 : decode cX6_readStatement 71 = .ok (.ldc 122, 2) := by decide +kernel
theorem dX6_readStatement_73 : decode cX6_readStatement 73 = .ok (.iconst 2, 1) := by decide +kernel
theorem dX6_readStatement_74 : decode cX6_readStatement 74 = .ok (.invokevirtual 112, 3) := by decide +kernel
theorem dX6_readStatement_77 : decode cX6_readStatement 77 = .ok (.ifCond .eq 10, 3) := by decide +kernel
theorem dX6_readStatement_80 : decode cX6_readStatement 80 = .ok (.aload_n 0, 1) := by decide +kernel
theorem dX6_readStatement_81 : decode cX6_readStatement 81 = .ok (.invokevirtual 124, 3) := by decide +kernel
theorem dX6_readStatement_84 : decode cX6_readStatement 84 = .ok (.goto 182, 3) := by decide +kernel
theorem dX6_readStatement_87 : decode cX6_readStatement 87 = .ok (.aload_n 0, 1) := by decide +kernel
theorem dX6_readStatement_88 : decode cX6_readStatement 88 = .ok (.ldc 127, 2) := by decide +kernel
theorem dX6_readStatement_90 : decode cX6_readStatement 90 = .ok (.iconst 4, 1) := by decide +kernel
theorem dX6_readStatement_91 : decode cX6_readStatement 91 = .ok (.invokevirtual 112, 3) := by decide +kernel
theorem dX6_readStatement_94 : decode cX6_readStatement 94 = .ok (.ifCond .eq 20, 3) := by decide +kernel
theorem dX6_readStatement_97 : decode cX6_readStatement 97 = .ok (.aload_n 1, 1) := by decide +kernel
theorem dX6_readStatement_98 : decode cX6_readStatement 98 = .ok (.aload_n 0, 1) := by decide +kernel
theorem dX6_readStatement_99 : decode cX6_readStatement 99 = .ok (.getfield 12, 3) := by decide +kernel
theorem dX6_readStatement_102 : decode cX6_readStatement 102 = .ok (.iconst 0, 1) := by decide +kernel
theorem dX6_readStatement_103 : decode cX6_readStatement 103 = .ok (.bipush 6, 2) := by decide +kernel
theorem dX6_readStatement_105 : decode cX6_readStatement 105 = .ok (.invokevirtual 84, 3) := by decide +kernel
theorem dX6_readStatement_108 : decode cX6_readStatement 108 = .ok (.putfield 129, 3) := by decide +kernel
theorem dX6_readStatement_111 : decode cX6_readStatement 111 = .ok (.goto 155, 3) := by decide +kernel
theorem dX6_readStatement_114 : decode cX6_readStatement 114 = .ok (.aload_n 0, 1) := by decide +kernel
theorem dX6_readStatement_115 : decode cX6_readStatement 115 = .ok (.ldc 131, 2) := by decide +kernel
theorem dX6_readStatement_117 : decode cX6_readStatement 117 = .ok (.bipush 8, 2) := by decide +kernel
theorem dX6_readStatement_119 : decode cX6_readStatement 119 = .ok (.invokevirtual 112, 3) := by decide +kernel
theorem dX6_readStatement_122 : decode cX6_readStatement 122 = .ok (.ifCond .eq 20, 3) := by decide +kernel
theorem dX6_readStatement_125 : decode cX6_readStatement 125 = .ok (.aload_n 1, 1) := by decide +kernel
theorem dX6_readStatement_126 : decode cX6_readStatement 126 = .ok (.aload_n 0, 1) := by decide +kernel
theorem dX6_readStatement_127 : decode cX6_readStatement 127 = .ok (.getfield 12, 3) := by decide +kernel
theorem dX6_readStatement_130 : decode cX6_readStatement 130 = .ok (.iconst 0, 1) := by decide +kernel
theorem dX6_readStatement_131 : decode cX6_readStatement 131 = .ok (.bipush 100, 2) := by decide +kernel
theorem dX6_readStatement_133 : decode cX6_readStatement 133 = .ok (.invokevirtual 84, 3) := by decide +kernel
theorem dX6_readStatement_136 : decode cX6_readStatement 136 = .ok (.putfield 133, 3) := by decide +kernel
theorem dX6_readStatement_139 : decode cX6_readStatement 139 = .ok (.goto 127, 3) := by decide +kernel
theorem dX6_readStatement_142 : decode cX6_readStatement 142 = .ok (.aload_n 0, 1) := by decide +kernel
theorem dX6_readStatement_143 : decode cX6_readStatement 143 = .ok (.ldc 135, 2) := by decide +kernel
theorem dX6_readStatement_145 : decode cX6_readStatement 145 = .ok (.bipush 16, 2) := by decide +kernel
theorem dX6_readStatement_147 : decode cX6_readStatement 147 = .ok (.invokevirtual 112, 3) := by decide +kernel
theorem dX6_readStatement_150 : decode cX6_readStatement 150 = .ok (.ifCond .eq 21, 3) := by decide +kernel
theorem dX6_readStatement_153 : decode cX6_readStatement 153 = .ok (.aload_n 1, 1) := by decide +kernel
theorem dX6_readStatement_154 : decode cX6_readStatement 154 = .ok (.aload_n 0, 1) := by decide +kernel
theorem dX6_readStatement_155 : decode cX6_readStatement 155 = .ok (.getfield 12, 3) := by decide +kernel
theorem dX6_readStatement_158 : decode cX6_readStatement 158 = .ok (.iconst 0, 1) := by decide +kernel
theorem dX6_readStatement_159 : decode cX6_readStatement 159 = .ok (.sipush 999, 3) := by decide +kernel
theorem dX6_readStatement_162 : decode cX6_readStatement 162 = .ok (.invokevirtual 84, 3) := by decide +kernel
theorem dX6_readStatement_165 : decode cX6_readStatement 165 = .ok (.putfield 137, 3) := by decide +kernel
theorem dX6_readStatement_168 : decode cX6_readStatement 168 = .ok (.goto 98, 3) := by decide +kernel
theorem dX6_readStatement_171 : decode cX6_readStatement 171 = .ok (.aload_n 0, 1) := by decide +kernel
theorem dX6_readStatement_172 : decode cX6_readStatement 172 = .ok (.ldc 140, 2) := by decide +kernel
theorem dX6_readStatement_174 : decode cX6_readStatement 174 = .ok (.bipush 32, 2) := by decide +kernel
theorem dX6_readStatement_176 : decode cX6_readStatement 176 = .ok (.invokevirtual 112, 3) := by decide +kernel
theorem dX6_readStatement_179 : decode cX6_readStatement 179 = .ok (.ifCond .eq 33, 3) := by decide +kernel
theorem dX6_readStatement_182 : decode cX6_readStatement 182 = .ok (.aload_n 1, 1) := by decide +kernel
theorem dX6_readStatement_183 : decode cX6_readStatement 183 = .ok (.aload_n 0, 1) := by decide +kernel
theorem dX6_readStatement_184 : decode cX6_readStatement 184 = .ok (.getfield 12, 3) := by decide +kernel
theorem dX6_readStatement_187 : decode cX6_readStatement 187 = .ok (.iconst 0, 1) := by decide +kernel
theorem dX6_readStatement_188 : decode cX6_readStatement 188 = .ok (.iconst 4, 1) := by decide +kernel
theorem dX6_readStatement_189 : decode cX6_readStatement 189 = .ok (.invokevirtual 84, 3) := by decide +kernel
theorem dX6_readStatement_192 : decode cX6_readStatement 192 = .ok (.putfield 142, 3) := by decide +kernel
theorem dX6_readStatement_195 : decode cX6_readStatement 195 = .ok (.aload_n 1, 1) := by decide +kernel
theorem dX6_readStatement_196 : decode cX6_readStatement 196 = .ok (.aload_n 0, 1) := by decide +kernel
theorem dX6_readStatement_197 : decode cX6_readStatement 197 = .ok (.getfield 12, 3) := by decide +kernel
theorem dX6_readStatement_200 : decode cX6_readStatement 200 = .ok (.iconst 0, 1) := by decide +kernel
theorem dX6_readStatement_201 : decode cX6_readStatement 201 = .ok (.bipush 40, 2) := by decide +kernel
theorem dX6_readStatement_203 : decode cX6_readStatement 203 = .ok (.invokevirtual 84, 3) := by decide +kernel
theorem dX6_readStatement_206 : decode cX6_readStatement 206 = .ok (.putfield 144, 3) := by decide +kernel
theorem dX6_readStatement_209 : decode cX6_readStatement 209 = .ok (.goto 57, 3) := by decide +kernel
theorem dX6_readStatement_212 : decode cX6_readStatement 212 = .ok (.aload_n 0, 1) := by decide +kernel
theorem dX6_readStatement_213 : decode cX6_readStatement 213 = .ok (.ldc 147, 2) := by decide +kernel
theorem dX6_readStatement_215 : decode cX6_readStatement 215 = .ok (.bipush 64, 2) := by decide +kernel
theorem dX6_readStatement_217 : decode cX6_readStatement 217 = .ok (.invokevirtual 112, 3) := by decide +kernel
theorem dX6_readStatement_220 : decode cX6_readStatement 220 = .ok (.ifCond .eq 30, 3) := by decide +kernel
theorem dX6_readStatement_223 : decode cX6_readStatement 223 = .ok (.aload_n 0, 1) := by decide +kernel
theorem dX6_readStatement_224 : decode cX6_readStatement 224 = .ok (.aload_n 0, 1) := by decide +kernel
theorem dX6_readStatement_225 : decode cX6_readStatement 225 = .ok (.getfield 12, 3) := by decide +kernel
theorem dX6_readStatement_228 : decode cX6_readStatement 228 = .ok (.getfield 77, 3) := by decide +kernel
theorem dX6_readStatement_231 : decode cX6_readStatement 231 = .ok (.putfield 36, 3) := by decide +kernel
theorem dX6_readStatement_234 : decode cX6_readStatement 234 = .ok (.aload_n 0, 1) := by decide +kernel
theorem dX6_readStatement_235 : decode cX6_readStatement 235 = .ok (.getfield 21, 3) := by decide +kernel
theorem dX6_readStatement_238 : decode cX6_readStatement 238 = .ok (.aload_n 0, 1) := by decide +kernel
theorem dX6_readStatement_239 : decode cX6_readStatement 239 = .ok (.getfield 12, 3) := by decide +kernel
theorem dX6_readStatement_242 : decode cX6_readStatement 242 = .ok (.iconst 0, 1) := by decide +kernel
theorem dX6_readStatement_243 : decode cX6_readStatement 243 = .ok (.invokevirtual 148, 3) := by decide +kernel
theorem dX6_readStatement_246 : decode cX6_readStatement 246 = .ok (.pop2, 1) := by decide +kernel
theorem dX6_readStatement_247 : decode cX6_readStatement 247 = .ok (.goto 19, 3) := by decide +kernel
theorem dX6_readStatement_250 : decode cX6_readStatement 250 = .ok (.aload_n 0, 1) := by decide +kernel
theorem dX6_readStatement_251 : decode cX6_readStatement 251 = .ok (.getfield 12, 3) := by decide +kernel
theorem dX6_readStatement_254 : decode cX6_readStatement 254 = .ok (.bipush (-2), 2) := by decide +kernel
theorem dX6_readStatement_256 : decode cX6_readStatement 256 = .ok (.aload_n 0, 1) := by decide +kernel
theorem dX6_readStatement_257 : decode cX6_readStatement 257 = .ok (.getfield 12, 3) := by decide +kernel
theorem dX6_readStatement_260 : decode cX6_readStatement 260 = .ok (.getfield 77, 3) := by decide +kernel
theorem dX6_readStatement_263 : decode cX6_readStatement 263 = .ok (.invokevirtual 80, 3) := by decide +kernel
theorem dX6_readStatement_266 : decode cX6_readStatement 266 = .ok (.return_, 1) := by decide +kernel
theorem dX6_takeFirst_0 : decode cX6_takeFirst 0 = .ok (.aload_n 0, 1) := by decide +kernel
theorem dX6_takeFirst_1 : decode cX6_takeFirst 1 = .ok (.getfield 32, 3) := by decide +kernel
theorem dX6_takeFirst_4 : decode cX6_takeFirst 4 = .ok (.iload_n 2, 1) := by decide +kernel
theorem dX6_takeFirst_5 : decode cX6_takeFirst 5 = .ok (.iand, 1) := by decide +kernel
theorem dX6_takeFirst_6 : decode cX6_takeFirst 6 = .ok (.ifCond .ne 14, 3) := by decide +kernel
theorem dX6_takeFirst_9 : decode cX6_takeFirst 9 = .ok (.aload_n 0, 1) := by decide +kernel
theorem dX6_takeFirst_10 : decode cX6_takeFirst 10 = .ok (.getfield 12, 3) := by decide +kernel
theorem dX6_takeFirst_13 : decode cX6_takeFirst 13 = .ok (.aload_n 1, 1) := by decide +kernel
theorem dX6_takeFirst_14 : decode cX6_takeFirst 14 = .ok (.invokevirtual 73, 3) := by decide +kernel
theorem dX6_takeFirst_17 : decode cX6_takeFirst 17 = .ok (.ifCond .ne 5, 3) := by decide +kernel
theorem dX6_takeFirst_20 : decode cX6_takeFirst 20 = .ok (.iconst 0, 1) := by decide +kernel
theorem dX6_takeFirst_21 : decode cX6_takeFirst 21 = .ok (.ireturn, 1) := by decide +kernel
theorem dX6_takeFirst_22 : decode cX6_takeFirst 22 = .ok (.aload_n 0, 1) := by decide +kernel
theorem dX6_takeFirst_23 : decode cX6_takeFirst 23 = .ok (.dup, 1) := by decide +kernel
theorem dX6_takeFirst_24 : decode cX6_takeFirst 24 = .ok (.getfield 32, 3) := by decide +kernel
theorem dX6_takeFirst_27 : decode cX6_takeFirst 27 = .ok (.iload_n 2, 1) := by decide +kernel
theorem dX6_takeFirst_28 : decode cX6_takeFirst 28 = .ok (.ior, 1) := by decide +kernel
theorem dX6_takeFirst_29 : decode cX6_takeFirst 29 = .ok (.putfield 32, 3) := by decide +kernel
theorem dX6_takeFirst_32 : decode cX6_takeFirst 32 = .ok (.iconst 1, 1) := by decide +kernel
theorem dX6_takeFirst_33 : decode cX6_takeFirst 33 = .ok (.ireturn, 1) := by decide +kernel
theorem dX6_readBand_0 : decode cX6_readBand 0 = .ok (.aload_n 0, 1) := by decide +kernel
theorem dX6_readBand_1 : decode cX6_readBand 1 = .ok (.getfield 28, 3) := by decide +kernel
theorem dX6_readBand_4 : decode cX6_readBand 4 = .ok (.getfield 43, 3) := by decide +kernel
theorem dX6_readBand_7 : decode cX6_readBand 7 = .ok (.astore_n 1, 1) := by decide +kernel
theorem dX6_readBand_8 : decode cX6_readBand 8 = .ok (.aload_n 0, 1) := by decide +kernel
theorem dX6_readBand_9 : decode cX6_readBand 9 = .ok (.getfield 12, 3) := by decide +kernel
theorem dX6_readBand_12 : decode cX6_readBand 12 = .ok (.getfield 77, 3) := by decide +kernel
theorem dX6_readBand_15 : decode cX6_readBand 15 = .ok (.istore_n 2, 1) := by decide +kernel
theorem dX6_readBand_16 : decode cX6_readBand 16 = .ok (.aload_n 0, 1) := by decide +kernel
theorem dX6_readBand_17 : decode cX6_readBand 17 = .ok (.getfield 12, 3) := by decide +kernel
theorem dX6_readBand_20 : decode cX6_readBand 20 = .ok (.iconst 0, 1) := by decide +kernel
theorem dX6_readBand_21 : decode cX6_readBand 21 = .ok (.bipush 39, 2) := by decide +kernel
theorem dX6_readBand_23 : decode cX6_readBand 23 = .ok (.invokevirtual 84, 3) := by decide +kernel
theorem dX6_readBand_26 : decode cX6_readBand 26 = .ok (.istore_n 3, 1) := by decide +kernel
theorem dX6_readBand_27 : decode cX6_readBand 27 = .ok (.aload_n 1, 1) := by decide +kernel
theorem dX6_readBand_28 : decode cX6_readBand 28 = .ok (.iload_n 3, 1) := by decide +kernel
theorem dX6_readBand_29 : decode cX6_readBand 29 = .ok (.invokevirtual 152, 3) := by decide +kernel
theorem dX6_readBand_32 : decode cX6_readBand 32 = .ok (.ifCond .eq 13, 3) := by decide +kernel
theorem dX6_readBand_35 : decode cX6_readBand 35 = .ok (.aload_n 0, 1) := by decide +kernel
theorem dX6_readBand_36 : decode cX6_readBand 36 = .ok (.getfield 12, 3) := by decide +kernel
theorem dX6_readBand_39 : decode cX6_readBand 39 = .ok (.bipush (-3), 2) := by decide +kernel
theorem dX6_readBand_41 : decode cX6_readBand 41 = .ok (.iload_n 2, 1) := by decide +kernel
theorem dX6_readBand_42 : decode cX6_readBand 42 = .ok (.invokevirtual 80, 3) := by decide +kernel
theorem dX6_readBand_45 : decode cX6_readBand 45 = .ok (.aload_n 1, 1) := by decide +kernel
theorem dX6_readBand_46 : decode cX6_readBand 46 = .ok (.iload_n 3, 1) := by decide +kernel
theorem dX6_readBand_47 : decode cX6_readBand 47 = .ok (.aload_n 0, 1) := by decide +kernel
theorem dX6_readBand_48 : decode cX6_readBand 48 = .ok (.getfield 12, 3) := by decide +kernel
theorem dX6_readBand_51 : decode cX6_readBand 51 = .ok (.iconst 0, 1) := by decide +kernel
theorem dX6_readBand_52 : decode cX6_readBand 52 = .ok (.bipush 100, 2) := by decide +kernel
theorem dX6_readBand_54 : decode cX6_readBand 54 = .ok (.invokevirtual 84, 3) := by decide +kernel
theorem dX6_readBand_57 : decode cX6_readBand 57 = .ok (.aload_n 0, 1) := by decide +kernel
theorem dX6_readBand_58 : decode cX6_readBand 58 = .ok (.getfield 12, 3) := by decide +kernel
theorem dX6_readBand_61 : decode cX6_readBand 61 = .ok (.iconst 0, 1) := by decide +kernel
theorem dX6_readBand_62 : decode cX6_readBand 62 = .ok (.bipush 100, 2) := by decide +kernel
theorem dX6_readBand_64 : decode cX6_readBand 64 = .ok (.invokevirtual 84, 3) := by decide +kernel
theorem dX6_readBand_67 : decode cX6_readBand 67 = .ok (.invokevirtual 156, 3) := by decide +kernel
theorem dX6_readBand_70 : decode cX6_readBand 70 = .ok (.return_, 1) := by decide +kernel
theorem dX6_readLadder_0 : decode cX6_readLadder 0 = .ok (.aload_n 0, 1) := by decide +kernel
theorem dX6_readLadder_1 : decode cX6_readLadder 1 = .ok (.invokevirtual 160, 3) := by decide +kernel
theorem dX6_readLadder_4 : decode cX6_readLadder 4 = .ok (.iconst 0, 1) := by decide +kernel
theorem dX6_readLadder_5 : decode cX6_readLadder 5 = .ok (.istore_n 1, 1) := by decide +kernel
theorem dX6_readLadder_6 : decode cX6_readLadder 6 = .ok (.iload_n 1, 1) := by decide +kernel
theorem dX6_readLadder_7 : decode cX6_readLadder 7 = .ok (.bipush 6, 2) := by decide +kernel
theorem dX6_readLadder_9 : decode cX6_readLadder 9 = .ok (.if_icmp .ge 26, 3) := by decide +kernel
theorem dX6_readLadder_12 : decode cX6_readLadder 12 = .ok (.aload_n 0, 1) := by decide +kernel
theorem dX6_readLadder_13 : decode cX6_readLadder 13 = .ok (.getfield 12, 3) := by decide +kernel
theorem dX6_readLadder_16 : decode cX6_readLadder 16 = .ok (.getfield 55, 3) := by decide +kernel
theorem dX6_readLadder_19 : decode cX6_readLadder 19 = .ok (.sipush 256, 3) := by decide +kernel
theorem dX6_readLadder_22 : decode cX6_readLadder 22 = .ok (.if_icmp .ne 13, 3) := by decide +kernel
theorem dX6_readLadder_25 : decode cX6_readLadder 25 = .ok (.aload_n 0, 1) := by decide +kernel
theorem dX6_readLadder_26 : decode cX6_readLadder 26 = .ok (.invokevirtual 160, 3) := by decide +kernel
theorem dX6_readLadder_29 : decode cX6_readLadder 29 = .ok (.iinc 1 1, 3) := by decide +kernel
theorem dX6_readLadder_32 : decode cX6_readLadder 32 = .ok (.goto (-26), 3) := by decide +kernel
theorem dX6_readLadder_35 : decode cX6_readLadder 35 = .ok (.return_, 1) := by decide +kernel
theorem dX6_readStep_0 : decode cX6_readStep 0 = .ok (.aload_n 0, 1) := by decide +kernel
theorem dX6_readStep_1 : decode cX6_readStep 1 = .ok (.getfield 28, 3) := by decide +kernel
theorem dX6_readStep_4 : decode cX6_readStep 4 = .ok (.getfield 43, 3) := by decide +kernel
theorem dX6_readStep_7 : decode cX6_readStep 7 = .ok (.astore_n 1, 1) := by decide +kernel
theorem dX6_readStep_8 : decode cX6_readStep 8 = .ok (.aload_n 1, 1) := by decide +kernel
theorem dX6_readStep_9 : decode cX6_readStep 9 = .ok (.getfield 163, 3) := by decide +kernel
theorem dX6_readStep_12 : decode cX6_readStep 12 = .ok (.istore_n 2, 1) := by decide +kernel
theorem dX6_readStep_13 : decode cX6_readStep 13 = .ok (.aload_n 0, 1) := by decide +kernel
theorem dX6_readStep_14 : decode cX6_readStep 14 = .ok (.getfield 12, 3) := by decide +kernel
theorem dX6_readStep_17 : decode cX6_readStep 17 = .ok (.getfield 77, 3) := by decide +kernel
theorem dX6_readStep_20 : decode cX6_readStep 20 = .ok (.istore_n 3, 1) := by decide +kernel
theorem dX6_readStep_21 : decode cX6_readStep 21 = .ok (.aload_n 0, 1) := by decide +kernel
theorem dX6_readStep_22 : decode cX6_readStep 22 = .ok (.getfield 12, 3) := by decide +kernel
theorem dX6_readStep_25 : decode cX6_readStep 25 = .ok (.iload_n 2, 1) := by decide +kernel
theorem dX6_readStep_26 : decode cX6_readStep 26 = .ok (.ifCond .ne 7, 3) := by decide +kernel
theorem dX6_readStep_29 : decode cX6_readStep 29 = .ok (.iconst 0, 1) := by decide +kernel
theorem dX6_readStep_30 : decode cX6_readStep 30 = .ok (.goto 13, 3) := by decide +kernel
theorem dX6_readStep_33 : decode cX6_readStep 33 = .ok (.aload_n 1, 1) := by decide +kernel
theorem dX6_readStep_34 : decode cX6_readStep 34 = .ok (.getfield 166, 3) := by decide +kernel
theorem dX6_readStep_37 : decode cX6_readStep 37 = .ok (.iload_n 2, 1) := by decide +kernel
theorem dX6_readStep_38 : decode cX6_readStep 38 = .ok (.iconst 1, 1) := by decide +kernel
theorem dX6_readStep_39 : decode cX6_readStep 39 = .ok (.isub, 1) := by decide +kernel
theorem dX6_readStep_40 : decode cX6_readStep 40 = .ok (.iaload, 1) := by decide +kernel
theorem dX6_readStep_41 : decode cX6_readStep 41 = .ok (.iconst 1, 1) := by decide +kernel
theorem dX6_readStep_42 : decode cX6_readStep 42 = .ok (.iadd, 1) := by decide +kernel
theorem dX6_readStep_43 : decode cX6_readStep 43 = .ok (.sipush 999, 3) := by decide +kernel
theorem dX6_readStep_46 : decode cX6_readStep 46 = .ok (.invokevirtual 84, 3) := by decide +kernel
theorem dX6_readStep_49 : decode cX6_readStep 49 = .ok (.istore 4, 2) := by decide +kernel
theorem dX6_readStep_51 : decode cX6_readStep 51 = .ok (.iload_n 2, 1) := by decide +kernel
theorem dX6_readStep_52 : decode cX6_readStep 52 = .ok (.bipush 6, 2) := by decide +kernel
theorem dX6_readStep_54 : decode cX6_readStep 54 = .ok (.if_icmp .lt 14, 3) := by decide +kernel
theorem dX6_readStep_57 : decode cX6_readStep 57 = .ok (.aload_n 0, 1) := by decide +kernel
theorem dX6_readStep_58 : decode cX6_readStep 58 = .ok (.getfield 12, 3) := by decide +kernel
theorem dX6_readStep_61 : decode cX6_readStep 61 = .ok (.bipush (-4), 2) := by decide +kernel
theorem dX6_readStep_63 : decode cX6_readStep 63 = .ok (.iload_n 3, 1) := by decide +kernel
theorem dX6_readStep_64 : decode cX6_readStep 64 = .ok (.invokevirtual 80, 3) := by decide +kernel
theorem dX6_readStep_67 : decode cX6_readStep 67 = .ok (.return_, 1) := by decide +kernel
theorem dX6_readStep_68 : decode cX6_readStep 68 = .ok (.aload_n 1, 1) := by decide +kernel
theorem dX6_readStep_69 : decode cX6_readStep 69 = .ok (.getfield 166, 3) := by decide +kernel
theorem dX6_readStep_72 : decode cX6_readStep 72 = .ok (.iload_n 2, 1) := by decide +kernel
theorem dX6_readStep_73 : decode cX6_readStep 73 = .ok (.iload 4, 2) := by decide +kernel
theorem dX6_readStep_75 : decode cX6_readStep 75 = .ok (.iastore, 1) := by decide +kernel
theorem dX6_readStep_76 : decode cX6_readStep 76 = .ok (.aload_n 1, 1) := by decide +kernel
theorem dX6_readStep_77 : decode cX6_readStep 77 = .ok (.getfield 170, 3) := by decide +kernel
theorem dX6_readStep_80 : decode cX6_readStep 80 = .ok (.iload_n 2, 1) := by decide +kernel
theorem dX6_readStep_81 : decode cX6_readStep 81 = .ok (.aload_n 0, 1) := by decide +kernel
theorem dX6_readStep_82 : decode cX6_readStep 82 = .ok (.getfield 12, 3) := by decide +kernel
theorem dX6_readStep_85 : decode cX6_readStep 85 = .ok (.iconst 0, 1) := by decide +kernel
theorem dX6_readStep_86 : decode cX6_readStep 86 = .ok (.sipush 999, 3) := by decide +kernel
theorem dX6_readStep_89 : decode cX6_readStep 89 = .ok (.invokevirtual 84, 3) := by decide +kernel
theorem dX6_readStep_92 : decode cX6_readStep 92 = .ok (.iastore, 1) := by decide +kernel
theorem dX6_readStep_93 : decode cX6_readStep 93 = .ok (.aload_n 1, 1) := by decide +kernel
theorem dX6_readStep_94 : decode cX6_readStep 94 = .ok (.dup, 1) := by decide +kernel
theorem dX6_readStep_95 : decode cX6_readStep 95 = .ok (.getfield 163, 3) := by decide +kernel
theorem dX6_readStep_98 : decode cX6_readStep 98 = .ok (.iconst 1, 1) := by decide +kernel
theorem dX6_readStep_99 : decode cX6_readStep 99 = .ok (.iadd, 1) := by decide +kernel
theorem dX6_readStep_100 : decode cX6_readStep 100 = .ok (.putfield 163, 3) := by decide +kernel
theorem dX6_readStep_103 : decode cX6_readStep 103 = .ok (.return_, 1) := by decide +kernel
theorem dX6_computeForecasts_0 : decode cX6_computeForecasts 0 = .ok (.aload_n 0, 1) := by decide +kernel
theorem dX6_computeForecasts_1 : decode cX6_computeForecasts 1 = .ok (.getfield 28, 3) := by decide +kernel
theorem dX6_computeForecasts_4 : decode cX6_computeForecasts 4 = .ok (.getfield 91, 3) := by decide +kernel
theorem dX6_computeForecasts_7 : decode cX6_computeForecasts 7 = .ok (.astore_n 1, 1) := by decide +kernel
theorem dX6_computeForecasts_8 : decode cX6_computeForecasts 8 = .ok (.iconst 0, 1) := by decide +kernel
theorem dX6_computeForecasts_9 : decode cX6_computeForecasts 9 = .ok (.istore_n 2, 1) := by decide +kernel
theorem dX6_computeForecasts_10 : decode cX6_computeForecasts 10 = .ok (.iload_n 2, 1) := by decide +kernel
theorem dX6_computeForecasts_11 : decode cX6_computeForecasts 11 = .ok (.aload_n 0, 1) := by decide +kernel
theorem dX6_computeForecasts_12 : decode cX6_computeForecasts 12 = .ok (.getfield 28, 3) := by decide +kernel
theorem dX6_computeForecasts_15 : decode cX6_computeForecasts 15 = .ok (.getfield 43, 3) := by decide +kernel
theorem dX6_computeForecasts_18 : decode cX6_computeForecasts 18 = .ok (.getfield 88, 3) := by decide +kernel
theorem dX6_computeForecasts_21 : decode cX6_computeForecasts 21 = .ok (.if_icmp .ge 72, 3) := by decide +kernel
theorem dX6_computeForecasts_24 : decode cX6_computeForecasts 24 = .ok (.aload_n 0, 1) := by decide +kernel
theorem dX6_computeForecasts_25 : decode cX6_computeForecasts 25 = .ok (.getfield 12, 3) := by decide +kernel
theorem dX6_computeForecasts_28 : decode cX6_computeForecasts 28 = .ok (.aload_n 0, 1) := by decide +kernel
theorem dX6_computeForecasts_29 : decode cX6_computeForecasts 29 = .ok (.getfield 36, 3) := by decide +kernel
theorem dX6_computeForecasts_32 : decode cX6_computeForecasts 32 = .ok (.invokevirtual 173, 3) := by decide +kernel
theorem dX6_computeForecasts_35 : decode cX6_computeForecasts 35 = .ok (.aload_n 0, 1) := by decide +kernel
theorem dX6_computeForecasts_36 : decode cX6_computeForecasts 36 = .ok (.getfield 21, 3) := by decide +kernel
theorem dX6_computeForecasts_39 : decode cX6_computeForecasts 39 = .ok (.iload_n 2, 1) := by decide +kernel
theorem dX6_computeForecasts_40 : decode cX6_computeForecasts 40 = .ok (.putfield 176, 3) := by decide +kernel
theorem dX6_computeForecasts_43 : decode cX6_computeForecasts 43 = .ok (.aload_n 0, 1) := by decide +kernel
theorem dX6_computeForecasts_44 : decode cX6_computeForecasts 44 = .ok (.getfield 21, 3) := by decide +kernel
theorem dX6_computeForecasts_47 : decode cX6_computeForecasts 47 = .ok (.aload_n 1, 1) := by decide +kernel
theorem dX6_computeForecasts_48 : decode cX6_computeForecasts 48 = .ok (.getfield 179, 3) := by decide +kernel
theorem dX6_computeForecasts_51 : decode cX6_computeForecasts 51 = .ok (.iload_n 2, 1) := by decide +kernel
theorem dX6_computeForecasts_52 : decode cX6_computeForecasts 52 = .ok (.iaload, 1) := by decide +kernel
theorem dX6_computeForecasts_53 : decode cX6_computeForecasts 53 = .ok (.putfield 182, 3) := by decide +kernel
theorem dX6_computeForecasts_56 : decode cX6_computeForecasts 56 = .ok (.aload_n 0, 1) := by decide +kernel
theorem dX6_computeForecasts_57 : decode cX6_computeForecasts 57 = .ok (.getfield 21, 3) := by decide +kernel
theorem dX6_computeForecasts_60 : decode cX6_computeForecasts 60 = .ok (.aload_n 0, 1) := by decide +kernel
theorem dX6_computeForecasts_61 : decode cX6_computeForecasts 61 = .ok (.getfield 12, 3) := by decide +kernel
theorem dX6_computeForecasts_64 : decode cX6_computeForecasts 64 = .ok (.iconst 0, 1) := by decide +kernel
theorem dX6_computeForecasts_65 : decode cX6_computeForecasts 65 = .ok (.invokevirtual 148, 3) := by decide +kernel
theorem dX6_computeForecasts_68 : decode cX6_computeForecasts 68 = .ok (.lstore_n 3, 1) := by decide +kernel
theorem dX6_computeForecasts_69 : decode cX6_computeForecasts 69 = .ok (.aload_n 1, 1) := by decide +kernel
theorem dX6_computeForecasts_70 : decode cX6_computeForecasts 70 = .ok (.getfield 184, 3) := by decide +kernel
theorem dX6_computeForecasts_73 : decode cX6_computeForecasts 73 = .ok (.iload_n 2, 1) := by decide +kernel
theorem dX6_computeForecasts_74 : decode cX6_computeForecasts 74 = .ok (.lconst 0, 1) := by decide +kernel
theorem dX6_computeForecasts_75 : decode cX6_computeForecasts 75 = .ok (.ldc2_w 187, 3) := by decide +kernel
theorem dX6_computeForecasts_78 : decode cX6_computeForecasts 78 = .ok (.lload_n 3, 1) := by decide +kernel
theorem dX6_computeForecasts_79 : decode cX6_computeForecasts 79 = .ok (.invokestatic 189, 3) := by decide +kernel
theorem dX6_computeForecasts_82 : decode cX6_computeForecasts 82 = .ok (.invokestatic 195, 3) := by decide +kernel
theorem dX6_computeForecasts_85 : decode cX6_computeForecasts 85 = .ok (.l2i, 1) := by decide +kernel
theorem dX6_computeForecasts_86 : decode cX6_computeForecasts 86 = .ok (.iastore, 1) := by decide +kernel
theorem dX6_computeForecasts_87 : decode cX6_computeForecasts 87 = .ok (.iinc 2 1, 3) := by decide +kernel
theorem dX6_computeForecasts_90 : decode cX6_computeForecasts 90 = .ok (.goto (-80), 3) := by decide +kernel
theorem dX6_computeForecasts_93 : decode cX6_computeForecasts 93 = .ok (.return_, 1) := by decide +kernel
theorem dX7_init_0 : decode cX7_init 0 = .ok (.aload_n 0, 1) := by decide +kernel
theorem dX7_init_1 : decode cX7_init 1 = .ok (.invokespecial 3, 3) := by decide +kernel
theorem dX7_init_4 : decode cX7_init 4 = .ok (.aload_n 0, 1) := by decide +kernel
theorem dX7_init_5 : decode cX7_init 5 = .ok (.iconst 0, 1) := by decide +kernel
theorem dX7_init_6 : decode cX7_init 6 = .ok (.putfield 9, 3) := by decide +kernel
theorem dX7_init_9 : decode cX7_init 9 = .ok (.aload_n 0, 1) := by decide +kernel
theorem dX7_init_10 : decode cX7_init 10 = .ok (.iconst 0, 1) := by decide +kernel
theorem dX7_init_11 : decode cX7_init 11 = .ok (.putfield 15, 3) := by decide +kernel
theorem dX7_init_14 : decode cX7_init 14 = .ok (.aload_n 0, 1) := by decide +kernel
theorem dX7_init_15 : decode cX7_init 15 = .ok (.iconst 0, 1) := by decide +kernel
theorem dX7_init_16 : decode cX7_init 16 = .ok (.putfield 18, 3) := by decide +kernel
theorem dX7_init_19 : decode cX7_init 19 = .ok (.aload_n 0, 1) := by decide +kernel
theorem dX7_init_20 : decode cX7_init 20 = .ok (.iconst 0, 1) := by decide +kernel
theorem dX7_init_21 : decode cX7_init 21 = .ok (.putfield 21, 3) := by decide +kernel
theorem dX7_init_24 : decode cX7_init 24 = .ok (.aload_n 0, 1) := by decide +kernel
theorem dX7_init_25 : decode cX7_init 25 = .ok (.iconst 0, 1) := by decide +kernel
theorem dX7_init_26 : decode cX7_init 26 = .ok (.putfield 24, 3) := by decide +kernel
theorem dX7_init_29 : decode cX7_init 29 = .ok (.aload_n 0, 1) := by decide +kernel
theorem dX7_init_30 : decode cX7_init 30 = .ok (.iconst 0, 1) := by decide +kernel
theorem dX7_init_31 : decode cX7_init 31 = .ok (.putfield 27, 3) := by decide +kernel
theorem dX7_init_34 : decode cX7_init 34 = .ok (.aload_n 0, 1) := by decide +kernel
theorem dX7_init_35 : decode cX7_init 35 = .ok (.iconst 0, 1) := by decide +kernel
theorem dX7_init_36 : decode cX7_init 36 = .ok (.putfield 30, 3) := by decide +kernel
theorem dX7_init_39 : decode cX7_init 39 = .ok (.aload_n 0, 1) := by decide +kernel
theorem dX7_init_40 : decode cX7_init 40 = .ok (.iconst 0, 1) := by decide +kernel
theorem dX7_init_41 : decode cX7_init 41 = .ok (.putfield 33, 3) := by decide +kernel
theorem dX7_init_44 : decode cX7_init 44 = .ok (.aload_n 0, 1) := by decide +kernel
theorem dX7_init_45 : decode cX7_init 45 = .ok (.iconst 0, 1) := by decide +kernel
theorem dX7_init_46 : decode cX7_init 46 = .ok (.putfield 36, 3) := by decide +kernel
theorem dX7_init_49 : decode cX7_init 49 = .ok (.aload_n 0, 1) := by decide +kernel
theorem dX7_init_50 : decode cX7_init 50 = .ok (.iconst 0, 1) := by decide +kernel
theorem dX7_init_51 : decode cX7_init 51 = .ok (.putfield 39, 3) := by decide +kernel
theorem dX7_init_54 : decode cX7_init 54 = .ok (.aload_n 0, 1) := by decide +kernel
theorem dX7_init_55 : decode cX7_init 55 = .ok (.iconst 0, 1) := by decide +kernel
theorem dX7_init_56 : decode cX7_init 56 = .ok (.putfield 42, 3) := by decide +kernel
theorem dX7_init_59 : decode cX7_init 59 = .ok (.aload_n 0, 1) := by decide +kernel
theorem dX7_init_60 : decode cX7_init 60 = .ok (.bipush 6, 2) := by decide +kernel
theorem dX7_init_62 : decode cX7_init 62 = .ok (.newarray .int, 2) := by decide +kernel
theorem dX7_init_64 : decode cX7_init 64 = .ok (.putfield 45, 3) := by decide +kernel
theorem dX7_init_67 : decode cX7_init 67 = .ok (.aload_n 0, 1) := by decide +kernel
theorem dX7_init_68 : decode cX7_init 68 = .ok (.bipush 6, 2) := by decide +kernel
theorem dX7_init_70 : decode cX7_init 70 = .ok (.newarray .int, 2) := by decide +kernel
theorem dX7_init_72 : decode cX7_init 72 = .ok (.putfield 49, 3) := by decide +kernel
theorem dX7_init_75 : decode cX7_init 75 = .ok (.aload_n 0, 1) := by decide +kernel
theorem dX7_init_76 : decode cX7_init 76 = .ok (.lconst 0, 1) := by decide +kernel
theorem dX7_init_77 : decode cX7_init 77 = .ok (.putfield 52, 3) := by decide +kernel
theorem dX7_init_80 : decode cX7_init 80 = .ok (.aload_n 0, 1) := by decide +kernel
theorem dX7_init_81 : decode cX7_init 81 = .ok (.bipush 40, 2) := by decide +kernel
theorem dX7_init_83 : decode cX7_init 83 = .ok (.newarray .int, 2) := by decide +kernel
theorem dX7_init_85 : decode cX7_init 85 = .ok (.putfield 56, 3) := by decide +kernel
theorem dX7_init_88 : decode cX7_init 88 = .ok (.aload_n 0, 1) := by decide +kernel
theorem dX7_init_89 : decode cX7_init 89 = .ok (.bipush 40, 2) := by decide +kernel
theorem dX7_init_91 : decode cX7_init 91 = .ok (.newarray .int, 2) := by decide +kernel
theorem dX7_init_93 : decode cX7_init 93 = .ok (.putfield 59, 3) := by decide +kernel
theorem dX7_init_96 : decode cX7_init 96 = .ok (.return_, 1) := by decide +kernel
theorem dX7_clear_0 : decode cX7_clear 0 = .ok (.aload_n 0, 1) := by decide +kernel
theorem dX7_clear_1 : decode cX7_clear 1 = .ok (.iconst 0, 1) := by decide +kernel
theorem dX7_clear_2 : decode cX7_clear 2 = .ok (.putfield 9, 3) := by decide +kernel
theorem dX7_clear_5 : decode cX7_clear 5 = .ok (.aload_n 0, 1) := by decide +kernel
theorem dX7_clear_6 : decode cX7_clear 6 = .ok (.iconst 0, 1) := by decide +kernel
theorem dX7_clear_7 : decode cX7_clear 7 = .ok (.putfield 15, 3) := by decide +kernel
theorem dX7_clear_10 : decode cX7_clear 10 = .ok (.aload_n 0, 1) := by decide +kernel
theorem dX7_clear_11 : decode cX7_clear 11 = .ok (.iconst 0, 1) := by decide +kernel
theorem dX7_clear_12 : decode cX7_clear 12 = .ok (.putfield 18, 3) := by decide +kernel
theorem dX7_clear_15 : decode cX7_clear 15 = .ok (.aload_n 0, 1) := by decide +kernel
theorem dX7_clear_16 : decode cX7_clear 16 = .ok (.iconst 0, 1) := by decide +kernel
theorem dX7_clear_17 : decode cX7_clear 17 = .ok (.putfield 21, 3) := by decide +kernel
theorem dX7_clear_20 : decode cX7_clear 20 = .ok (.aload_n 0, 1) := by decide +kernel
theorem dX7_clear_21 : decode cX7_clear 21 = .ok (.iconst 0, 1) := by decide +kernel
theorem dX7_clear_22 : decode cX7_clear 22 = .ok (.putfield 24, 3) := by decide +kernel
theorem dX7_clear_25 : decode cX7_clear 25 = .ok (.aload_n 0, 1) := by decide +kernel
theorem dX7_clear_26 : decode cX7_clear 26 = .ok (.iconst 0, 1) := by decide +kernel
theorem dX7_clear_27 : decode cX7_clear 27 = .ok (.putfield 27, 3) := by decide +kernel
theorem dX7_clear_30 : decode cX7_clear 30 = .ok (.aload_n 0, 1) := by decide +kernel
theorem dX7_clear_31 : decode cX7_clear 31 = .ok (.iconst 0, 1) := by decide +kernel
theorem dX7_clear_32 : decode cX7_clear 32 = .ok (.putfield 30, 3) := by decide +kernel
theorem dX7_clear_35 : decode cX7_clear 35 = .ok (.aload_n 0, 1) := by decide +kernel
theorem dX7_clear_36 : decode cX7_clear 36 = .ok (.iconst 0, 1) := by decide +kernel
theorem dX7_clear_37 : decode cX7_clear 37 = .ok (.putfield 33, 3) := by decide +kernel
theorem dX7_clear_40 : decode cX7_clear 40 = .ok (.aload_n 0, 1) := by decide +kernel
theorem dX7_clear_41 : decode cX7_clear 41 = .ok (.iconst 0, 1) := by decide +kernel
theorem dX7_clear_42 : decode cX7_clear 42 = .ok (.putfield 36, 3) := by decide +kernel
theorem dX7_clear_45 : decode cX7_clear 45 = .ok (.aload_n 0, 1) := by decide +kernel
theorem dX7_clear_46 : decode cX7_clear 46 = .ok (.iconst 0, 1) := by decide +kernel
theorem dX7_clear_47 : decode cX7_clear 47 = .ok (.putfield 39, 3) := by decide +kernel
theorem dX7_clear_50 : decode cX7_clear 50 = .ok (.aload_n 0, 1) := by decide +kernel
theorem dX7_clear_51 : decode cX7_clear 51 = .ok (.iconst 0, 1) := by decide +kernel
theorem dX7_clear_52 : decode cX7_clear 52 = .ok (.putfield 42, 3) := by decide +kernel
theorem dX7_clear_55 : decode cX7_clear 55 = .ok (.aload_n 0, 1) := by decide +kernel
theorem dX7_clear_56 : decode cX7_clear 56 = .ok (.lconst 0, 1) := by decide +kernel
theorem dX7_clear_57 : decode cX7_clear 57 = .ok (.putfield 52, 3) := by decide +kernel
theorem dX7_clear_60 : decode cX7_clear 60 = .ok (.return_, 1) := by decide +kernel
theorem dX7_copyFrom_0 : decode cX7_copyFrom 0 = .ok (.aload_n 0, 1) := by decide +kernel
theorem dX7_copyFrom_1 : decode cX7_copyFrom 1 = .ok (.aload_n 1, 1) := by decide +kernel
theorem dX7_copyFrom_2 : decode cX7_copyFrom 2 = .ok (.getfield 9, 3) := by decide +kernel
theorem dX7_copyFrom_5 : decode cX7_copyFrom 5 = .ok (.putfield 9, 3) := by decide +kernel
theorem dX7_copyFrom_8 : decode cX7_copyFrom 8 = .ok (.aload_n 0, 1) := by decide +kernel
theorem dX7_copyFrom_9 : decode cX7_copyFrom 9 = .ok (.aload_n 1, 1) := by decide +kernel
theorem dX7_copyFrom_10 : decode cX7_copyFrom 10 = .ok (.getfield 15, 3) := by decide +kernel
theorem dX7_copyFrom_13 : decode cX7_copyFrom 13 = .ok (.putfield 15, 3) := by decide +kernel
theorem dX7_copyFrom_16 : decode cX7_copyFrom 16 = .ok (.aload_n 0, 1) := by decide +kernel
theorem dX7_copyFrom_17 : decode cX7_copyFrom 17 = .ok (.aload_n 1, 1) := by decide +kernel
theorem dX7_copyFrom_18 : decode cX7_copyFrom 18 = .ok (.getfield 18, 3) := by decide +kernel
theorem dX7_copyFrom_21 : decode cX7_copyFrom 21 = .ok (.putfield 18, 3) := by decide +kernel
theorem dX7_copyFrom_24 : decode cX7_copyFrom 24 = .ok (.aload_n 0, 1) := by decide +kernel
theorem dX7_copyFrom_25 : decode cX7_copyFrom 25 = .ok (.aload_n 1, 1) := by decide +kernel
theorem dX7_copyFrom_26 : decode cX7_copyFrom 26 = .ok (.getfield 21, 3) := by decide +kernel
theorem dX7_copyFrom_29 : decode cX7_copyFrom 29 = .ok (.putfield 21, 3) := by decide +kernel
theorem dX7_copyFrom_32 : decode cX7_copyFrom 32 = .ok (.aload_n 0, 1) := by decide +kernel
theorem dX7_copyFrom_33 : decode cX7_copyFrom 33 = .ok (.aload_n 1, 1) := by decide +kernel
theorem dX7_copyFrom_34 : decode cX7_copyFrom 34 = .ok (.getfield 24, 3) := by decide +kernel
theorem dX7_copyFrom_37 : decode cX7_copyFrom 37 = .ok (.putfield 24, 3) := by decide +kernel
theorem dX7_copyFrom_40 : decode cX7_copyFrom 40 = .ok (.aload_n 0, 1) := by decide +kernel
theorem dX7_copyFrom_41 : decode cX7_copyFrom 41 = .ok (.aload_n 1, 1) := by decide +kernel
theorem dX7_copyFrom_42 : decode cX7_copyFrom 42 = .ok (.getfield 27, 3) := by decide +kernel
theorem dX7_copyFrom_45 : decode cX7_copyFrom 45 = .ok (.putfield 27, 3) := by decide +kernel
theorem dX7_copyFrom_48 : decode cX7_copyFrom 48 = .ok (.aload_n 0, 1) := by decide +kernel
theorem dX7_copyFrom_49 : decode cX7_copyFrom 49 = .ok (.aload_n 1, 1) := by decide +kernel
theorem dX7_copyFrom_50 : decode cX7_copyFrom 50 = .ok (.getfield 30, 3) := by decide +kernel
theorem dX7_copyFrom_53 : decode cX7_copyFrom 53 = .ok (.putfield 30, 3) := by decide +kernel
theorem dX7_copyFrom_56 : decode cX7_copyFrom 56 = .ok (.aload_n 0, 1) := by decide +kernel
theorem dX7_copyFrom_57 : decode cX7_copyFrom 57 = .ok (.aload_n 1, 1) := by decide +kernel
theorem dX7_copyFrom_58 : decode cX7_copyFrom 58 = .ok (.getfield 33, 3) := by decide +kernel
theorem dX7_copyFrom_61 : decode cX7_copyFrom 61 = .ok (.putfield 33, 3) := by decide +kernel
theorem dX7_copyFrom_64 : decode cX7_copyFrom 64 = .ok (.aload_n 0, 1) := by decide +kernel
theorem dX7_copyFrom_65 : decode cX7_copyFrom 65 = .ok (.aload_n 1, 1) := by decide +kernel
theorem dX7_copyFrom_66 : decode cX7_copyFrom 66 = .ok (.getfield 36, 3) := by decide +kernel
theorem dX7_copyFrom_69 : decode cX7_copyFrom 69 = .ok (.putfield 36, 3) := by decide +kernel
theorem dX7_copyFrom_72 : decode cX7_copyFrom 72 = .ok (.aload_n 0, 1) := by decide +kernel
theorem dX7_copyFrom_73 : decode cX7_copyFrom 73 = .ok (.aload_n 1, 1) := by decide +kernel
theorem dX7_copyFrom_74 : decode cX7_copyFrom 74 = .ok (.getfield 39, 3) := by decide +kernel
theorem dX7_copyFrom_77 : decode cX7_copyFrom 77 = .ok (.putfield 39, 3) := by decide +kernel
theorem dX7_copyFrom_80 : decode cX7_copyFrom 80 = .ok (.aload_n 0, 1) := by decide +kernel
theorem dX7_copyFrom_81 : decode cX7_copyFrom 81 = .ok (.aload_n 1, 1) := by decide +kernel
theorem dX7_copyFrom_82 : decode cX7_copyFrom 82 = .ok (.getfield 42, 3) := by decide +kernel
theorem dX7_copyFrom_85 : decode cX7_copyFrom 85 = .ok (.putfield 42, 3) := by decide +kernel
theorem dX7_copyFrom_88 : decode cX7_copyFrom 88 = .ok (.aload_n 0, 1) := by decide +kernel
theorem dX7_copyFrom_89 : decode cX7_copyFrom 89 = .ok (.aload_n 1, 1) := by decide +kernel
theorem dX7_copyFrom_90 : decode cX7_copyFrom 90 = .ok (.getfield 52, 3) := by decide +kernel
theorem dX7_copyFrom_93 : decode cX7_copyFrom 93 = .ok (.putfield 52, 3) := by decide +kernel
theorem dX7_copyFrom_96 : decode cX7_copyFrom 96 = .ok (.aload_n 1, 1) := by decide +kernel
theorem dX7_copyFrom_97 : decode cX7_copyFrom 97 = .ok (.getfield 45, 3) := by decide +kernel
theorem dX7_copyFrom_100 : decode cX7_copyFrom 100 = .ok (.iconst 0, 1) := by decide +kernel
theorem dX7_copyFrom_101 : decode cX7_copyFrom 101 = .ok (.aload_n 0, 1) := by decide +kernel
theorem dX7_copyFrom_102 : decode cX7_copyFrom 102 = .ok (.getfield 45, 3) := by decide +kernel
theorem dX7_copyFrom_105 : decode cX7_copyFrom 105 = .ok (.iconst 0, 1) := by decide +kernel
theorem dX7_copyFrom_106 : decode cX7_copyFrom 106 = .ok (.bipush 6, 2) := by decide +kernel
theorem dX7_copyFrom_108 : decode cX7_copyFrom 108 = .ok (.invokestatic 62, 3) := by decide +kernel
theorem dX7_copyFrom_111 : decode cX7_copyFrom 111 = .ok (.aload_n 1, 1) := by decide +kernel
theorem dX7_copyFrom_112 : decode cX7_copyFrom 112 = .ok (.getfield 49, 3) := by decide +kernel
theorem dX7_copyFrom_115 : decode cX7_copyFrom 115 = .ok (.iconst 0, 1) := by decide +kernel
theorem dX7_copyFrom_116 : decode cX7_copyFrom 116 = .ok (.aload_n 0, 1) := by decide +kernel
theorem dX7_copyFrom_117 : decode cX7_copyFrom 117 = .ok (.getfield 49, 3) := by decide +kernel
theorem dX7_copyFrom_120 : decode cX7_copyFrom 120 = .ok (.iconst 0, 1) := by decide +kernel
theorem dX7_copyFrom_121 : decode cX7_copyFrom 121 = .ok (.bipush 6, 2) := by decide +kernel
theorem dX7_copyFrom_123 : decode cX7_copyFrom 123 = .ok (.invokestatic 62, 3) := by decide +kernel
theorem dX7_copyFrom_126 : decode cX7_copyFrom 126 = .ok (.aload_n 1, 1) := by decide +kernel
theorem dX7_copyFrom_127 : decode cX7_copyFrom 127 = .ok (.getfield 56, 3) := by decide +kernel
theorem dX7_copyFrom_130 : decode cX7_copyFrom 130 = .ok (.iconst 0, 1) := by decide +kernel
theorem dX7_copyFrom_131 : decode cX7_copyFrom 131 = .ok (.aload_n 0, 1) := by decide +kernel
theorem dX7_copyFrom_132 : decode cX7_copyFrom 132 = .ok (.getfield 56, 3) := by decide +kernel
theorem dX7_copyFrom_135 : decode cX7_copyFrom 135 = .ok (.iconst 0, 1) := by decide +kernel
theorem dX7_copyFrom_136 : decode cX7_copyFrom 136 = .ok (.bipush 40, 2) := by decide +kernel
theorem dX7_copyFrom_138 : decode cX7_copyFrom 138 = .ok (.invokestatic 62, 3) := by decide +kernel
theorem dX7_copyFrom_141 : decode cX7_copyFrom 141 = .ok (.aload_n 1, 1) := by decide +kernel
theorem dX7_copyFrom_142 : decode cX7_copyFrom 142 = .ok (.getfield 59, 3) := by decide +kernel
theorem dX7_copyFrom_145 : decode cX7_copyFrom 145 = .ok (.iconst 0, 1) := by decide +kernel
theorem dX7_copyFrom_146 : decode cX7_copyFrom 146 = .ok (.aload_n 0, 1) := by decide +kernel
theorem dX7_copyFrom_147 : decode cX7_copyFrom 147 = .ok (.getfield 59, 3) := by decide +kernel
theorem dX7_copyFrom_150 : decode cX7_copyFrom 150 = .ok (.iconst 0, 1) := by decide +kernel
theorem dX7_copyFrom_151 : decode cX7_copyFrom 151 = .ok (.bipush 40, 2) := by decide +kernel
theorem dX7_copyFrom_153 : decode cX7_copyFrom 153 = .ok (.invokestatic 62, 3) := by decide +kernel
theorem dX7_copyFrom_156 : decode cX7_copyFrom 156 = .ok (.return_, 1) := by decide +kernel
theorem dX7_hasBand_0 : decode cX7_hasBand 0 = .ok (.aload_n 0, 1) := by decide +kernel
theorem dX7_hasBand_1 : decode cX7_hasBand 1 = .ok (.getfield 52, 3) := by decide +kernel
theorem dX7_hasBand_4 : decode cX7_hasBand 4 = .ok (.iload_n 1, 1) := by decide +kernel
theorem dX7_hasBand_5 : decode cX7_hasBand 5 = .ok (.lushr, 1) := by decide +kernel
theorem dX7_hasBand_6 : decode cX7_hasBand 6 = .ok (.lconst 1, 1) := by decide +kernel
theorem dX7_hasBand_7 : decode cX7_hasBand 7 = .ok (.land, 1) := by decide +kernel
theorem dX7_hasBand_8 : decode cX7_hasBand 8 = .ok (.lconst 0, 1) := by decide +kernel
theorem dX7_hasBand_9 : decode cX7_hasBand 9 = .ok (.lcmp, 1) := by decide +kernel
theorem dX7_hasBand_10 : decode cX7_hasBand 10 = .ok (.ifCond .eq 7, 3) := by decide +kernel
theorem dX7_hasBand_13 : decode cX7_hasBand 13 = .ok (.iconst 1, 1) := by decide +kernel
theorem dX7_hasBand_14 : decode cX7_hasBand 14 = .ok (.goto 4, 3) := by decide +kernel
theorem dX7_hasBand_17 : decode cX7_hasBand 17 = .ok (.iconst 0, 1) := by decide +kernel
theorem dX7_hasBand_18 : decode cX7_hasBand 18 = .ok (.ireturn, 1) := by decide +kernel
theorem dX7_addBand_0 : decode cX7_addBand 0 = .ok (.aload_n 0, 1) := by decide +kernel
theorem dX7_addBand_1 : decode cX7_addBand 1 = .ok (.dup, 1) := by decide +kernel
theorem dX7_addBand_2 : decode cX7_addBand 2 = .ok (.getfield 52, 3) := by decide +kernel
theorem dX7_addBand_5 : decode cX7_addBand 5 = .ok (.lconst 1, 1) := by decide +kernel
theorem dX7_addBand_6 : decode cX7_addBand 6 = .ok (.iload_n 1, 1) := by decide +kernel
theorem dX7_addBand_7 : decode cX7_addBand 7 = .ok (.lshl, 1) := by decide +kernel
theorem dX7_addBand_8 : decode cX7_addBand 8 = .ok (.lor, 1) := by decide +kernel
theorem dX7_addBand_9 : decode cX7_addBand 9 = .ok (.putfield 52, 3) := by decide +kernel
theorem dX7_addBand_12 : decode cX7_addBand 12 = .ok (.aload_n 0, 1) := by decide +kernel
theorem dX7_addBand_13 : decode cX7_addBand 13 = .ok (.getfield 56, 3) := by decide +kernel
theorem dX7_addBand_16 : decode cX7_addBand 16 = .ok (.iload_n 1, 1) := by decide +kernel
theorem dX7_addBand_17 : decode cX7_addBand 17 = .ok (.iload_n 2, 1) := by decide +kernel
theorem dX7_addBand_18 : decode cX7_addBand 18 = .ok (.iastore, 1) := by decide +kernel
theorem dX7_addBand_19 : decode cX7_addBand 19 = .ok (.aload_n 0, 1) := by decide +kernel
theorem dX7_addBand_20 : decode cX7_addBand 20 = .ok (.getfield 59, 3) := by decide +kernel
theorem dX7_addBand_23 : decode cX7_addBand 23 = .ok (.iload_n 1, 1) := by decide +kernel
theorem dX7_addBand_24 : decode cX7_addBand 24 = .ok (.iload_n 3, 1) := by decide +kernel
theorem dX7_addBand_25 : decode cX7_addBand 25 = .ok (.iastore, 1) := by decide +kernel
theorem dX7_addBand_26 : decode cX7_addBand 26 = .ok (.return_, 1) := by decide +kernel
theorem dX7_bandLead_0 : decode cX7_bandLead 0 = .ok (.iload_n 1, 1) := by decide +kernel
theorem dX7_bandLead_1 : decode cX7_bandLead 1 = .ok (.istore_n 2, 1) := by decide +kernel
theorem dX7_bandLead_2 : decode cX7_bandLead 2 = .ok (.iload_n 2, 1) := by decide +kernel
theorem dX7_bandLead_3 : decode cX7_bandLead 3 = .ok (.ifCond .lt 19, 3) := by decide +kernel
theorem dX7_bandLead_6 : decode cX7_bandLead 6 = .ok (.aload_n 0, 1) := by decide +kernel
theorem dX7_bandLead_7 : decode cX7_bandLead 7 = .ok (.iload_n 2, 1) := by decide +kernel
theorem dX7_bandLead_8 : decode cX7_bandLead 8 = .ok (.invokevirtual 68, 3) := by decide +kernel
theorem dX7_bandLead_11 : decode cX7_bandLead 11 = .ok (.ifCond .eq 5, 3) := by decide +kernel
theorem dX7_bandLead_14 : decode cX7_bandLead 14 = .ok (.iload_n 2, 1) := by decide +kernel
theorem dX7_bandLead_15 : decode cX7_bandLead 15 = .ok (.ireturn, 1) := by decide +kernel
theorem dX7_bandLead_16 : decode cX7_bandLead 16 = .ok (.iinc 2 (-1), 3) := by decide +kernel
theorem dX7_bandLead_19 : decode cX7_bandLead 19 = .ok (.goto (-17), 3) := by decide +kernel
theorem dX7_bandLead_22 : decode cX7_bandLead 22 = .ok (.iconst (-1), 1) := by decide +kernel
theorem dX7_bandLead_23 : decode cX7_bandLead 23 = .ok (.ireturn, 1) := by decide +kernel
theorem dX7_smallest_0 : decode cX7_smallest 0 = .ok (.aload_n 0, 1) := by decide +kernel
theorem dX7_smallest_1 : decode cX7_smallest 1 = .ok (.iload_n 1, 1) := by decide +kernel
theorem dX7_smallest_2 : decode cX7_smallest 2 = .ok (.invokevirtual 72, 3) := by decide +kernel
theorem dX7_smallest_5 : decode cX7_smallest 5 = .ok (.istore_n 3, 1) := by decide +kernel
theorem dX7_smallest_6 : decode cX7_smallest 6 = .ok (.iload_n 3, 1) := by decide +kernel
theorem dX7_smallest_7 : decode cX7_smallest 7 = .ok (.ifCond .ge 7, 3) := by decide +kernel
theorem dX7_smallest_10 : decode cX7_smallest 10 = .ok (.iconst 0, 1) := by decide +kernel
theorem dX7_smallest_11 : decode cX7_smallest 11 = .ok (.goto 16, 3) := by decide +kernel
theorem dX7_smallest_14 : decode cX7_smallest 14 = .ok (.iload_n 2, 1) := by decide +kernel
theorem dX7_smallest_15 : decode cX7_smallest 15 = .ok (.iload_n 2, 1) := by decide +kernel
theorem dX7_smallest_16 : decode cX7_smallest 16 = .ok (.aload_n 0, 1) := by decide +kernel
theorem dX7_smallest_17 : decode cX7_smallest 17 = .ok (.getfield 56, 3) := by decide +kernel
theorem dX7_smallest_20 : decode cX7_smallest 20 = .ok (.iload_n 3, 1) := by decide +kernel
theorem dX7_smallest_21 : decode cX7_smallest 21 = .ok (.iaload, 1) := by decide +kernel
theorem dX7_smallest_22 : decode cX7_smallest 22 = .ok (.imul, 1) := by decide +kernel
theorem dX7_smallest_23 : decode cX7_smallest 23 = .ok (.bipush 100, 2) := by decide +kernel
theorem dX7_smallest_25 : decode cX7_smallest 25 = .ok (.idiv, 1) := by decide +kernel
theorem dX7_smallest_26 : decode cX7_smallest 26 = .ok (.isub, 1) := by decide +kernel
theorem dX7_smallest_27 : decode cX7_smallest 27 = .ok (.ireturn, 1) := by decide +kernel
theorem dX7_greatest_0 : decode cX7_greatest 0 = .ok (.aload_n 0, 1) := by decide +kernel
theorem dX7_greatest_1 : decode cX7_greatest 1 = .ok (.iload_n 1, 1) := by decide +kernel
theorem dX7_greatest_2 : decode cX7_greatest 2 = .ok (.invokevirtual 72, 3) := by decide +kernel
theorem dX7_greatest_5 : decode cX7_greatest 5 = .ok (.istore_n 3, 1) := by decide +kernel
theorem dX7_greatest_6 : decode cX7_greatest 6 = .ok (.iload_n 3, 1) := by decide +kernel
theorem dX7_greatest_7 : decode cX7_greatest 7 = .ok (.ifCond .ge 9, 3) := by decide +kernel
theorem dX7_greatest_10 : decode cX7_greatest 10 = .ok (.sipush 9999, 3) := by decide +kernel
theorem dX7_greatest_13 : decode cX7_greatest 13 = .ok (.goto 16, 3) := by decide +kernel
theorem dX7_greatest_16 : decode cX7_greatest 16 = .ok (.iload_n 2, 1) := by decide +kernel
theorem dX7_greatest_17 : decode cX7_greatest 17 = .ok (.iload_n 2, 1) := by decide +kernel
theorem dX7_greatest_18 : decode cX7_greatest 18 = .ok (.aload_n 0, 1) := by decide +kernel
theorem dX7_greatest_19 : decode cX7_greatest 19 = .ok (.getfield 59, 3) := by decide +kernel
theorem dX7_greatest_22 : decode cX7_greatest 22 = .ok (.iload_n 3, 1) := by decide +kernel
theorem dX7_greatest_23 : decode cX7_greatest 23 = .ok (.iaload, 1) := by decide +kernel
theorem dX7_greatest_24 : decode cX7_greatest 24 = .ok (.imul, 1) := by decide +kernel
theorem dX7_greatest_25 : decode cX7_greatest 25 = .ok (.bipush 100, 2) := by decide +kernel
theorem dX7_greatest_27 : decode cX7_greatest 27 = .ok (.idiv, 1) := by decide +kernel
theorem dX7_greatest_28 : decode cX7_greatest 28 = .ok (.iadd, 1) := by decide +kernel
theorem dX7_greatest_29 : decode cX7_greatest 29 = .ok (.ireturn, 1) := by decide +kernel
theorem dX7_excess_0 : decode cX7_excess 0 = .ok (.aload_n 0, 1) := by decide +kernel
theorem dX7_excess_1 : decode cX7_excess 1 = .ok (.iload_n 1, 1) := by decide +kernel
theorem dX7_excess_2 : decode cX7_excess 2 = .ok (.iload_n 2, 1) := by decide +kernel
theorem dX7_excess_3 : decode cX7_excess 3 = .ok (.invokevirtual 76, 3) := by decide +kernel
theorem dX7_excess_6 : decode cX7_excess 6 = .ok (.iload_n 3, 1) := by decide +kernel
theorem dX7_excess_7 : decode cX7_excess 7 = .ok (.isub, 1) := by decide +kernel
theorem dX7_excess_8 : decode cX7_excess 8 = .ok (.istore 4, 2) := by decide +kernel
theorem dX7_excess_10 : decode cX7_excess 10 = .ok (.iload_n 3, 1) := by decide +kernel
theorem dX7_excess_11 : decode cX7_excess 11 = .ok (.aload_n 0, 1) := by decide +kernel
theorem dX7_excess_12 : decode cX7_excess 12 = .ok (.iload_n 1, 1) := by decide +kernel
theorem dX7_excess_13 : decode cX7_excess 13 = .ok (.iload_n 2, 1) := by decide +kernel
theorem dX7_excess_14 : decode cX7_excess 14 = .ok (.invokevirtual 80, 3) := by decide +kernel
theorem dX7_excess_17 : decode cX7_excess 17 = .ok (.isub, 1) := by decide +kernel
theorem dX7_excess_18 : decode cX7_excess 18 = .ok (.istore 5, 2) := by decide +kernel
theorem dX7_excess_20 : decode cX7_excess 20 = .ok (.iconst 0, 1) := by decide +kernel
theorem dX7_excess_21 : decode cX7_excess 21 = .ok (.iload 4, 2) := by decide +kernel
theorem dX7_excess_23 : decode cX7_excess 23 = .ok (.iload 5, 2) := by decide +kernel
theorem dX7_excess_25 : decode cX7_excess 25 = .ok (.invokestatic 83, 3) := by decide +kernel
theorem dX7_excess_28 : decode cX7_excess 28 = .ok (.invokestatic 83, 3) := by decide +kernel
theorem dX7_excess_31 : decode cX7_excess 31 = .ok (.ireturn, 1) := by decide +kernel
theorem dX7_penalty_0 : decode cX7_penalty 0 = .ok (.iload_n 2, 1) := by decide +kernel
theorem dX7_penalty_1 : decode cX7_penalty 1 = .ok (.ifCond .le 12, 3) := by decide +kernel
theorem dX7_penalty_4 : decode cX7_penalty 4 = .ok (.iload_n 1, 1) := by decide +kernel
theorem dX7_penalty_5 : decode cX7_penalty 5 = .ok (.bipush 100, 2) := by decide +kernel
theorem dX7_penalty_7 : decode cX7_penalty 7 = .ok (.imul, 1) := by decide +kernel
theorem dX7_penalty_8 : decode cX7_penalty 8 = .ok (.iload_n 2, 1) := by decide +kernel
theorem dX7_penalty_9 : decode cX7_penalty 9 = .ok (.idiv, 1) := by decide +kernel
theorem dX7_penalty_10 : decode cX7_penalty 10 = .ok (.goto 7, 3) := by decide +kernel
theorem dX7_penalty_13 : decode cX7_penalty 13 = .ok (.iload_n 1, 1) := by decide +kernel
theorem dX7_penalty_14 : decode cX7_penalty 14 = .ok (.bipush 100, 2) := by decide +kernel
theorem dX7_penalty_16 : decode cX7_penalty 16 = .ok (.imul, 1) := by decide +kernel
theorem dX7_penalty_17 : decode cX7_penalty 17 = .ok (.istore_n 3, 1) := by decide +kernel
theorem dX7_penalty_18 : decode cX7_penalty 18 = .ok (.iconst 0, 1) := by decide +kernel
theorem dX7_penalty_19 : decode cX7_penalty 19 = .ok (.istore 4, 2) := by decide +kernel
theorem dX7_penalty_21 : decode cX7_penalty 21 = .ok (.iconst 0, 1) := by decide +kernel
theorem dX7_penalty_22 : decode cX7_penalty 22 = .ok (.istore 5, 2) := by decide +kernel
theorem dX7_penalty_24 : decode cX7_penalty 24 = .ok (.iload 5, 2) := by decide +kernel
theorem dX7_penalty_26 : decode cX7_penalty 26 = .ok (.aload_n 0, 1) := by decide +kernel
theorem dX7_penalty_27 : decode cX7_penalty 27 = .ok (.getfield 42, 3) := by decide +kernel
theorem dX7_penalty_30 : decode cX7_penalty 30 = .ok (.if_icmp .ge 29, 3) := by decide +kernel
theorem dX7_penalty_33 : decode cX7_penalty 33 = .ok (.aload_n 0, 1) := by decide +kernel
theorem dX7_penalty_34 : decode cX7_penalty 34 = .ok (.getfield 45, 3) := by decide +kernel
theorem dX7_penalty_37 : decode cX7_penalty 37 = .ok (.iload 5, 2) := by decide +kernel
theorem dX7_penalty_39 : decode cX7_penalty 39 = .ok (.iaload, 1) := by decide +kernel
theorem dX7_penalty_40 : decode cX7_penalty 40 = .ok (.iload_n 3, 1) := by decide +kernel
theorem dX7_penalty_41 : decode cX7_penalty 41 = .ok (.if_icmp .gt 12, 3) := by decide +kernel
theorem dX7_penalty_44 : decode cX7_penalty 44 = .ok (.aload_n 0, 1) := by decide +kernel
theorem dX7_penalty_45 : decode cX7_penalty 45 = .ok (.getfield 49, 3) := by decide +kernel
theorem dX7_penalty_48 : decode cX7_penalty 48 = .ok (.iload 5, 2) := by decide +kernel
theorem dX7_penalty_50 : decode cX7_penalty 50 = .ok (.iaload, 1) := by decide +kernel
theorem dX7_penalty_51 : decode cX7_penalty 51 = .ok (.istore 4, 2) := by decide +kernel
theorem dX7_penalty_53 : decode cX7_penalty 53 = .ok (.iinc 5 1, 3) := by decide +kernel
theorem dX7_penalty_56 : decode cX7_penalty 56 = .ok (.goto (-32), 3) := by decide +kernel
theorem dX7_penalty_59 : decode cX7_penalty 59 = .ok (.iload_n 1, 1) := by decide +kernel
theorem dX7_penalty_60 : decode cX7_penalty 60 = .ok (.iload 4, 2) := by decide +kernel
theorem dX7_penalty_62 : decode cX7_penalty 62 = .ok (.imul, 1) := by decide +kernel
theorem dX7_penalty_63 : decode cX7_penalty 63 = .ok (.ireturn, 1) := by decide +kernel
theorem dX8_init_0 : decode cX8_init 0 = .ok (.aload_n 0, 1) := by decide +kernel
theorem dX8_init_1 : decode cX8_init 1 = .ok (.invokespecial 3, 3) := by decide +kernel
theorem dX8_init_4 : decode cX8_init 4 = .ok (.aload_n 0, 1) := by decide +kernel
theorem dX8_init_5 : decode cX8_init 5 = .ok (.bipush 20, 2) := by decide +kernel
theorem dX8_init_7 : decode cX8_init 7 = .ok (.newarray .int, 2) := by decide +kernel
theorem dX8_init_9 : decode cX8_init 9 = .ok (.putfield 9, 3) := by decide +kernel
theorem dX8_init_12 : decode cX8_init 12 = .ok (.aload_n 0, 1) := by decide +kernel
theorem dX8_init_13 : decode cX8_init 13 = .ok (.iconst 0, 1) := by decide +kernel
theorem dX8_init_14 : decode cX8_init 14 = .ok (.putfield 15, 3) := by decide +kernel
theorem dX8_init_17 : decode cX8_init 17 = .ok (.aload_n 0, 1) := by decide +kernel
theorem dX8_init_18 : decode cX8_init 18 = .ok (.iconst 0, 1) := by decide +kernel
theorem dX8_init_19 : decode cX8_init 19 = .ok (.putfield 19, 3) := by decide +kernel
theorem dX8_init_22 : decode cX8_init 22 = .ok (.aload_n 0, 1) := by decide +kernel
theorem dX8_init_23 : decode cX8_init 23 = .ok (.iconst 0, 1) := by decide +kernel
theorem dX8_init_24 : decode cX8_init 24 = .ok (.putfield 22, 3) := by decide +kernel
theorem dX8_init_27 : decode cX8_init 27 = .ok (.aload_n 0, 1) := by decide +kernel
theorem dX8_init_28 : decode cX8_init 28 = .ok (.iconst 4, 1) := by decide +kernel
theorem dX8_init_29 : decode cX8_init 29 = .ok (.newarray .int, 2) := by decide +kernel
theorem dX8_init_31 : decode cX8_init 31 = .ok (.putfield 25, 3) := by decide +kernel
theorem dX8_init_34 : decode cX8_init 34 = .ok (.aload_n 0, 1) := by decide +kernel
theorem dX8_init_35 : decode cX8_init 35 = .ok (.iconst 4, 1) := by decide +kernel
theorem dX8_init_36 : decode cX8_init 36 = .ok (.newarray .int, 2) := by decide +kernel
theorem dX8_init_38 : decode cX8_init 38 = .ok (.putfield 28, 3) := by decide +kernel
theorem dX8_init_41 : decode cX8_init 41 = .ok (.aload_n 0, 1) := by decide +kernel
theorem dX8_init_42 : decode cX8_init 42 = .ok (.iconst 0, 1) := by decide +kernel
theorem dX8_init_43 : decode cX8_init 43 = .ok (.putfield 31, 3) := by decide +kernel
theorem dX8_init_46 : decode cX8_init 46 = .ok (.aload_n 0, 1) := by decide +kernel
theorem dX8_init_47 : decode cX8_init 47 = .ok (.iconst 0, 1) := by decide +kernel
theorem dX8_init_48 : decode cX8_init 48 = .ok (.putfield 34, 3) := by decide +kernel
theorem dX8_init_51 : decode cX8_init 51 = .ok (.return_, 1) := by decide +kernel
theorem dX8_run_0 : decode cX8_run 0 = .ok (.aload_n 0, 1) := by decide +kernel
theorem dX8_run_1 : decode cX8_run 1 = .ok (.aload_n 1, 1) := by decide +kernel
theorem dX8_run_2 : decode cX8_run 2 = .ok (.getfield 37, 3) := by decide +kernel
theorem dX8_run_5 : decode cX8_run 5 = .ok (.aload_n 2, 1) := by decide +kernel
theorem dX8_run_6 : decode cX8_run 6 = .ok (.getfield 42, 3) := by decide +kernel
theorem dX8_run_9 : decode cX8_run 9 = .ok (.isub, 1) := by decide +kernel
theorem dX8_run_10 : decode cX8_run 10 = .ok (.iconst 4, 1) := by decide +kernel
theorem dX8_run_11 : decode cX8_run 11 = .ok (.invokestatic 47, 3) := by decide +kernel
theorem dX8_run_14 : decode cX8_run 14 = .ok (.putfield 19, 3) := by decide +kernel
theorem dX8_run_17 : decode cX8_run 17 = .ok (.aload_n 0, 1) := by decide +kernel
theorem dX8_run_18 : decode cX8_run 18 = .ok (.aload_n 1, 1) := by decide +kernel
theorem dX8_run_19 : decode cX8_run 19 = .ok (.getfield 53, 3) := by decide +kernel
theorem dX8_run_22 : decode cX8_run 22 = .ok (.putfield 22, 3) := by decide +kernel
theorem dX8_run_25 : decode cX8_run 25 = .ok (.aload_n 0, 1) := by decide +kernel
theorem dX8_run_26 : decode cX8_run 26 = .ok (.iconst 0, 1) := by decide +kernel
theorem dX8_run_27 : decode cX8_run 27 = .ok (.putfield 31, 3) := by decide +kernel
theorem dX8_run_30 : decode cX8_run 30 = .ok (.aload_n 0, 1) := by decide +kernel
theorem dX8_run_31 : decode cX8_run 31 = .ok (.iconst 0, 1) := by decide +kernel
theorem dX8_run_32 : decode cX8_run 32 = .ok (.putfield 34, 3) := by decide +kernel
theorem dX8_run_35 : decode cX8_run 35 = .ok (.aload_n 0, 1) := by decide +kernel
theorem dX8_run_36 : decode cX8_run 36 = .ok (.iconst 0, 1) := by decide +kernel
theorem dX8_run_37 : decode cX8_run 37 = .ok (.putfield 15, 3) := by decide +kernel
theorem dX8_run_40 : decode cX8_run 40 = .ok (.iconst 0, 1) := by decide +kernel
theorem dX8_run_41 : decode cX8_run 41 = .ok (.istore_n 3, 1) := by decide +kernel
theorem dX8_run_42 : decode cX8_run 42 = .ok (.iload_n 3, 1) := by decide +kernel
theorem dX8_run_43 : decode cX8_run 43 = .ok (.aload_n 2, 1) := by decide +kernel
theorem dX8_run_44 : decode cX8_run 44 = .ok (.getfield 54, 3) := by decide +kernel
theorem dX8_run_47 : decode cX8_run 47 = .ok (.if_icmp .ge 47, 3) := by decide +kernel
theorem dX8_run_50 : decode cX8_run 50 = .ok (.aload_n 2, 1) := by decide +kernel
theorem dX8_run_51 : decode cX8_run 51 = .ok (.getfield 57, 3) := by decide +kernel
theorem dX8_run_54 : decode cX8_run 54 = .ok (.iload_n 3, 1) := by decide +kernel
theorem dX8_run_55 : decode cX8_run 55 = .ok (.iaload, 1) := by decide +kernel
theorem dX8_run_56 : decode cX8_run 56 = .ok (.ifCond .le 32, 3) := by decide +kernel
theorem dX8_run_59 : decode cX8_run 59 = .ok (.aload_n 2, 1) := by decide +kernel
theorem dX8_run_60 : decode cX8_run 60 = .ok (.iload_n 3, 1) := by decide +kernel
theorem dX8_run_61 : decode cX8_run 61 = .ok (.aload_n 1, 1) := by decide +kernel
theorem dX8_run_62 : decode cX8_run 62 = .ok (.invokevirtual 60, 3) := by decide +kernel
theorem dX8_run_65 : decode cX8_run 65 = .ok (.ifCond .eq 23, 3) := by decide +kernel
theorem dX8_run_68 : decode cX8_run 68 = .ok (.aload_n 0, 1) := by decide +kernel
theorem dX8_run_69 : decode cX8_run 69 = .ok (.getfield 9, 3) := by decide +kernel
theorem dX8_run_72 : decode cX8_run 72 = .ok (.aload_n 0, 1) := by decide +kernel
theorem dX8_run_73 : decode cX8_run 73 = .ok (.getfield 15, 3) := by decide +kernel
theorem dX8_run_76 : decode cX8_run 76 = .ok (.iload_n 3, 1) := by decide +kernel
theorem dX8_run_77 : decode cX8_run 77 = .ok (.iastore, 1) := by decide +kernel
theorem dX8_run_78 : decode cX8_run 78 = .ok (.aload_n 0, 1) := by decide +kernel
theorem dX8_run_79 : decode cX8_run 79 = .ok (.dup, 1) := by decide +kernel
theorem dX8_run_80 : decode cX8_run 80 = .ok (.getfield 15, 3) := by decide +kernel
theorem dX8_run_83 : decode cX8_run 83 = .ok (.iconst 1, 1) := by decide +kernel
theorem dX8_run_84 : decode cX8_run 84 = .ok (.iadd, 1) := by decide +kernel
theorem dX8_run_85 : decode cX8_run 85 = .ok (.putfield 15, 3) := by decide +kernel
theorem dX8_run_88 : decode cX8_run 88 = .ok (.iinc 3 1, 3) := by decide +kernel
theorem dX8_run_91 : decode cX8_run 91 = .ok (.goto (-49), 3) := by decide +kernel
theorem dX8_run_94 : decode cX8_run 94 = .ok (.aload_n 0, 1) := by decide +kernel
theorem dX8_run_95 : decode cX8_run 95 = .ok (.aload_n 2, 1) := by decide +kernel
theorem dX8_run_96 : decode cX8_run 96 = .ok (.iconst 0, 1) := by decide +kernel
theorem dX8_run_97 : decode cX8_run 97 = .ok (.iconst 0, 1) := by decide +kernel
theorem dX8_run_98 : decode cX8_run 98 = .ok (.iconst 0, 1) := by decide +kernel
theorem dX8_run_99 : decode cX8_run 99 = .ok (.invokevirtual 64, 3) := by decide +kernel
theorem dX8_run_102 : decode cX8_run 102 = .ok (.return_, 1) := by decide +kernel
theorem dX8_extend_0 : decode cX8_extend 0 = .ok (.iload 4, 2) := by decide +kernel
theorem dX8_extend_2 : decode cX8_extend 2 = .ok (.aload_n 0, 1) := by decide +kernel
theorem dX8_extend_3 : decode cX8_extend 3 = .ok (.getfield 34, 3) := by decide +kernel
theorem dX8_extend_6 : decode cX8_extend 6 = .ok (.if_icmp .le 28, 3) := by decide +kernel
theorem dX8_extend_9 : decode cX8_extend 9 = .ok (.aload_n 0, 1) := by decide +kernel
theorem dX8_extend_10 : decode cX8_extend 10 = .ok (.iload 4, 2) := by decide +kernel
theorem dX8_extend_12 : decode cX8_extend 12 = .ok (.putfield 34, 3) := by decide +kernel
theorem dX8_extend_15 : decode cX8_extend 15 = .ok (.aload_n 0, 1) := by decide +kernel
theorem dX8_extend_16 : decode cX8_extend 16 = .ok (.iload_n 3, 1) := by decide +kernel
theorem dX8_extend_17 : decode cX8_extend 17 = .ok (.putfield 31, 3) := by decide +kernel
theorem dX8_extend_20 : decode cX8_extend 20 = .ok (.aload_n 0, 1) := by decide +kernel
theorem dX8_extend_21 : decode cX8_extend 21 = .ok (.getfield 25, 3) := by decide +kernel
theorem dX8_extend_24 : decode cX8_extend 24 = .ok (.iconst 0, 1) := by decide +kernel
theorem dX8_extend_25 : decode cX8_extend 25 = .ok (.aload_n 0, 1) := by decide +kernel
theorem dX8_extend_26 : decode cX8_extend 26 = .ok (.getfield 28, 3) := by decide +kernel
theorem dX8_extend_29 : decode cX8_extend 29 = .ok (.iconst 0, 1) := by decide +kernel
theorem dX8_extend_30 : decode cX8_extend 30 = .ok (.iload_n 3, 1) := by decide +kernel
theorem dX8_extend_31 : decode cX8_extend 31 = .ok (.invokestatic 68, 3) := by decide +kernel
theorem dX8_extend_34 : decode cX8_extend 34 = .ok (.iload_n 3, 1) := by decide +kernel
theorem dX8_extend_35 : decode cX8_extend 35 = .ok (.aload_n 0, 1) := by decide +kernel
theorem dX8_extend_36 : decode cX8_extend 36 = .ok (.getfield 19, 3) := by decide +kernel
theorem dX8_extend_39 : decode cX8_extend 39 = .ok (.if_icmp .lt 4, 3) := by decide +kernel
theorem dX8_extend_42 : decode cX8_extend 42 = .ok (.return_, 1) := by decide +kernel
theorem dX8_extend_43 : decode cX8_extend 43 = .ok (.iload_n 2, 1) := by decide +kernel
theorem dX8_extend_44 : decode cX8_extend 44 = .ok (.istore 5, 2) := by decide +kernel
theorem dX8_extend_46 : decode cX8_extend 46 = .ok (.iload 5, 2) := by decide +kernel
theorem dX8_extend_48 : decode cX8_extend 48 = .ok (.aload_n 0, 1) := by decide +kernel
theorem dX8_extend_49 : decode cX8_extend 49 = .ok (.getfield 15, 3) := by decide +kernel
theorem dX8_extend_52 : decode cX8_extend 52 = .ok (.if_icmp .ge 65, 3) := by decide +kernel
theorem dX8_extend_55 : decode cX8_extend 55 = .ok (.aload_n 0, 1) := by decide +kernel
theorem dX8_extend_56 : decode cX8_extend 56 = .ok (.aload_n 1, 1) := by decide +kernel
theorem dX8_extend_57 : decode cX8_extend 57 = .ok (.aload_n 0, 1) := by decide +kernel
theorem dX8_extend_58 : decode cX8_extend 58 = .ok (.getfield 9, 3) := by decide +kernel
theorem dX8_extend_61 : decode cX8_extend 61 = .ok (.iload 5, 2) := by decide +kernel
theorem dX8_extend_63 : decode cX8_extend 63 = .ok (.iaload, 1) := by decide +kernel
theorem dX8_extend_64 : decode cX8_extend 64 = .ok (.iload_n 3, 1) := by decide +kernel
theorem dX8_extend_65 : decode cX8_extend 65 = .ok (.invokevirtual 74, 3) := by decide +kernel
theorem dX8_extend_68 : decode cX8_extend 68 = .ok (.ifCond .eq 43, 3) := by decide +kernel
theorem dX8_extend_71 : decode cX8_extend 71 = .ok (.aload_n 0, 1) := by decide +kernel
theorem dX8_extend_72 : decode cX8_extend 72 = .ok (.getfield 25, 3) := by decide +kernel
theorem dX8_extend_75 : decode cX8_extend 75 = .ok (.iload_n 3, 1) := by decide +kernel
theorem dX8_extend_76 : decode cX8_extend 76 = .ok (.aload_n 0, 1) := by decide +kernel
theorem dX8_extend_77 : decode cX8_extend 77 = .ok (.getfield 9, 3) := by decide +kernel
theorem dX8_extend_80 : decode cX8_extend 80 = .ok (.iload 5, 2) := by decide +kernel
theorem dX8_extend_82 : decode cX8_extend 82 = .ok (.iaload, 1) := by decide +kernel
theorem dX8_extend_83 : decode cX8_extend 83 = .ok (.iastore, 1) := by decide +kernel
theorem dX8_extend_84 : decode cX8_extend 84 = .ok (.aload_n 0, 1) := by decide +kernel
theorem dX8_extend_85 : decode cX8_extend 85 = .ok (.aload_n 1, 1) := by decide +kernel
theorem dX8_extend_86 : decode cX8_extend 86 = .ok (.iload 5, 2) := by decide +kernel
theorem dX8_extend_88 : decode cX8_extend 88 = .ok (.iconst 1, 1) := by decide +kernel
theorem dX8_extend_89 : decode cX8_extend 89 = .ok (.iadd, 1) := by decide +kernel
theorem dX8_extend_90 : decode cX8_extend 90 = .ok (.iload_n 3, 1) := by decide +kernel
theorem dX8_extend_91 : decode cX8_extend 91 = .ok (.iconst 1, 1) := by decide +kernel
theorem dX8_extend_92 : decode cX8_extend 92 = .ok (.iadd, 1) := by decide +kernel
theorem dX8_extend_93 : decode cX8_extend 93 = .ok (.iload 4, 2) := by decide +kernel
theorem dX8_extend_95 : decode cX8_extend 95 = .ok (.aload_n 1, 1) := by decide +kernel
theorem dX8_extend_96 : decode cX8_extend 96 = .ok (.getfield 57, 3) := by decide +kernel
theorem dX8_extend_99 : decode cX8_extend 99 = .ok (.aload_n 0, 1) := by decide +kernel
theorem dX8_extend_100 : decode cX8_extend 100 = .ok (.getfield 9, 3) := by decide +kernel
theorem dX8_extend_103 : decode cX8_extend 103 = .ok (.iload 5, 2) := by decide +kernel
theorem dX8_extend_105 : decode cX8_extend 105 = .ok (.iaload, 1) := by decide +kernel
theorem dX8_extend_106 : decode cX8_extend 106 = .ok (.iaload, 1) := by decide +kernel
theorem dX8_extend_107 : decode cX8_extend 107 = .ok (.iadd, 1) := by decide +kernel
theorem dX8_extend_108 : decode cX8_extend 108 = .ok (.invokevirtual 64, 3) := by decide +kernel
theorem dX8_extend_111 : decode cX8_extend 111 = .ok (.iinc 5 1, 3) := by decide +kernel
theorem dX8_extend_114 : decode cX8_extend 114 = .ok (.goto (-68), 3) := by decide +kernel
theorem dX8_extend_117 : decode cX8_extend 117 = .ok (.return_, 1) := by decide +kernel
theorem dX8_fits_0 : decode cX8_fits 0 = .ok (.iconst 0, 1) := by decide +kernel
theorem dX8_fits_1 : decode cX8_fits 1 = .ok (.istore 4, 2) := by decide +kernel
theorem dX8_fits_3 : decode cX8_fits 3 = .ok (.iload 4, 2) := by decide +kernel
theorem dX8_fits_5 : decode cX8_fits 5 = .ok (.iload_n 3, 1) := by decide +kernel
theorem dX8_fits_6 : decode cX8_fits 6 = .ok (.if_icmp .ge 30, 3) := by decide +kernel
theorem dX8_fits_9 : decode cX8_fits 9 = .ok (.aload_n 1, 1) := by decide +kernel
theorem dX8_fits_10 : decode cX8_fits 10 = .ok (.iload_n 2, 1) := by decide +kernel
theorem dX8_fits_11 : decode cX8_fits 11 = .ok (.aload_n 0, 1) := by decide +kernel
theorem dX8_fits_12 : decode cX8_fits 12 = .ok (.getfield 25, 3) := by decide +kernel
theorem dX8_fits_15 : decode cX8_fits 15 = .ok (.iload 4, 2) := by decide +kernel
theorem dX8_fits_17 : decode cX8_fits 17 = .ok (.iaload, 1) := by decide +kernel
theorem dX8_fits_18 : decode cX8_fits 18 = .ok (.invokevirtual 78, 3) := by decide +kernel
theorem dX8_fits_21 : decode cX8_fits 21 = .ok (.aload_n 0, 1) := by decide +kernel
theorem dX8_fits_22 : decode cX8_fits 22 = .ok (.getfield 22, 3) := by decide +kernel
theorem dX8_fits_25 : decode cX8_fits 25 = .ok (.if_icmp .ge 5, 3) := by decide +kernel
theorem dX8_fits_28 : decode cX8_fits 28 = .ok (.iconst 0, 1) := by decide +kernel
theorem dX8_fits_29 : decode cX8_fits 29 = .ok (.ireturn, 1) := by decide +kernel
theorem dX8_fits_30 : decode cX8_fits 30 = .ok (.iinc 4 1, 3) := by decide +kernel
theorem dX8_fits_33 : decode cX8_fits 33 = .ok (.goto (-30), 3) := by decide +kernel
theorem dX8_fits_36 : decode cX8_fits 36 = .ok (.iconst 1, 1) := by decide +kernel
theorem dX8_fits_37 : decode cX8_fits 37 = .ok (.ireturn, 1) := by decide +kernel
theorem dX8_breachAt_0 : decode cX8_breachAt 0 = .ok (.iload_n 1, 1) := by decide +kernel
theorem dX8_breachAt_1 : decode cX8_breachAt 1 = .ok (.aload_n 0, 1) := by decide +kernel
theorem dX8_breachAt_2 : decode cX8_breachAt 2 = .ok (.getfield 31, 3) := by decide +kernel
theorem dX8_breachAt_5 : decode cX8_breachAt 5 = .ok (.if_icmp .ge 12, 3) := by decide +kernel
theorem dX8_breachAt_8 : decode cX8_breachAt 8 = .ok (.aload_n 0, 1) := by decide +kernel
theorem dX8_breachAt_9 : decode cX8_breachAt 9 = .ok (.getfield 28, 3) := by decide +kernel
theorem dX8_breachAt_12 : decode cX8_breachAt 12 = .ok (.iload_n 1, 1) := by decide +kernel
theorem dX8_breachAt_13 : decode cX8_breachAt 13 = .ok (.iaload, 1) := by decide +kernel
theorem dX8_breachAt_14 : decode cX8_breachAt 14 = .ok (.goto 4, 3) := by decide +kernel
theorem dX8_breachAt_17 : decode cX8_breachAt 17 = .ok (.iconst (-1), 1) := by decide +kernel
theorem dX8_breachAt_18 : decode cX8_breachAt 18 = .ok (.ireturn, 1) := by decide +kernel
theorem dX9_init_0 : decode cX9_init 0 = .ok (.aload_n 0, 1) := by decide +kernel
theorem dX9_init_1 : decode cX9_init 1 = .ok (.invokespecial 1, 3) := by decide +kernel
theorem dX9_init_4 : decode cX9_init 4 = .ok (.aload_n 0, 1) := by decide +kernel
theorem dX9_init_5 : decode cX9_init 5 = .ok (.new 7, 3) := by decide +kernel
theorem dX9_init_8 : decode cX9_init 8 = .ok (.dup, 1) := by decide +kernel
theorem dX9_init_9 : decode cX9_init 9 = .ok (.invokespecial 9, 3) := by decide +kernel
theorem dX9_init_12 : decode cX9_init 12 = .ok (.putfield 10, 3) := by decide +kernel
theorem dX9_init_15 : decode cX9_init 15 = .ok (.aload_n 0, 1) := by decide +kernel
theorem dX9_init_16 : decode cX9_init 16 = .ok (.new 16, 3) := by decide +kernel
theorem dX9_init_19 : decode cX9_init 19 = .ok (.dup, 1) := by decide +kernel
theorem dX9_init_20 : decode cX9_init 20 = .ok (.invokespecial 18, 3) := by decide +kernel
theorem dX9_init_23 : decode cX9_init 23 = .ok (.putfield 19, 3) := by decide +kernel
theorem dX9_init_26 : decode cX9_init 26 = .ok (.aload_n 0, 1) := by decide +kernel
theorem dX9_init_27 : decode cX9_init 27 = .ok (.new 23, 3) := by decide +kernel
theorem dX9_init_30 : decode cX9_init 30 = .ok (.dup, 1) := by decide +kernel
theorem dX9_init_31 : decode cX9_init 31 = .ok (.invokespecial 25, 3) := by decide +kernel
theorem dX9_init_34 : decode cX9_init 34 = .ok (.putfield 26, 3) := by decide +kernel
theorem dX9_init_37 : decode cX9_init 37 = .ok (.aload_n 0, 1) := by decide +kernel
theorem dX9_init_38 : decode cX9_init 38 = .ok (.iconst (-1), 1) := by decide +kernel
theorem dX9_init_39 : decode cX9_init 39 = .ok (.putfield 30, 3) := by decide +kernel
theorem dX9_init_42 : decode cX9_init 42 = .ok (.aload_n 0, 1) := by decide +kernel
theorem dX9_init_43 : decode cX9_init 43 = .ok (.new 34, 3) := by decide +kernel
theorem dX9_init_46 : decode cX9_init 46 = .ok (.dup, 1) := by decide +kernel
theorem dX9_init_47 : decode cX9_init 47 = .ok (.invokespecial 36, 3) := by decide +kernel
theorem dX9_init_50 : decode cX9_init 50 = .ok (.putfield 37, 3) := by decide +kernel
theorem dX9_init_53 : decode cX9_init 53 = .ok (.aload_n 0, 1) := by decide +kernel
theorem dX9_init_54 : decode cX9_init 54 = .ok (.new 41, 3) := by decide +kernel
theorem dX9_init_57 : decode cX9_init 57 = .ok (.dup, 1) := by decide +kernel
theorem dX9_init_58 : decode cX9_init 58 = .ok (.invokespecial 43, 3) := by decide +kernel
theorem dX9_init_61 : decode cX9_init 61 = .ok (.putfield 44, 3) := by decide +kernel
theorem dX9_init_64 : decode cX9_init 64 = .ok (.aload_n 0, 1) := by decide +kernel
theorem dX9_init_65 : decode cX9_init 65 = .ok (.new 41, 3) := by decide +kernel
theorem dX9_init_68 : decode cX9_init 68 = .ok (.dup, 1) := by decide +kernel
theorem dX9_init_69 : decode cX9_init 69 = .ok (.invokespecial 43, 3) := by decide +kernel
theorem dX9_init_72 : decode cX9_init 72 = .ok (.putfield 48, 3) := by decide +kernel
theorem dX9_init_75 : decode cX9_init 75 = .ok (.return_, 1) := by decide +kernel
theorem dX9_append_0 : decode cX9_append 0 = .ok (.aload_n 0, 1) := by decide +kernel
theorem dX9_append_1 : decode cX9_append 1 = .ok (.getfield 26, 3) := by decide +kernel
theorem dX9_append_4 : decode cX9_append 4 = .ok (.getfield 51, 3) := by decide +kernel
theorem dX9_append_7 : decode cX9_append 7 = .ok (.astore 6, 2) := by decide +kernel
theorem dX9_append_9 : decode cX9_append 9 = .ok (.aload 6, 2) := by decide +kernel
theorem dX9_append_11 : decode cX9_append 11 = .ok (.getfield 55, 3) := by decide +kernel
theorem dX9_append_14 : decode cX9_append 14 = .ok (.bipush 20, 2) := by decide +kernel
theorem dX9_append_16 : decode cX9_append 16 = .ok (.iadd, 1) := by decide +kernel
theorem dX9_append_17 : decode cX9_append 17 = .ok (.sipush 800, 3) := by decide +kernel
theorem dX9_append_20 : decode cX9_append 20 = .ok (.if_icmp .le 5, 3) := by decide +kernel
theorem dX9_append_23 : decode cX9_append 23 = .ok (.iconst (-1), 1) := by decide +kernel
theorem dX9_append_24 : decode cX9_append 24 = .ok (.ireturn, 1) := by decide +kernel
theorem dX9_append_25 : decode cX9_append 25 = .ok (.aload 6, 2) := by decide +kernel
theorem dX9_append_27 : decode cX9_append 27 = .ok (.iload_n 1, 1) := by decide +kernel
theorem dX9_append_28 : decode cX9_append 28 = .ok (.invokevirtual 60, 3) := by decide +kernel
theorem dX9_append_31 : decode cX9_append 31 = .ok (.aload 6, 2) := by decide +kernel
theorem dX9_append_33 : decode cX9_append 33 = .ok (.iload_n 2, 1) := by decide +kernel
theorem dX9_append_34 : decode cX9_append 34 = .ok (.invokevirtual 60, 3) := by decide +kernel
theorem dX9_append_37 : decode cX9_append 37 = .ok (.aload 6, 2) := by decide +kernel
theorem dX9_append_39 : decode cX9_append 39 = .ok (.iload_n 3, 1) := by decide +kernel
theorem dX9_append_40 : decode cX9_append 40 = .ok (.invokevirtual 60, 3) := by decide +kernel
theorem dX9_append_43 : decode cX9_append 43 = .ok (.aload 6, 2) := by decide +kernel
theorem dX9_append_45 : decode cX9_append 45 = .ok (.iload 4, 2) := by decide +kernel
theorem dX9_append_47 : decode cX9_append 47 = .ok (.invokevirtual 60, 3) := by decide +kernel
theorem dX9_append_50 : decode cX9_append 50 = .ok (.aload 6, 2) := by decide +kernel
theorem dX9_append_52 : decode cX9_append 52 = .ok (.iload 5, 2) := by decide +kernel
theorem dX9_append_54 : decode cX9_append 54 = .ok (.invokevirtual 60, 3) := by decide +kernel
theorem dX9_append_57 : decode cX9_append 57 = .ok (.aload 6, 2) := by decide +kernel
theorem dX9_append_59 : decode cX9_append 59 = .ok (.getfield 55, 3) := by decide +kernel
theorem dX9_append_62 : decode cX9_append 62 = .ok (.ireturn, 1) := by decide +kernel
theorem dX9_load_0 : decode cX9_load 0 = .ok (.iload_n 1, 1) := by decide +kernel
theorem dX9_load_1 : decode cX9_load 1 = .ok (.ifCond .lt 17, 3) := by decide +kernel
theorem dX9_load_4 : decode cX9_load 4 = .ok (.iload_n 1, 1) := by decide +kernel
theorem dX9_load_5 : decode cX9_load 5 = .ok (.aload_n 0, 1) := by decide +kernel
theorem dX9_load_6 : decode cX9_load 6 = .ok (.getfield 26, 3) := by decide +kernel
theorem dX9_load_9 : decode cX9_load 9 = .ok (.getfield 51, 3) := by decide +kernel
theorem dX9_load_12 : decode cX9_load 12 = .ok (.getfield 55, 3) := by decide +kernel
theorem dX9_load_15 : decode cX9_load 15 = .ok (.if_icmp .le 13, 3) := by decide +kernel
theorem dX9_load_18 : decode cX9_load 18 = .ok (.new 64, 3) := by decide +kernel
theorem dX9_load_21 : decode cX9_load 21 = .ok (.dup, 1) := by decide +kernel
theorem dX9_load_22 : decode cX9_load 22 = .ok (.ldc 66, 2) := by decide +kernel
theorem dX9_load_24 : decode cX9_load 24 = .ok (.invokespecial 68, 3) := by decide +kernel
theorem dX9_load_27 : decode cX9_load 27 = .ok (.athrow, 1) := by decide +kernel
theorem dX9_load_28 : decode cX9_load 28 = .ok (.aload_n 0, 1) := by decide +kernel
theorem dX9_load_29 : decode cX9_load 29 = .ok (.getfield 26, 3) := by decide +kernel
theorem dX9_load_32 : decode cX9_load 32 = .ok (.iload_n 1, 1) := by decide +kernel
theorem dX9_load_33 : decode cX9_load 33 = .ok (.invokevirtual 71, 3) := by decide +kernel
theorem dX9_load_36 : decode cX9_load 36 = .ok (.istore_n 2, 1) := by decide +kernel
theorem dX9_load_37 : decode cX9_load 37 = .ok (.aload_n 0, 1) := by decide +kernel
theorem dX9_load_38 : decode cX9_load 38 = .ok (.getfield 26, 3) := by decide +kernel
theorem dX9_load_41 : decode cX9_load 41 = .ok (.getfield 51, 3) := by decide +kernel
theorem dX9_load_44 : decode cX9_load 44 = .ok (.iconst 0, 1) := by decide +kernel
theorem dX9_load_45 : decode cX9_load 45 = .ok (.putfield 55, 3) := by decide +kernel
theorem dX9_load_48 : decode cX9_load 48 = .ok (.aload_n 0, 1) := by decide +kernel
theorem dX9_load_49 : decode cX9_load 49 = .ok (.aload_n 0, 1) := by decide +kernel
theorem dX9_load_50 : decode cX9_load 50 = .ok (.getfield 26, 3) := by decide +kernel
theorem dX9_load_53 : decode cX9_load 53 = .ok (.getfield 51, 3) := by decide +kernel
theorem dX9_load_56 : decode cX9_load 56 = .ok (.getfield 75, 3) := by decide +kernel
theorem dX9_load_59 : decode cX9_load 59 = .ok (.putfield 30, 3) := by decide +kernel
theorem dX9_load_62 : decode cX9_load 62 = .ok (.iload_n 2, 1) := by decide +kernel
theorem dX9_load_63 : decode cX9_load 63 = .ok (.ifCond .eq 5, 3) := by decide +kernel
theorem dX9_load_66 : decode cX9_load 66 = .ok (.iload_n 2, 1) := by decide +kernel
theorem dX9_load_67 : decode cX9_load 67 = .ok (.ireturn, 1) := by decide +kernel
theorem dX9_load_68 : decode cX9_load 68 = .ok (.aload_n 0, 1) := by decide +kernel
theorem dX9_load_69 : decode cX9_load 69 = .ok (.getfield 19, 3) := by decide +kernel
theorem dX9_load_72 : decode cX9_load 72 = .ok (.aload_n 0, 1) := by decide +kernel
theorem dX9_load_73 : decode cX9_load 73 = .ok (.getfield 10, 3) := by decide +kernel
theorem dX9_load_76 : decode cX9_load 76 = .ok (.invokevirtual 78, 3) := by decide +kernel
theorem dX9_load_79 : decode cX9_load 79 = .ok (.aload_n 0, 1) := by decide +kernel
theorem dX9_load_80 : decode cX9_load 80 = .ok (.getfield 10, 3) := by decide +kernel
theorem dX9_load_83 : decode cX9_load 83 = .ok (.aload_n 0, 1) := by decide +kernel
theorem dX9_load_84 : decode cX9_load 84 = .ok (.getfield 26, 3) := by decide +kernel
theorem dX9_load_87 : decode cX9_load 87 = .ok (.getfield 82, 3) := by decide +kernel
theorem dX9_load_90 : decode cX9_load 90 = .ok (.invokevirtual 85, 3) := by decide +kernel
theorem dX9_load_93 : decode cX9_load 93 = .ok (.aload_n 0, 1) := by decide +kernel
theorem dX9_load_94 : decode cX9_load 94 = .ok (.getfield 10, 3) := by decide +kernel
theorem dX9_load_97 : decode cX9_load 97 = .ok (.getfield 88, 3) := by decide +kernel
theorem dX9_load_100 : decode cX9_load 100 = .ok (.getfield 92, 3) := by decide +kernel
theorem dX9_load_103 : decode cX9_load 103 = .ok (.ireturn, 1) := by decide +kernel
theorem dX9_errorOffset_0 : decode cX9_errorOffset 0 = .ok (.aload_n 0, 1) := by decide +kernel
theorem dX9_errorOffset_1 : decode cX9_errorOffset 1 = .ok (.getfield 30, 3) := by decide +kernel
theorem dX9_errorOffset_4 : decode cX9_errorOffset 4 = .ok (.ireturn, 1) := by decide +kernel
theorem dX9_periodCount_0 : decode cX9_periodCount 0 = .ok (.aload_n 0, 1) := by decide +kernel
theorem dX9_periodCount_1 : decode cX9_periodCount 1 = .ok (.getfield 10, 3) := by decide +kernel
theorem dX9_periodCount_4 : decode cX9_periodCount 4 = .ok (.getfield 88, 3) := by decide +kernel
theorem dX9_periodCount_7 : decode cX9_periodCount 7 = .ok (.getfield 92, 3) := by decide +kernel
theorem dX9_periodCount_10 : decode cX9_periodCount 10 = .ok (.ireturn, 1) := by decide +kernel
theorem dX9_clock_0 : decode cX9_clock 0 = .ok (.aload_n 0, 1) := by decide +kernel
theorem dX9_clock_1 : decode cX9_clock 1 = .ok (.getfield 10, 3) := by decide +kernel
theorem dX9_clock_4 : decode cX9_clock 4 = .ok (.getfield 97, 3) := by decide +kernel
theorem dX9_clock_7 : decode cX9_clock 7 = .ok (.getfield 100, 3) := by decide +kernel
theorem dX9_clock_10 : decode cX9_clock 10 = .ok (.ireturn, 1) := by decide +kernel
