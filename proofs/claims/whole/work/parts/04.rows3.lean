theorem dX10_missedUnits_21 : decode cX10_missedUnits 21 = .ok (.iload_n 1, 1) := by decide +kernel
theorem dX10_missedUnits_22 : decode cX10_missedUnits 22 = .ok (.invokestatic 148, 3) := by decide +kernel
theorem dX10_missedUnits_25 : decode cX10_missedUnits 25 = .ok (.iconst 4, 1) := by decide +kernel
theorem dX10_missedUnits_26 : decode cX10_missedUnits 26 = .ok (.iadd, 1) := by decide +kernel
theorem dX10_missedUnits_27 : decode cX10_missedUnits 27 = .ok (.iaload, 1) := by decide +kernel
theorem dX10_missedUnits_28 : decode cX10_missedUnits 28 = .ok (.ireturn, 1) := by decide +kernel
theorem dX10_invoice_0 : decode cX10_invoice 0 = .ok (.aload_n 0, 1) := by decide +kernel
theorem dX10_invoice_1 : decode cX10_invoice 1 = .ok (.iconst 0, 1) := by decide +kernel
theorem dX10_invoice_2 : decode cX10_invoice 2 = .ok (.putfield 52, 3) := by decide +kernel
theorem dX10_invoice_5 : decode cX10_invoice 5 = .ok (.aload_n 0, 1) := by decide +kernel
theorem dX10_invoice_6 : decode cX10_invoice 6 = .ok (.iload_n 1, 1) := by decide +kernel
theorem dX10_invoice_7 : decode cX10_invoice 7 = .ok (.invokevirtual 237, 3) := by decide +kernel
theorem dX10_invoice_10 : decode cX10_invoice 10 = .ok (.ifCond .eq 7, 3) := by decide +kernel
theorem dX10_invoice_13 : decode cX10_invoice 13 = .ok (.lconst 0, 1) := by decide +kernel
theorem dX10_invoice_14 : decode cX10_invoice 14 = .ok (.goto 9, 3) := by decide +kernel
theorem dX10_invoice_17 : decode cX10_invoice 17 = .ok (.aload_n 0, 1) := by decide +kernel
theorem dX10_invoice_18 : decode cX10_invoice 18 = .ok (.getfield 31, 3) := by decide +kernel
theorem dX10_invoice_21 : decode cX10_invoice 21 = .ok (.iload_n 1, 1) := by decide +kernel
theorem dX10_invoice_22 : decode cX10_invoice 22 = .ok (.laload, 1) := by decide +kernel
theorem dX10_invoice_23 : decode cX10_invoice 23 = .ok (.lreturn, 1) := by decide +kernel
theorem dX10_balanceNow_0 : decode cX10_balanceNow 0 = .ok (.lconst 0, 1) := by decide +kernel
theorem dX10_balanceNow_1 : decode cX10_balanceNow 1 = .ok (.lstore_n 1, 1) := by decide +kernel
theorem dX10_balanceNow_2 : decode cX10_balanceNow 2 = .ok (.iconst 0, 1) := by decide +kernel
theorem dX10_balanceNow_3 : decode cX10_balanceNow 3 = .ok (.istore_n 3, 1) := by decide +kernel
theorem dX10_balanceNow_4 : decode cX10_balanceNow 4 = .ok (.iload_n 3, 1) := by decide +kernel
theorem dX10_balanceNow_5 : decode cX10_balanceNow 5 = .ok (.aload_n 0, 1) := by decide +kernel
theorem dX10_balanceNow_6 : decode cX10_balanceNow 6 = .ok (.getfield 17, 3) := by decide +kernel
theorem dX10_balanceNow_9 : decode cX10_balanceNow 9 = .ok (.iconst 0, 1) := by decide +kernel
theorem dX10_balanceNow_10 : decode cX10_balanceNow 10 = .ok (.iaload, 1) := by decide +kernel
theorem dX10_balanceNow_11 : decode cX10_balanceNow 11 = .ok (.if_icmp .ge 18, 3) := by decide +kernel
theorem dX10_balanceNow_14 : decode cX10_balanceNow 14 = .ok (.lload_n 1, 1) := by decide +kernel
theorem dX10_balanceNow_15 : decode cX10_balanceNow 15 = .ok (.aload_n 0, 1) := by decide +kernel
theorem dX10_balanceNow_16 : decode cX10_balanceNow 16 = .ok (.getfield 31, 3) := by decide +kernel
theorem dX10_balanceNow_19 : decode cX10_balanceNow 19 = .ok (.iload_n 3, 1) := by decide +kernel
theorem dX10_balanceNow_20 : decode cX10_balanceNow 20 = .ok (.laload, 1) := by decide +kernel
theorem dX10_balanceNow_21 : decode cX10_balanceNow 21 = .ok (.ladd, 1) := by decide +kernel
theorem dX10_balanceNow_22 : decode cX10_balanceNow 22 = .ok (.lstore_n 1, 1) := by decide +kernel
theorem dX10_balanceNow_23 : decode cX10_balanceNow 23 = .ok (.iinc 3 1, 3) := by decide +kernel
theorem dX10_balanceNow_26 : decode cX10_balanceNow 26 = .ok (.goto (-22), 3) := by decide +kernel
theorem dX10_balanceNow_29 : decode cX10_balanceNow 29 = .ok (.iconst 0, 1) := by decide +kernel
theorem dX10_balanceNow_30 : decode cX10_balanceNow 30 = .ok (.istore_n 3, 1) := by decide +kernel
theorem dX10_balanceNow_31 : decode cX10_balanceNow 31 = .ok (.iload_n 3, 1) := by decide +kernel
theorem dX10_balanceNow_32 : decode cX10_balanceNow 32 = .ok (.aload_n 0, 1) := by decide +kernel
theorem dX10_balanceNow_33 : decode cX10_balanceNow 33 = .ok (.getfield 17, 3) := by decide +kernel
theorem dX10_balanceNow_36 : decode cX10_balanceNow 36 = .ok (.bipush 12, 2) := by decide +kernel
theorem dX10_balanceNow_38 : decode cX10_balanceNow 38 = .ok (.iaload, 1) := by decide +kernel
theorem dX10_balanceNow_39 : decode cX10_balanceNow 39 = .ok (.if_icmp .ge 43, 3) := by decide +kernel
theorem dX10_balanceNow_42 : decode cX10_balanceNow 42 = .ok (.lload_n 1, 1) := by decide +kernel
theorem dX10_balanceNow_43 : decode cX10_balanceNow 43 = .ok (.aload_n 0, 1) := by decide +kernel
theorem dX10_balanceNow_44 : decode cX10_balanceNow 44 = .ok (.getfield 17, 3) := by decide +kernel
theorem dX10_balanceNow_47 : decode cX10_balanceNow 47 = .ok (.iload_n 3, 1) := by decide +kernel
theorem dX10_balanceNow_48 : decode cX10_balanceNow 48 = .ok (.invokestatic 220, 3) := by decide +kernel
theorem dX10_balanceNow_51 : decode cX10_balanceNow 51 = .ok (.iconst 3, 1) := by decide +kernel
theorem dX10_balanceNow_52 : decode cX10_balanceNow 52 = .ok (.iadd, 1) := by decide +kernel
theorem dX10_balanceNow_53 : decode cX10_balanceNow 53 = .ok (.iaload, 1) := by decide +kernel
theorem dX10_balanceNow_54 : decode cX10_balanceNow 54 = .ok (.iconst 1, 1) := by decide +kernel
theorem dX10_balanceNow_55 : decode cX10_balanceNow 55 = .ok (.if_icmp .ne 7, 3) := by decide +kernel
theorem dX10_balanceNow_58 : decode cX10_balanceNow 58 = .ok (.lconst 0, 1) := by decide +kernel
theorem dX10_balanceNow_59 : decode cX10_balanceNow 59 = .ok (.goto 15, 3) := by decide +kernel
theorem dX10_balanceNow_62 : decode cX10_balanceNow 62 = .ok (.aload_n 0, 1) := by decide +kernel
theorem dX10_balanceNow_63 : decode cX10_balanceNow 63 = .ok (.getfield 17, 3) := by decide +kernel
theorem dX10_balanceNow_66 : decode cX10_balanceNow 66 = .ok (.iload_n 3, 1) := by decide +kernel
theorem dX10_balanceNow_67 : decode cX10_balanceNow 67 = .ok (.invokestatic 220, 3) := by decide +kernel
theorem dX10_balanceNow_70 : decode cX10_balanceNow 70 = .ok (.iconst 2, 1) := by decide +kernel
theorem dX10_balanceNow_71 : decode cX10_balanceNow 71 = .ok (.iadd, 1) := by decide +kernel
theorem dX10_balanceNow_72 : decode cX10_balanceNow 72 = .ok (.iaload, 1) := by decide +kernel
theorem dX10_balanceNow_73 : decode cX10_balanceNow 73 = .ok (.i2l, 1) := by decide +kernel
theorem dX10_balanceNow_74 : decode cX10_balanceNow 74 = .ok (.ladd, 1) := by decide +kernel
theorem dX10_balanceNow_75 : decode cX10_balanceNow 75 = .ok (.lstore_n 1, 1) := by decide +kernel
theorem dX10_balanceNow_76 : decode cX10_balanceNow 76 = .ok (.iinc 3 1, 3) := by decide +kernel
theorem dX10_balanceNow_79 : decode cX10_balanceNow 79 = .ok (.goto (-48), 3) := by decide +kernel
theorem dX10_balanceNow_82 : decode cX10_balanceNow 82 = .ok (.lload_n 1, 1) := by decide +kernel
theorem dX10_balanceNow_83 : decode cX10_balanceNow 83 = .ok (.lreturn, 1) := by decide +kernel
theorem dX10_balance_0 : decode cX10_balance 0 = .ok (.aload_n 0, 1) := by decide +kernel
theorem dX10_balance_1 : decode cX10_balance 1 = .ok (.iconst 0, 1) := by decide +kernel
theorem dX10_balance_2 : decode cX10_balance 2 = .ok (.putfield 52, 3) := by decide +kernel
theorem dX10_balance_5 : decode cX10_balance 5 = .ok (.aload_n 0, 1) := by decide +kernel
theorem dX10_balance_6 : decode cX10_balance 6 = .ok (.invokevirtual 240, 3) := by decide +kernel
theorem dX10_balance_9 : decode cX10_balance 9 = .ok (.lreturn, 1) := by decide +kernel
theorem dX10_bandFor_0 : decode cX10_bandFor 0 = .ok (.aload_n 0, 1) := by decide +kernel
theorem dX10_bandFor_1 : decode cX10_bandFor 1 = .ok (.iconst 0, 1) := by decide +kernel
theorem dX10_bandFor_2 : decode cX10_bandFor 2 = .ok (.putfield 52, 3) := by decide +kernel
theorem dX10_bandFor_5 : decode cX10_bandFor 5 = .ok (.aload_n 0, 1) := by decide +kernel
theorem dX10_bandFor_6 : decode cX10_bandFor 6 = .ok (.iload_n 1, 1) := by decide +kernel
theorem dX10_bandFor_7 : decode cX10_bandFor 7 = .ok (.iconst 0, 1) := by decide +kernel
theorem dX10_bandFor_8 : decode cX10_bandFor 8 = .ok (.bipush 39, 2) := by decide +kernel
theorem dX10_bandFor_10 : decode cX10_bandFor 10 = .ok (.invokestatic 74, 3) := by decide +kernel
theorem dX10_bandFor_13 : decode cX10_bandFor 13 = .ok (.ifCond .ne 7, 3) := by decide +kernel
theorem dX10_bandFor_16 : decode cX10_bandFor 16 = .ok (.iconst 1, 1) := by decide +kernel
theorem dX10_bandFor_17 : decode cX10_bandFor 17 = .ok (.goto 4, 3) := by decide +kernel
theorem dX10_bandFor_20 : decode cX10_bandFor 20 = .ok (.iconst 0, 1) := by decide +kernel
theorem dX10_bandFor_21 : decode cX10_bandFor 21 = .ok (.iconst 1, 1) := by decide +kernel
theorem dX10_bandFor_22 : decode cX10_bandFor 22 = .ok (.invokevirtual 177, 3) := by decide +kernel
theorem dX10_bandFor_25 : decode cX10_bandFor 25 = .ok (.ifCond .eq 7, 3) := by decide +kernel
theorem dX10_bandFor_28 : decode cX10_bandFor 28 = .ok (.iconst 0, 1) := by decide +kernel
theorem dX10_bandFor_29 : decode cX10_bandFor 29 = .ok (.goto 8, 3) := by decide +kernel
theorem dX10_bandFor_32 : decode cX10_bandFor 32 = .ok (.aload_n 0, 1) := by decide +kernel
theorem dX10_bandFor_33 : decode cX10_bandFor 33 = .ok (.iload_n 1, 1) := by decide +kernel
theorem dX10_bandFor_34 : decode cX10_bandFor 34 = .ok (.invokevirtual 210, 3) := by decide +kernel
theorem dX10_bandFor_37 : decode cX10_bandFor 37 = .ok (.ireturn, 1) := by decide +kernel
theorem dX10_allowed_0 : decode cX10_allowed 0 = .ok (.aload_n 0, 1) := by decide +kernel
theorem dX10_allowed_1 : decode cX10_allowed 1 = .ok (.iconst 0, 1) := by decide +kernel
theorem dX10_allowed_2 : decode cX10_allowed 2 = .ok (.putfield 52, 3) := by decide +kernel
theorem dX10_allowed_5 : decode cX10_allowed 5 = .ok (.aload_n 0, 1) := by decide +kernel
theorem dX10_allowed_6 : decode cX10_allowed 6 = .ok (.iload_n 1, 1) := by decide +kernel
theorem dX10_allowed_7 : decode cX10_allowed 7 = .ok (.iconst 0, 1) := by decide +kernel
theorem dX10_allowed_8 : decode cX10_allowed 8 = .ok (.bipush 39, 2) := by decide +kernel
theorem dX10_allowed_10 : decode cX10_allowed 10 = .ok (.invokestatic 74, 3) := by decide +kernel
theorem dX10_allowed_13 : decode cX10_allowed 13 = .ok (.ifCond .eq 14, 3) := by decide +kernel
theorem dX10_allowed_16 : decode cX10_allowed 16 = .ok (.iload_n 2, 1) := by decide +kernel
theorem dX10_allowed_17 : decode cX10_allowed 17 = .ok (.iconst 0, 1) := by decide +kernel
theorem dX10_allowed_18 : decode cX10_allowed 18 = .ok (.sipush 9999, 3) := by decide +kernel
theorem dX10_allowed_21 : decode cX10_allowed 21 = .ok (.invokestatic 74, 3) := by decide +kernel
theorem dX10_allowed_24 : decode cX10_allowed 24 = .ok (.ifCond .ne 7, 3) := by decide +kernel
theorem dX10_allowed_27 : decode cX10_allowed 27 = .ok (.iconst 1, 1) := by decide +kernel
theorem dX10_allowed_28 : decode cX10_allowed 28 = .ok (.goto 4, 3) := by decide +kernel
theorem dX10_allowed_31 : decode cX10_allowed 31 = .ok (.iconst 0, 1) := by decide +kernel
theorem dX10_allowed_32 : decode cX10_allowed 32 = .ok (.iconst 1, 1) := by decide +kernel
theorem dX10_allowed_33 : decode cX10_allowed 33 = .ok (.invokevirtual 177, 3) := by decide +kernel
theorem dX10_allowed_36 : decode cX10_allowed 36 = .ok (.ifCond .eq 7, 3) := by decide +kernel
theorem dX10_allowed_39 : decode cX10_allowed 39 = .ok (.iconst 0, 1) := by decide +kernel
theorem dX10_allowed_40 : decode cX10_allowed 40 = .ok (.goto 10, 3) := by decide +kernel
theorem dX10_allowed_43 : decode cX10_allowed 43 = .ok (.aload_n 0, 1) := by decide +kernel
theorem dX10_allowed_44 : decode cX10_allowed 44 = .ok (.iload_n 1, 1) := by decide +kernel
theorem dX10_allowed_45 : decode cX10_allowed 45 = .ok (.iload_n 2, 1) := by decide +kernel
theorem dX10_allowed_46 : decode cX10_allowed 46 = .ok (.iload_n 3, 1) := by decide +kernel
theorem dX10_allowed_47 : decode cX10_allowed 47 = .ok (.invokevirtual 213, 3) := by decide +kernel
theorem dX10_allowed_50 : decode cX10_allowed 50 = .ok (.ireturn, 1) := by decide +kernel
theorem dX10_penaltyFor_0 : decode cX10_penaltyFor 0 = .ok (.aload_n 0, 1) := by decide +kernel
theorem dX10_penaltyFor_1 : decode cX10_penaltyFor 1 = .ok (.iconst 0, 1) := by decide +kernel
theorem dX10_penaltyFor_2 : decode cX10_penaltyFor 2 = .ok (.putfield 52, 3) := by decide +kernel
theorem dX10_penaltyFor_5 : decode cX10_penaltyFor 5 = .ok (.aload_n 0, 1) := by decide +kernel
theorem dX10_penaltyFor_6 : decode cX10_penaltyFor 6 = .ok (.iload_n 1, 1) := by decide +kernel
theorem dX10_penaltyFor_7 : decode cX10_penaltyFor 7 = .ok (.iconst 0, 1) := by decide +kernel
theorem dX10_penaltyFor_8 : decode cX10_penaltyFor 8 = .ok (.sipush 9999, 3) := by decide +kernel
theorem dX10_penaltyFor_11 : decode cX10_penaltyFor 11 = .ok (.invokestatic 74, 3) := by decide +kernel
theorem dX10_penaltyFor_14 : decode cX10_penaltyFor 14 = .ok (.ifCond .eq 14, 3) := by decide +kernel
theorem dX10_penaltyFor_17 : decode cX10_penaltyFor 17 = .ok (.iload_n 2, 1) := by decide +kernel
theorem dX10_penaltyFor_18 : decode cX10_penaltyFor 18 = .ok (.iconst 0, 1) := by decide +kernel
theorem dX10_penaltyFor_19 : decode cX10_penaltyFor 19 = .ok (.sipush 9999, 3) := by decide +kernel
theorem dX10_penaltyFor_22 : decode cX10_penaltyFor 22 = .ok (.invokestatic 74, 3) := by decide +kernel
theorem dX10_penaltyFor_25 : decode cX10_penaltyFor 25 = .ok (.ifCond .ne 7, 3) := by decide +kernel
theorem dX10_penaltyFor_28 : decode cX10_penaltyFor 28 = .ok (.iconst 1, 1) := by decide +kernel
theorem dX10_penaltyFor_29 : decode cX10_penaltyFor 29 = .ok (.goto 4, 3) := by decide +kernel
theorem dX10_penaltyFor_32 : decode cX10_penaltyFor 32 = .ok (.iconst 0, 1) := by decide +kernel
theorem dX10_penaltyFor_33 : decode cX10_penaltyFor 33 = .ok (.iconst 1, 1) := by decide +kernel
theorem dX10_penaltyFor_34 : decode cX10_penaltyFor 34 = .ok (.invokevirtual 177, 3) := by decide +kernel
theorem dX10_penaltyFor_37 : decode cX10_penaltyFor 37 = .ok (.ifCond .eq 7, 3) := by decide +kernel
theorem dX10_penaltyFor_40 : decode cX10_penaltyFor 40 = .ok (.iconst 0, 1) := by decide +kernel
theorem dX10_penaltyFor_41 : decode cX10_penaltyFor 41 = .ok (.goto 9, 3) := by decide +kernel
theorem dX10_penaltyFor_44 : decode cX10_penaltyFor 44 = .ok (.aload_n 0, 1) := by decide +kernel
theorem dX10_penaltyFor_45 : decode cX10_penaltyFor 45 = .ok (.iload_n 1, 1) := by decide +kernel
theorem dX10_penaltyFor_46 : decode cX10_penaltyFor 46 = .ok (.iload_n 2, 1) := by decide +kernel
theorem dX10_penaltyFor_47 : decode cX10_penaltyFor 47 = .ok (.invokevirtual 223, 3) := by decide +kernel
theorem dX10_penaltyFor_50 : decode cX10_penaltyFor 50 = .ok (.ireturn, 1) := by decide +kernel
theorem dX10_breachCount_0 : decode cX10_breachCount 0 = .ok (.aload_n 0, 1) := by decide +kernel
theorem dX10_breachCount_1 : decode cX10_breachCount 1 = .ok (.iconst 0, 1) := by decide +kernel
theorem dX10_breachCount_2 : decode cX10_breachCount 2 = .ok (.putfield 52, 3) := by decide +kernel
theorem dX10_breachCount_5 : decode cX10_breachCount 5 = .ok (.aload_n 0, 1) := by decide +kernel
theorem dX10_breachCount_6 : decode cX10_breachCount 6 = .ok (.getfield 17, 3) := by decide +kernel
theorem dX10_breachCount_9 : decode cX10_breachCount 9 = .ok (.bipush 12, 2) := by decide +kernel
theorem dX10_breachCount_11 : decode cX10_breachCount 11 = .ok (.iaload, 1) := by decide +kernel
theorem dX10_breachCount_12 : decode cX10_breachCount 12 = .ok (.ireturn, 1) := by decide +kernel
theorem dX10_allBreaches_0 : decode cX10_allBreaches 0 = .ok (.aload_n 0, 1) := by decide +kernel
theorem dX10_allBreaches_1 : decode cX10_allBreaches 1 = .ok (.iconst 0, 1) := by decide +kernel
theorem dX10_allBreaches_2 : decode cX10_allBreaches 2 = .ok (.putfield 52, 3) := by decide +kernel
theorem dX10_allBreaches_5 : decode cX10_allBreaches 5 = .ok (.aload_n 0, 1) := by decide +kernel
theorem dX10_allBreaches_6 : decode cX10_allBreaches 6 = .ok (.getfield 17, 3) := by decide +kernel
theorem dX10_allBreaches_9 : decode cX10_allBreaches 9 = .ok (.bipush 13, 2) := by decide +kernel
theorem dX10_allBreaches_11 : decode cX10_allBreaches 11 = .ok (.iaload, 1) := by decide +kernel
theorem dX10_allBreaches_12 : decode cX10_allBreaches 12 = .ok (.ireturn, 1) := by decide +kernel
theorem dX10_breachPeriod_0 : decode cX10_breachPeriod 0 = .ok (.aload_n 0, 1) := by decide +kernel
theorem dX10_breachPeriod_1 : decode cX10_breachPeriod 1 = .ok (.iconst 0, 1) := by decide +kernel
theorem dX10_breachPeriod_2 : decode cX10_breachPeriod 2 = .ok (.putfield 52, 3) := by decide +kernel
theorem dX10_breachPeriod_5 : decode cX10_breachPeriod 5 = .ok (.aload_n 0, 1) := by decide +kernel
theorem dX10_breachPeriod_6 : decode cX10_breachPeriod 6 = .ok (.iload_n 1, 1) := by decide +kernel
theorem dX10_breachPeriod_7 : decode cX10_breachPeriod 7 = .ok (.invokevirtual 244, 3) := by decide +kernel
theorem dX10_breachPeriod_10 : decode cX10_breachPeriod 10 = .ok (.ifCond .eq 7, 3) := by decide +kernel
theorem dX10_breachPeriod_13 : decode cX10_breachPeriod 13 = .ok (.iconst 0, 1) := by decide +kernel
theorem dX10_breachPeriod_14 : decode cX10_breachPeriod 14 = .ok (.goto 12, 3) := by decide +kernel
theorem dX10_breachPeriod_17 : decode cX10_breachPeriod 17 = .ok (.aload_n 0, 1) := by decide +kernel
theorem dX10_breachPeriod_18 : decode cX10_breachPeriod 18 = .ok (.getfield 17, 3) := by decide +kernel
theorem dX10_breachPeriod_21 : decode cX10_breachPeriod 21 = .ok (.iload_n 1, 1) := by decide +kernel
theorem dX10_breachPeriod_22 : decode cX10_breachPeriod 22 = .ok (.invokestatic 220, 3) := by decide +kernel
theorem dX10_breachPeriod_25 : decode cX10_breachPeriod 25 = .ok (.iaload, 1) := by decide +kernel
theorem dX10_breachPeriod_26 : decode cX10_breachPeriod 26 = .ok (.ireturn, 1) := by decide +kernel
theorem dX10_breachKind_0 : decode cX10_breachKind 0 = .ok (.aload_n 0, 1) := by decide +kernel
theorem dX10_breachKind_1 : decode cX10_breachKind 1 = .ok (.iconst 0, 1) := by decide +kernel
theorem dX10_breachKind_2 : decode cX10_breachKind 2 = .ok (.putfield 52, 3) := by decide +kernel
theorem dX10_breachKind_5 : decode cX10_breachKind 5 = .ok (.aload_n 0, 1) := by decide +kernel
theorem dX10_breachKind_6 : decode cX10_breachKind 6 = .ok (.iload_n 1, 1) := by decide +kernel
theorem dX10_breachKind_7 : decode cX10_breachKind 7 = .ok (.invokevirtual 244, 3) := by decide +kernel
theorem dX10_breachKind_10 : decode cX10_breachKind 10 = .ok (.ifCond .eq 7, 3) := by decide +kernel
theorem dX10_breachKind_13 : decode cX10_breachKind 13 = .ok (.iconst 0, 1) := by decide +kernel
theorem dX10_breachKind_14 : decode cX10_breachKind 14 = .ok (.goto 14, 3) := by decide +kernel
theorem dX10_breachKind_17 : decode cX10_breachKind 17 = .ok (.aload_n 0, 1) := by decide +kernel
theorem dX10_breachKind_18 : decode cX10_breachKind 18 = .ok (.getfield 17, 3) := by decide +kernel
theorem dX10_breachKind_21 : decode cX10_breachKind 21 = .ok (.iload_n 1, 1) := by decide +kernel
theorem dX10_breachKind_22 : decode cX10_breachKind 22 = .ok (.invokestatic 220, 3) := by decide +kernel
theorem dX10_breachKind_25 : decode cX10_breachKind 25 = .ok (.iconst 1, 1) := by decide +kernel
theorem dX10_breachKind_26 : decode cX10_breachKind 26 = .ok (.iadd, 1) := by decide +kernel
theorem dX10_breachKind_27 : decode cX10_breachKind 27 = .ok (.iaload, 1) := by decide +kernel
theorem dX10_breachKind_28 : decode cX10_breachKind 28 = .ok (.ireturn, 1) := by decide +kernel
theorem dX10_breachPenalty_0 : decode cX10_breachPenalty 0 = .ok (.aload_n 0, 1) := by decide +kernel
theorem dX10_breachPenalty_1 : decode cX10_breachPenalty 1 = .ok (.iconst 0, 1) := by decide +kernel
theorem dX10_breachPenalty_2 : decode cX10_breachPenalty 2 = .ok (.putfield 52, 3) := by decide +kernel
theorem dX10_breachPenalty_5 : decode cX10_breachPenalty 5 = .ok (.aload_n 0, 1) := by decide +kernel
theorem dX10_breachPenalty_6 : decode cX10_breachPenalty 6 = .ok (.iload_n 1, 1) := by decide +kernel
theorem dX10_breachPenalty_7 : decode cX10_breachPenalty 7 = .ok (.invokevirtual 244, 3) := by decide +kernel
theorem dX10_breachPenalty_10 : decode cX10_breachPenalty 10 = .ok (.ifCond .eq 7, 3) := by decide +kernel
theorem dX10_breachPenalty_13 : decode cX10_breachPenalty 13 = .ok (.iconst 0, 1) := by decide +kernel
theorem dX10_breachPenalty_14 : decode cX10_breachPenalty 14 = .ok (.goto 14, 3) := by decide +kernel
theorem dX10_breachPenalty_17 : decode cX10_breachPenalty 17 = .ok (.aload_n 0, 1) := by decide +kernel
theorem dX10_breachPenalty_18 : decode cX10_breachPenalty 18 = .ok (.getfield 17, 3) := by decide +kernel
theorem dX10_breachPenalty_21 : decode cX10_breachPenalty 21 = .ok (.iload_n 1, 1) := by decide +kernel
theorem dX10_breachPenalty_22 : decode cX10_breachPenalty 22 = .ok (.invokestatic 220, 3) := by decide +kernel
theorem dX10_breachPenalty_25 : decode cX10_breachPenalty 25 = .ok (.iconst 2, 1) := by decide +kernel
theorem dX10_breachPenalty_26 : decode cX10_breachPenalty 26 = .ok (.iadd, 1) := by decide +kernel
theorem dX10_breachPenalty_27 : decode cX10_breachPenalty 27 = .ok (.iaload, 1) := by decide +kernel
theorem dX10_breachPenalty_28 : decode cX10_breachPenalty 28 = .ok (.ireturn, 1) := by decide +kernel
theorem dX10_isWaived_0 : decode cX10_isWaived 0 = .ok (.aload_n 0, 1) := by decide +kernel
theorem dX10_isWaived_1 : decode cX10_isWaived 1 = .ok (.iconst 0, 1) := by decide +kernel
theorem dX10_isWaived_2 : decode cX10_isWaived 2 = .ok (.putfield 52, 3) := by decide +kernel
theorem dX10_isWaived_5 : decode cX10_isWaived 5 = .ok (.aload_n 0, 1) := by decide +kernel
theorem dX10_isWaived_6 : decode cX10_isWaived 6 = .ok (.iload_n 1, 1) := by decide +kernel
theorem dX10_isWaived_7 : decode cX10_isWaived 7 = .ok (.invokevirtual 244, 3) := by decide +kernel
theorem dX10_isWaived_10 : decode cX10_isWaived 10 = .ok (.ifCond .ne 22, 3) := by decide +kernel
theorem dX10_isWaived_13 : decode cX10_isWaived 13 = .ok (.aload_n 0, 1) := by decide +kernel
theorem dX10_isWaived_14 : decode cX10_isWaived 14 = .ok (.getfield 17, 3) := by decide +kernel
theorem dX10_isWaived_17 : decode cX10_isWaived 17 = .ok (.iload_n 1, 1) := by decide +kernel
theorem dX10_isWaived_18 : decode cX10_isWaived 18 = .ok (.invokestatic 220, 3) := by decide +kernel
theorem dX10_isWaived_21 : decode cX10_isWaived 21 = .ok (.iconst 3, 1) := by decide +kernel
theorem dX10_isWaived_22 : decode cX10_isWaived 22 = .ok (.iadd, 1) := by decide +kernel
theorem dX10_isWaived_23 : decode cX10_isWaived 23 = .ok (.iaload, 1) := by decide +kernel
theorem dX10_isWaived_24 : decode cX10_isWaived 24 = .ok (.iconst 1, 1) := by decide +kernel
theorem dX10_isWaived_25 : decode cX10_isWaived 25 = .ok (.if_icmp .ne 7, 3) := by decide +kernel
theorem dX10_isWaived_28 : decode cX10_isWaived 28 = .ok (.iconst 1, 1) := by decide +kernel
theorem dX10_isWaived_29 : decode cX10_isWaived 29 = .ok (.goto 4, 3) := by decide +kernel
theorem dX10_isWaived_32 : decode cX10_isWaived 32 = .ok (.iconst 0, 1) := by decide +kernel
theorem dX10_isWaived_33 : decode cX10_isWaived 33 = .ok (.ireturn, 1) := by decide +kernel
theorem dX10_leftOver_0 : decode cX10_leftOver 0 = .ok (.aload_n 0, 1) := by decide +kernel
theorem dX10_leftOver_1 : decode cX10_leftOver 1 = .ok (.getfield 17, 3) := by decide +kernel
theorem dX10_leftOver_4 : decode cX10_leftOver 4 = .ok (.bipush 9, 2) := by decide +kernel
theorem dX10_leftOver_6 : decode cX10_leftOver 6 = .ok (.iaload, 1) := by decide +kernel
theorem dX10_leftOver_7 : decode cX10_leftOver 7 = .ok (.istore_n 1, 1) := by decide +kernel
theorem dX10_leftOver_8 : decode cX10_leftOver 8 = .ok (.iconst 0, 1) := by decide +kernel
theorem dX10_leftOver_9 : decode cX10_leftOver 9 = .ok (.istore_n 2, 1) := by decide +kernel
theorem dX10_leftOver_10 : decode cX10_leftOver 10 = .ok (.iload_n 2, 1) := by decide +kernel
theorem dX10_leftOver_11 : decode cX10_leftOver 11 = .ok (.aload_n 0, 1) := by decide +kernel
theorem dX10_leftOver_12 : decode cX10_leftOver 12 = .ok (.getfield 17, 3) := by decide +kernel
theorem dX10_leftOver_15 : decode cX10_leftOver 15 = .ok (.bipush 12, 2) := by decide +kernel
theorem dX10_leftOver_17 : decode cX10_leftOver 17 = .ok (.iaload, 1) := by decide +kernel
theorem dX10_leftOver_18 : decode cX10_leftOver 18 = .ok (.if_icmp .ge 23, 3) := by decide +kernel
theorem dX10_leftOver_21 : decode cX10_leftOver 21 = .ok (.iload_n 1, 1) := by decide +kernel
theorem dX10_leftOver_22 : decode cX10_leftOver 22 = .ok (.aload_n 0, 1) := by decide +kernel
theorem dX10_leftOver_23 : decode cX10_leftOver 23 = .ok (.getfield 17, 3) := by decide +kernel
theorem dX10_leftOver_26 : decode cX10_leftOver 26 = .ok (.iload_n 2, 1) := by decide +kernel
theorem dX10_leftOver_27 : decode cX10_leftOver 27 = .ok (.invokestatic 220, 3) := by decide +kernel
theorem dX10_leftOver_30 : decode cX10_leftOver 30 = .ok (.iconst 3, 1) := by decide +kernel
theorem dX10_leftOver_31 : decode cX10_leftOver 31 = .ok (.iadd, 1) := by decide +kernel
theorem dX10_leftOver_32 : decode cX10_leftOver 32 = .ok (.iaload, 1) := by decide +kernel
theorem dX10_leftOver_33 : decode cX10_leftOver 33 = .ok (.isub, 1) := by decide +kernel
theorem dX10_leftOver_34 : decode cX10_leftOver 34 = .ok (.istore_n 1, 1) := by decide +kernel
theorem dX10_leftOver_35 : decode cX10_leftOver 35 = .ok (.iinc 2 1, 3) := by decide +kernel
theorem dX10_leftOver_38 : decode cX10_leftOver 38 = .ok (.goto (-28), 3) := by decide +kernel
theorem dX10_leftOver_41 : decode cX10_leftOver 41 = .ok (.iload_n 1, 1) := by decide +kernel
theorem dX10_leftOver_42 : decode cX10_leftOver 42 = .ok (.ireturn, 1) := by decide +kernel
theorem dX10_areApart_0 : decode cX10_areApart 0 = .ok (.aload_n 0, 1) := by decide +kernel
theorem dX10_areApart_1 : decode cX10_areApart 1 = .ok (.getfield 17, 3) := by decide +kernel
theorem dX10_areApart_4 : decode cX10_areApart 4 = .ok (.iload_n 1, 1) := by decide +kernel
theorem dX10_areApart_5 : decode cX10_areApart 5 = .ok (.invokestatic 220, 3) := by decide +kernel
theorem dX10_areApart_8 : decode cX10_areApart 8 = .ok (.iaload, 1) := by decide +kernel
theorem dX10_areApart_9 : decode cX10_areApart 9 = .ok (.aload_n 0, 1) := by decide +kernel
theorem dX10_areApart_10 : decode cX10_areApart 10 = .ok (.getfield 17, 3) := by decide +kernel
theorem dX10_areApart_13 : decode cX10_areApart 13 = .ok (.iload_n 2, 1) := by decide +kernel
theorem dX10_areApart_14 : decode cX10_areApart 14 = .ok (.invokestatic 220, 3) := by decide +kernel
theorem dX10_areApart_17 : decode cX10_areApart 17 = .ok (.iaload, 1) := by decide +kernel
theorem dX10_areApart_18 : decode cX10_areApart 18 = .ok (.isub, 1) := by decide +kernel
theorem dX10_areApart_19 : decode cX10_areApart 19 = .ok (.invokestatic 247, 3) := by decide +kernel
theorem dX10_areApart_22 : decode cX10_areApart 22 = .ok (.aload_n 0, 1) := by decide +kernel
theorem dX10_areApart_23 : decode cX10_areApart 23 = .ok (.getfield 17, 3) := by decide +kernel
theorem dX10_areApart_26 : decode cX10_areApart 26 = .ok (.bipush 10, 2) := by decide +kernel
theorem dX10_areApart_28 : decode cX10_areApart 28 = .ok (.iaload, 1) := by decide +kernel
theorem dX10_areApart_29 : decode cX10_areApart 29 = .ok (.if_icmp .lt 7, 3) := by decide +kernel
theorem dX10_areApart_32 : decode cX10_areApart 32 = .ok (.iconst 1, 1) := by decide +kernel
theorem dX10_areApart_33 : decode cX10_areApart 33 = .ok (.goto 4, 3) := by decide +kernel
theorem dX10_areApart_36 : decode cX10_areApart 36 = .ok (.iconst 0, 1) := by decide +kernel
theorem dX10_areApart_37 : decode cX10_areApart 37 = .ok (.ireturn, 1) := by decide +kernel
theorem dX10_canWaive_0 : decode cX10_canWaive 0 = .ok (.aload_n 0, 1) := by decide +kernel
theorem dX10_canWaive_1 : decode cX10_canWaive 1 = .ok (.getfield 17, 3) := by decide +kernel
theorem dX10_canWaive_4 : decode cX10_canWaive 4 = .ok (.iload_n 1, 1) := by decide +kernel
theorem dX10_canWaive_5 : decode cX10_canWaive 5 = .ok (.invokestatic 220, 3) := by decide +kernel
theorem dX10_canWaive_8 : decode cX10_canWaive 8 = .ok (.iconst 3, 1) := by decide +kernel
theorem dX10_canWaive_9 : decode cX10_canWaive 9 = .ok (.iadd, 1) := by decide +kernel
theorem dX10_canWaive_10 : decode cX10_canWaive 10 = .ok (.iaload, 1) := by decide +kernel
theorem dX10_canWaive_11 : decode cX10_canWaive 11 = .ok (.iconst 1, 1) := by decide +kernel
theorem dX10_canWaive_12 : decode cX10_canWaive 12 = .ok (.if_icmp .eq 10, 3) := by decide +kernel
theorem dX10_canWaive_15 : decode cX10_canWaive 15 = .ok (.aload_n 0, 1) := by decide +kernel
theorem dX10_canWaive_16 : decode cX10_canWaive 16 = .ok (.invokevirtual 250, 3) := by decide +kernel
theorem dX10_canWaive_19 : decode cX10_canWaive 19 = .ok (.ifCond .ne 5, 3) := by decide +kernel
theorem dX10_canWaive_22 : decode cX10_canWaive 22 = .ok (.iconst 0, 1) := by decide +kernel
theorem dX10_canWaive_23 : decode cX10_canWaive 23 = .ok (.ireturn, 1) := by decide +kernel
theorem dX10_canWaive_24 : decode cX10_canWaive 24 = .ok (.iconst 0, 1) := by decide +kernel
theorem dX10_canWaive_25 : decode cX10_canWaive 25 = .ok (.istore_n 2, 1) := by decide +kernel
theorem dX10_canWaive_26 : decode cX10_canWaive 26 = .ok (.iload_n 2, 1) := by decide +kernel
theorem dX10_canWaive_27 : decode cX10_canWaive 27 = .ok (.aload_n 0, 1) := by decide +kernel
theorem dX10_canWaive_28 : decode cX10_canWaive 28 = .ok (.getfield 17, 3) := by decide +kernel
theorem dX10_canWaive_31 : decode cX10_canWaive 31 = .ok (.bipush 12, 2) := by decide +kernel
theorem dX10_canWaive_33 : decode cX10_canWaive 33 = .ok (.iaload, 1) := by decide +kernel
theorem dX10_canWaive_34 : decode cX10_canWaive 34 = .ok (.if_icmp .ge 35, 3) := by decide +kernel
theorem dX10_canWaive_37 : decode cX10_canWaive 37 = .ok (.aload_n 0, 1) := by decide +kernel
theorem dX10_canWaive_38 : decode cX10_canWaive 38 = .ok (.getfield 17, 3) := by decide +kernel
theorem dX10_canWaive_41 : decode cX10_canWaive 41 = .ok (.iload_n 2, 1) := by decide +kernel
theorem dX10_canWaive_42 : decode cX10_canWaive 42 = .ok (.invokestatic 220, 3) := by decide +kernel
theorem dX10_canWaive_45 : decode cX10_canWaive 45 = .ok (.iconst 3, 1) := by decide +kernel
theorem dX10_canWaive_46 : decode cX10_canWaive 46 = .ok (.iadd, 1) := by decide +kernel
theorem dX10_canWaive_47 : decode cX10_canWaive 47 = .ok (.iaload, 1) := by decide +kernel
theorem dX10_canWaive_48 : decode cX10_canWaive 48 = .ok (.iconst 1, 1) := by decide +kernel
theorem dX10_canWaive_49 : decode cX10_canWaive 49 = .ok (.if_icmp .ne 14, 3) := by decide +kernel
theorem dX10_canWaive_52 : decode cX10_canWaive 52 = .ok (.aload_n 0, 1) := by decide +kernel
theorem dX10_canWaive_53 : decode cX10_canWaive 53 = .ok (.iload_n 2, 1) := by decide +kernel
theorem dX10_canWaive_54 : decode cX10_canWaive 54 = .ok (.iload_n 1, 1) := by decide +kernel
theorem dX10_canWaive_55 : decode cX10_canWaive 55 = .ok (.invokevirtual 253, 3) := by decide +kernel
theorem dX10_canWaive_58 : decode cX10_canWaive 58 = .ok (.ifCond .ne 5, 3) := by decide +kernel
theorem dX10_canWaive_61 : decode cX10_canWaive 61 = .ok (.iconst 0, 1) := by decide +kernel
theorem dX10_canWaive_62 : decode cX10_canWaive 62 = .ok (.ireturn, 1) := by decide +kernel
theorem dX10_canWaive_63 : decode cX10_canWaive 63 = .ok (.iinc 2 1, 3) := by decide +kernel
theorem dX10_canWaive_66 : decode cX10_canWaive 66 = .ok (.goto (-40), 3) := by decide +kernel
theorem dX10_canWaive_69 : decode cX10_canWaive 69 = .ok (.iconst 1, 1) := by decide +kernel
theorem dX10_canWaive_70 : decode cX10_canWaive 70 = .ok (.ireturn, 1) := by decide +kernel
theorem dX10_waiversLeft_0 : decode cX10_waiversLeft 0 = .ok (.aload_n 0, 1) := by decide +kernel
theorem dX10_waiversLeft_1 : decode cX10_waiversLeft 1 = .ok (.iconst 0, 1) := by decide +kernel
theorem dX10_waiversLeft_2 : decode cX10_waiversLeft 2 = .ok (.putfield 52, 3) := by decide +kernel
theorem dX10_waiversLeft_5 : decode cX10_waiversLeft 5 = .ok (.aload_n 0, 1) := by decide +kernel
theorem dX10_waiversLeft_6 : decode cX10_waiversLeft 6 = .ok (.invokevirtual 250, 3) := by decide +kernel
theorem dX10_waiversLeft_9 : decode cX10_waiversLeft 9 = .ok (.ireturn, 1) := by decide +kernel
theorem dX10_trySets_0 : decode cX10_trySets 0 = .ok (.iload_n 3, 1) := by decide +kernel
theorem dX10_trySets_1 : decode cX10_trySets 1 = .ok (.aload_n 0, 1) := by decide +kernel
theorem dX10_trySets_2 : decode cX10_trySets 2 = .ok (.getfield 257, 3) := by decide +kernel
theorem dX10_trySets_5 : decode cX10_trySets 5 = .ok (.if_icmp .le 42, 3) := by decide +kernel
theorem dX10_trySets_8 : decode cX10_trySets 8 = .ok (.aload_n 0, 1) := by decide +kernel
theorem dX10_trySets_9 : decode cX10_trySets 9 = .ok (.iload_n 3, 1) := by decide +kernel
theorem dX10_trySets_10 : decode cX10_trySets 10 = .ok (.putfield 257, 3) := by decide +kernel
theorem dX10_trySets_13 : decode cX10_trySets 13 = .ok (.aload_n 0, 1) := by decide +kernel
theorem dX10_trySets_14 : decode cX10_trySets 14 = .ok (.iload_n 1, 1) := by decide +kernel
theorem dX10_trySets_15 : decode cX10_trySets 15 = .ok (.putfield 260, 3) := by decide +kernel
theorem dX10_trySets_18 : decode cX10_trySets 18 = .ok (.iconst 0, 1) := by decide +kernel
theorem dX10_trySets_19 : decode cX10_trySets 19 = .ok (.istore 4, 2) := by decide +kernel
theorem dX10_trySets_21 : decode cX10_trySets 21 = .ok (.iload 4, 2) := by decide +kernel
theorem dX10_trySets_23 : decode cX10_trySets 23 = .ok (.iload_n 1, 1) := by decide +kernel
theorem dX10_trySets_24 : decode cX10_trySets 24 = .ok (.if_icmp .ge 23, 3) := by decide +kernel
theorem dX10_trySets_27 : decode cX10_trySets 27 = .ok (.aload_n 0, 1) := by decide +kernel
theorem dX10_trySets_28 : decode cX10_trySets 28 = .ok (.getfield 46, 3) := by decide +kernel
theorem dX10_trySets_31 : decode cX10_trySets 31 = .ok (.iload 4, 2) := by decide +kernel
theorem dX10_trySets_33 : decode cX10_trySets 33 = .ok (.aload_n 0, 1) := by decide +kernel
theorem dX10_trySets_34 : decode cX10_trySets 34 = .ok (.getfield 49, 3) := by decide +kernel
theorem dX10_trySets_37 : decode cX10_trySets 37 = .ok (.iload 4, 2) := by decide +kernel
theorem dX10_trySets_39 : decode cX10_trySets 39 = .ok (.iaload, 1) := by decide +kernel
theorem dX10_trySets_40 : decode cX10_trySets 40 = .ok (.iastore, 1) := by decide +kernel
theorem dX10_trySets_41 : decode cX10_trySets 41 = .ok (.iinc 4 1, 3) := by decide +kernel
theorem dX10_trySets_44 : decode cX10_trySets 44 = .ok (.goto (-23), 3) := by decide +kernel
theorem dX10_trySets_47 : decode cX10_trySets 47 = .ok (.iload_n 1, 1) := by decide +kernel
theorem dX10_trySets_48 : decode cX10_trySets 48 = .ok (.aload_n 0, 1) := by decide +kernel
theorem dX10_trySets_49 : decode cX10_trySets 49 = .ok (.invokevirtual 250, 3) := by decide +kernel
theorem dX10_trySets_52 : decode cX10_trySets 52 = .ok (.if_icmp .ne 4, 3) := by decide +kernel
theorem dX10_trySets_55 : decode cX10_trySets 55 = .ok (.return_, 1) := by decide +kernel
theorem dX10_trySets_56 : decode cX10_trySets 56 = .ok (.iload_n 2, 1) := by decide +kernel
theorem dX10_trySets_57 : decode cX10_trySets 57 = .ok (.istore 4, 2) := by decide +kernel
theorem dX10_trySets_59 : decode cX10_trySets 59 = .ok (.iload 4, 2) := by decide +kernel
theorem dX10_trySets_61 : decode cX10_trySets 61 = .ok (.aload_n 0, 1) := by decide +kernel
theorem dX10_trySets_62 : decode cX10_trySets 62 = .ok (.getfield 17, 3) := by decide +kernel
theorem dX10_trySets_65 : decode cX10_trySets 65 = .ok (.bipush 12, 2) := by decide +kernel
theorem dX10_trySets_67 : decode cX10_trySets 67 = .ok (.iaload, 1) := by decide +kernel
theorem dX10_trySets_68 : decode cX10_trySets 68 = .ok (.if_icmp .ge 124, 3) := by decide +kernel
theorem dX10_trySets_71 : decode cX10_trySets 71 = .ok (.aload_n 0, 1) := by decide +kernel
theorem dX10_trySets_72 : decode cX10_trySets 72 = .ok (.getfield 17, 3) := by decide +kernel
theorem dX10_trySets_75 : decode cX10_trySets 75 = .ok (.iload 4, 2) := by decide +kernel
theorem dX10_trySets_77 : decode cX10_trySets 77 = .ok (.invokestatic 220, 3) := by decide +kernel
theorem dX10_trySets_80 : decode cX10_trySets 80 = .ok (.iconst 2, 1) := by decide +kernel
theorem dX10_trySets_81 : decode cX10_trySets 81 = .ok (.iadd, 1) := by decide +kernel
theorem dX10_trySets_82 : decode cX10_trySets 82 = .ok (.iaload, 1) := by decide +kernel
theorem dX10_trySets_83 : decode cX10_trySets 83 = .ok (.ifCond .le 16, 3) := by decide +kernel
theorem dX10_trySets_86 : decode cX10_trySets 86 = .ok (.aload_n 0, 1) := by decide +kernel
theorem dX10_trySets_87 : decode cX10_trySets 87 = .ok (.iload 4, 2) := by decide +kernel
theorem dX10_trySets_89 : decode cX10_trySets 89 = .ok (.invokevirtual 263, 3) := by decide +kernel
theorem dX10_trySets_92 : decode cX10_trySets 92 = .ok (.ifCond .eq 7, 3) := by decide +kernel
theorem dX10_trySets_95 : decode cX10_trySets 95 = .ok (.iconst 1, 1) := by decide +kernel
theorem dX10_trySets_96 : decode cX10_trySets 96 = .ok (.goto 4, 3) := by decide +kernel
theorem dX10_trySets_99 : decode cX10_trySets 99 = .ok (.iconst 0, 1) := by decide +kernel
theorem dX10_trySets_100 : decode cX10_trySets 100 = .ok (.istore 5, 2) := by decide +kernel
theorem dX10_trySets_102 : decode cX10_trySets 102 = .ok (.iconst 0, 1) := by decide +kernel
theorem dX10_trySets_103 : decode cX10_trySets 103 = .ok (.istore 6, 2) := by decide +kernel
theorem dX10_trySets_105 : decode cX10_trySets 105 = .ok (.iload 6, 2) := by decide +kernel
theorem dX10_trySets_107 : decode cX10_trySets 107 = .ok (.iload_n 1, 1) := by decide +kernel
theorem dX10_trySets_108 : decode cX10_trySets 108 = .ok (.if_icmp .ge 37, 3) := by decide +kernel
theorem dX10_trySets_111 : decode cX10_trySets 111 = .ok (.iload 5, 2) := by decide +kernel
theorem dX10_trySets_113 : decode cX10_trySets 113 = .ok (.ifCond .eq 23, 3) := by decide +kernel
theorem dX10_trySets_116 : decode cX10_trySets 116 = .ok (.aload_n 0, 1) := by decide +kernel
theorem dX10_trySets_117 : decode cX10_trySets 117 = .ok (.aload_n 0, 1) := by decide +kernel
theorem dX10_trySets_118 : decode cX10_trySets 118 = .ok (.getfield 49, 3) := by decide +kernel
theorem dX10_trySets_121 : decode cX10_trySets 121 = .ok (.iload 6, 2) := by decide +kernel
theorem dX10_trySets_123 : decode cX10_trySets 123 = .ok (.iaload, 1) := by decide +kernel
theorem dX10_trySets_124 : decode cX10_trySets 124 = .ok (.iload 4, 2) := by decide +kernel
theorem dX10_trySets_126 : decode cX10_trySets 126 = .ok (.invokevirtual 253, 3) := by decide +kernel
theorem dX10_trySets_129 : decode cX10_trySets 129 = .ok (.ifCond .eq 7, 3) := by decide +kernel
theorem dX10_trySets_132 : decode cX10_trySets 132 = .ok (.iconst 1, 1) := by decide +kernel
theorem dX10_trySets_133 : decode cX10_trySets 133 = .ok (.goto 4, 3) := by decide +kernel
theorem dX10_trySets_136 : decode cX10_trySets 136 = .ok (.iconst 0, 1) := by decide +kernel
theorem dX10_trySets_137 : decode cX10_trySets 137 = .ok (.istore 5, 2) := by decide +kernel
theorem dX10_trySets_139 : decode cX10_trySets 139 = .ok (.iinc 6 1, 3) := by decide +kernel
theorem dX10_trySets_142 : decode cX10_trySets 142 = .ok (.goto (-37), 3) := by decide +kernel
theorem dX10_trySets_145 : decode cX10_trySets 145 = .ok (.iload 5, 2) := by decide +kernel
theorem dX10_trySets_147 : decode cX10_trySets 147 = .ok (.ifCond .ne 6, 3) := by decide +kernel
theorem dX10_trySets_150 : decode cX10_trySets 150 = .ok (.goto 36, 3) := by decide +kernel
theorem dX10_trySets_153 : decode cX10_trySets 153 = .ok (.aload_n 0, 1) := by decide +kernel
theorem dX10_trySets_154 : decode cX10_trySets 154 = .ok (.getfield 49, 3) := by decide +kernel
theorem dX10_trySets_157 : decode cX10_trySets 157 = .ok (.iload_n 1, 1) := by decide +kernel
theorem dX10_trySets_158 : decode cX10_trySets 158 = .ok (.iload 4, 2) := by decide +kernel
theorem dX10_trySets_160 : decode cX10_trySets 160 = .ok (.iastore, 1) := by decide +kernel
theorem dX10_trySets_161 : decode cX10_trySets 161 = .ok (.aload_n 0, 1) := by decide +kernel
theorem dX10_trySets_162 : decode cX10_trySets 162 = .ok (.iload_n 1, 1) := by decide +kernel
theorem dX10_trySets_163 : decode cX10_trySets 163 = .ok (.iconst 1, 1) := by decide +kernel
theorem dX10_trySets_164 : decode cX10_trySets 164 = .ok (.iadd, 1) := by decide +kernel
theorem dX10_trySets_165 : decode cX10_trySets 165 = .ok (.iload 4, 2) := by decide +kernel
theorem dX10_trySets_167 : decode cX10_trySets 167 = .ok (.iconst 1, 1) := by decide +kernel
theorem dX10_trySets_168 : decode cX10_trySets 168 = .ok (.iadd, 1) := by decide +kernel
theorem dX10_trySets_169 : decode cX10_trySets 169 = .ok (.iload_n 3, 1) := by decide +kernel
theorem dX10_trySets_170 : decode cX10_trySets 170 = .ok (.aload_n 0, 1) := by decide +kernel
theorem dX10_trySets_171 : decode cX10_trySets 171 = .ok (.getfield 17, 3) := by decide +kernel
theorem dX10_trySets_174 : decode cX10_trySets 174 = .ok (.iload 4, 2) := by decide +kernel
theorem dX10_trySets_176 : decode cX10_trySets 176 = .ok (.invokestatic 220, 3) := by decide +kernel
theorem dX10_trySets_179 : decode cX10_trySets 179 = .ok (.iconst 2, 1) := by decide +kernel
theorem dX10_trySets_180 : decode cX10_trySets 180 = .ok (.iadd, 1) := by decide +kernel
theorem dX10_trySets_181 : decode cX10_trySets 181 = .ok (.iaload, 1) := by decide +kernel
theorem dX10_trySets_182 : decode cX10_trySets 182 = .ok (.iadd, 1) := by decide +kernel
theorem dX10_trySets_183 : decode cX10_trySets 183 = .ok (.invokevirtual 266, 3) := by decide +kernel
theorem dX10_trySets_186 : decode cX10_trySets 186 = .ok (.iinc 4 1, 3) := by decide +kernel
theorem dX10_trySets_189 : decode cX10_trySets 189 = .ok (.goto (-130), 3) := by decide +kernel
theorem dX10_trySets_192 : decode cX10_trySets 192 = .ok (.return_, 1) := by decide +kernel
theorem dX10_findBest_0 : decode cX10_findBest 0 = .ok (.aload_n 0, 1) := by decide +kernel
theorem dX10_findBest_1 : decode cX10_findBest 1 = .ok (.iconst 0, 1) := by decide +kernel
theorem dX10_findBest_2 : decode cX10_findBest 2 = .ok (.putfield 260, 3) := by decide +kernel
theorem dX10_findBest_5 : decode cX10_findBest 5 = .ok (.aload_n 0, 1) := by decide +kernel
theorem dX10_findBest_6 : decode cX10_findBest 6 = .ok (.iconst 0, 1) := by decide +kernel
theorem dX10_findBest_7 : decode cX10_findBest 7 = .ok (.putfield 257, 3) := by decide +kernel
theorem dX10_findBest_10 : decode cX10_findBest 10 = .ok (.aload_n 0, 1) := by decide +kernel
theorem dX10_findBest_11 : decode cX10_findBest 11 = .ok (.iconst 0, 1) := by decide +kernel
theorem dX10_findBest_12 : decode cX10_findBest 12 = .ok (.iconst 0, 1) := by decide +kernel
theorem dX10_findBest_13 : decode cX10_findBest 13 = .ok (.iconst 0, 1) := by decide +kernel
theorem dX10_findBest_14 : decode cX10_findBest 14 = .ok (.invokevirtual 266, 3) := by decide +kernel
theorem dX10_findBest_17 : decode cX10_findBest 17 = .ok (.return_, 1) := by decide +kernel
theorem dX10_bestWaiving_0 : decode cX10_bestWaiving 0 = .ok (.aload_n 0, 1) := by decide +kernel
theorem dX10_bestWaiving_1 : decode cX10_bestWaiving 1 = .ok (.iconst 0, 1) := by decide +kernel
theorem dX10_bestWaiving_2 : decode cX10_bestWaiving 2 = .ok (.putfield 52, 3) := by decide +kernel
theorem dX10_bestWaiving_5 : decode cX10_bestWaiving 5 = .ok (.aload_n 0, 1) := by decide +kernel
theorem dX10_bestWaiving_6 : decode cX10_bestWaiving 6 = .ok (.invokevirtual 270, 3) := by decide +kernel
theorem dX10_bestWaiving_9 : decode cX10_bestWaiving 9 = .ok (.aload_n 0, 1) := by decide +kernel
theorem dX10_bestWaiving_10 : decode cX10_bestWaiving 10 = .ok (.getfield 257, 3) := by decide +kernel
theorem dX10_bestWaiving_13 : decode cX10_bestWaiving 13 = .ok (.ireturn, 1) := by decide +kernel
theorem dX10_bestWaiver_0 : decode cX10_bestWaiver 0 = .ok (.aload_n 0, 1) := by decide +kernel
theorem dX10_bestWaiver_1 : decode cX10_bestWaiver 1 = .ok (.iconst 0, 1) := by decide +kernel
theorem dX10_bestWaiver_2 : decode cX10_bestWaiver 2 = .ok (.putfield 52, 3) := by decide +kernel
theorem dX10_bestWaiver_5 : decode cX10_bestWaiver 5 = .ok (.aload_n 0, 1) := by decide +kernel
theorem dX10_bestWaiver_6 : decode cX10_bestWaiver 6 = .ok (.iload_n 1, 1) := by decide +kernel
theorem dX10_bestWaiver_7 : decode cX10_bestWaiver 7 = .ok (.ifCond .ge 7, 3) := by decide +kernel
theorem dX10_bestWaiver_10 : decode cX10_bestWaiver 10 = .ok (.iconst 1, 1) := by decide +kernel
theorem dX10_bestWaiver_11 : decode cX10_bestWaiver 11 = .ok (.goto 4, 3) := by decide +kernel
theorem dX10_bestWaiver_14 : decode cX10_bestWaiver 14 = .ok (.iconst 0, 1) := by decide +kernel
theorem dX10_bestWaiver_15 : decode cX10_bestWaiver 15 = .ok (.iconst 1, 1) := by decide +kernel
theorem dX10_bestWaiver_16 : decode cX10_bestWaiver 16 = .ok (.invokevirtual 177, 3) := by decide +kernel
theorem dX10_bestWaiver_19 : decode cX10_bestWaiver 19 = .ok (.ifCond .eq 5, 3) := by decide +kernel
theorem dX10_bestWaiver_22 : decode cX10_bestWaiver 22 = .ok (.iconst 0, 1) := by decide +kernel
theorem dX10_bestWaiver_23 : decode cX10_bestWaiver 23 = .ok (.ireturn, 1) := by decide +kernel
theorem dX10_bestWaiver_24 : decode cX10_bestWaiver 24 = .ok (.aload_n 0, 1) := by decide +kernel
theorem dX10_bestWaiver_25 : decode cX10_bestWaiver 25 = .ok (.invokevirtual 270, 3) := by decide +kernel
theorem dX10_bestWaiver_28 : decode cX10_bestWaiver 28 = .ok (.iload_n 1, 1) := by decide +kernel
theorem dX10_bestWaiver_29 : decode cX10_bestWaiver 29 = .ok (.aload_n 0, 1) := by decide +kernel
theorem dX10_bestWaiver_30 : decode cX10_bestWaiver 30 = .ok (.getfield 260, 3) := by decide +kernel
theorem dX10_bestWaiver_33 : decode cX10_bestWaiver 33 = .ok (.if_icmp .ge 12, 3) := by decide +kernel
theorem dX10_bestWaiver_36 : decode cX10_bestWaiver 36 = .ok (.aload_n 0, 1) := by decide +kernel
theorem dX10_bestWaiver_37 : decode cX10_bestWaiver 37 = .ok (.getfield 46, 3) := by decide +kernel
theorem dX10_bestWaiver_40 : decode cX10_bestWaiver 40 = .ok (.iload_n 1, 1) := by decide +kernel
theorem dX10_bestWaiver_41 : decode cX10_bestWaiver 41 = .ok (.iaload, 1) := by decide +kernel
theorem dX10_bestWaiver_42 : decode cX10_bestWaiver 42 = .ok (.goto 4, 3) := by decide +kernel
theorem dX10_bestWaiver_45 : decode cX10_bestWaiver 45 = .ok (.iconst (-1), 1) := by decide +kernel
theorem dX10_bestWaiver_46 : decode cX10_bestWaiver 46 = .ok (.ireturn, 1) := by decide +kernel
theorem dX10_project_0 : decode cX10_project 0 = .ok (.lconst 0, 1) := by decide +kernel
theorem dX10_project_1 : decode cX10_project 1 = .ok (.lstore_n 1, 1) := by decide +kernel
theorem dX10_project_2 : decode cX10_project 2 = .ok (.aload_n 0, 1) := by decide +kernel
theorem dX10_project_3 : decode cX10_project 3 = .ok (.getfield 23, 3) := by decide +kernel
theorem dX10_project_6 : decode cX10_project 6 = .ok (.invokestatic 273, 3) := by decide +kernel
theorem dX10_project_9 : decode cX10_project 9 = .ok (.ifCond .eq 33, 3) := by decide +kernel
theorem dX10_project_12 : decode cX10_project 12 = .ok (.aload_n 0, 1) := by decide +kernel
theorem dX10_project_13 : decode cX10_project 13 = .ok (.getfield 23, 3) := by decide +kernel
theorem dX10_project_16 : decode cX10_project 16 = .ok (.aload_n 0, 1) := by decide +kernel
theorem dX10_project_17 : decode cX10_project 17 = .ok (.getfield 35, 3) := by decide +kernel
theorem dX10_project_20 : decode cX10_project 20 = .ok (.invokestatic 277, 3) := by decide +kernel
theorem dX10_project_23 : decode cX10_project 23 = .ok (.lload_n 1, 1) := by decide +kernel
theorem dX10_project_24 : decode cX10_project 24 = .ok (.aload_n 0, 1) := by decide +kernel
theorem dX10_project_25 : decode cX10_project 25 = .ok (.getfield 35, 3) := by decide +kernel
theorem dX10_project_28 : decode cX10_project 28 = .ok (.aload_n 0, 1) := by decide +kernel
theorem dX10_project_29 : decode cX10_project 29 = .ok (.getfield 23, 3) := by decide +kernel
theorem dX10_project_32 : decode cX10_project 32 = .ok (.iconst 1, 1) := by decide +kernel
theorem dX10_project_33 : decode cX10_project 33 = .ok (.iaload, 1) := by decide +kernel
theorem dX10_project_34 : decode cX10_project 34 = .ok (.iconst 1, 1) := by decide +kernel
theorem dX10_project_35 : decode cX10_project 35 = .ok (.isub, 1) := by decide +kernel
theorem dX10_project_36 : decode cX10_project 36 = .ok (.laload, 1) := by decide +kernel
theorem dX10_project_37 : decode cX10_project 37 = .ok (.ladd, 1) := by decide +kernel
theorem dX10_project_38 : decode cX10_project 38 = .ok (.lstore_n 1, 1) := by decide +kernel
theorem dX10_project_39 : decode cX10_project 39 = .ok (.goto (-37), 3) := by decide +kernel
theorem dX10_project_42 : decode cX10_project 42 = .ok (.lload_n 1, 1) := by decide +kernel
theorem dX10_project_43 : decode cX10_project 43 = .ok (.lreturn, 1) := by decide +kernel
theorem dX10_projected_0 : decode cX10_projected 0 = .ok (.aload_n 0, 1) := by decide +kernel
theorem dX10_projected_1 : decode cX10_projected 1 = .ok (.iconst 0, 1) := by decide +kernel
theorem dX10_projected_2 : decode cX10_projected 2 = .ok (.putfield 52, 3) := by decide +kernel
theorem dX10_projected_5 : decode cX10_projected 5 = .ok (.aload_n 0, 1) := by decide +kernel
theorem dX10_projected_6 : decode cX10_projected 6 = .ok (.getfield 17, 3) := by decide +kernel
theorem dX10_projected_9 : decode cX10_projected 9 = .ok (.aload_n 0, 1) := by decide +kernel
theorem dX10_projected_10 : decode cX10_projected 10 = .ok (.getfield 23, 3) := by decide +kernel
theorem dX10_projected_13 : decode cX10_projected 13 = .ok (.invokestatic 192, 3) := by decide +kernel
theorem dX10_projected_16 : decode cX10_projected 16 = .ok (.aload_n 0, 1) := by decide +kernel
theorem dX10_projected_17 : decode cX10_projected 17 = .ok (.invokevirtual 281, 3) := by decide +kernel
theorem dX10_projected_20 : decode cX10_projected 20 = .ok (.lreturn, 1) := by decide +kernel
theorem dX10_bestReserved_0 : decode cX10_bestReserved 0 = .ok (.aload_n 0, 1) := by decide +kernel
theorem dX10_bestReserved_1 : decode cX10_bestReserved 1 = .ok (.iconst 0, 1) := by decide +kernel
theorem dX10_bestReserved_2 : decode cX10_bestReserved 2 = .ok (.putfield 52, 3) := by decide +kernel
theorem dX10_bestReserved_5 : decode cX10_bestReserved 5 = .ok (.aload_n 0, 1) := by decide +kernel
theorem dX10_bestReserved_6 : decode cX10_bestReserved 6 = .ok (.iload_n 1, 1) := by decide +kernel
theorem dX10_bestReserved_7 : decode cX10_bestReserved 7 = .ok (.iconst 0, 1) := by decide +kernel
theorem dX10_bestReserved_8 : decode cX10_bestReserved 8 = .ok (.sipush 500, 3) := by decide +kernel
theorem dX10_bestReserved_11 : decode cX10_bestReserved 11 = .ok (.invokestatic 74, 3) := by decide +kernel
theorem dX10_bestReserved_14 : decode cX10_bestReserved 14 = .ok (.ifCond .ne 7, 3) := by decide +kernel
theorem dX10_bestReserved_17 : decode cX10_bestReserved 17 = .ok (.iconst 1, 1) := by decide +kernel
theorem dX10_bestReserved_18 : decode cX10_bestReserved 18 = .ok (.goto 4, 3) := by decide +kernel
theorem dX10_bestReserved_21 : decode cX10_bestReserved 21 = .ok (.iconst 0, 1) := by decide +kernel
theorem dX10_bestReserved_22 : decode cX10_bestReserved 22 = .ok (.iconst 1, 1) := by decide +kernel
theorem dX10_bestReserved_23 : decode cX10_bestReserved 23 = .ok (.invokevirtual 177, 3) := by decide +kernel
theorem dX10_bestReserved_26 : decode cX10_bestReserved 26 = .ok (.ifCond .ne 33, 3) := by decide +kernel
theorem dX10_bestReserved_29 : decode cX10_bestReserved 29 = .ok (.aload_n 0, 1) := by decide +kernel
theorem dX10_bestReserved_30 : decode cX10_bestReserved 30 = .ok (.aload_n 0, 1) := by decide +kernel
theorem dX10_bestReserved_31 : decode cX10_bestReserved 31 = .ok (.getfield 17, 3) := by decide +kernel
theorem dX10_bestReserved_34 : decode cX10_bestReserved 34 = .ok (.iconst 1, 1) := by decide +kernel
theorem dX10_bestReserved_35 : decode cX10_bestReserved 35 = .ok (.iaload, 1) := by decide +kernel
theorem dX10_bestReserved_36 : decode cX10_bestReserved 36 = .ok (.iconst 1, 1) := by decide +kernel
theorem dX10_bestReserved_37 : decode cX10_bestReserved 37 = .ok (.iadd, 1) := by decide +kernel
theorem dX10_bestReserved_38 : decode cX10_bestReserved 38 = .ok (.aload_n 0, 1) := by decide +kernel
theorem dX10_bestReserved_39 : decode cX10_bestReserved 39 = .ok (.getfield 17, 3) := by decide +kernel
theorem dX10_bestReserved_42 : decode cX10_bestReserved 42 = .ok (.iconst 0, 1) := by decide +kernel
theorem dX10_bestReserved_43 : decode cX10_bestReserved 43 = .ok (.iaload, 1) := by decide +kernel
theorem dX10_bestReserved_44 : decode cX10_bestReserved 44 = .ok (.if_icmp .lt 7, 3) := by decide +kernel
theorem dX10_bestReserved_47 : decode cX10_bestReserved 47 = .ok (.iconst 1, 1) := by decide +kernel
theorem dX10_bestReserved_48 : decode cX10_bestReserved 48 = .ok (.goto 4, 3) := by decide +kernel
theorem dX10_bestReserved_51 : decode cX10_bestReserved 51 = .ok (.iconst 0, 1) := by decide +kernel
theorem dX10_bestReserved_52 : decode cX10_bestReserved 52 = .ok (.iconst 2, 1) := by decide +kernel
theorem dX10_bestReserved_53 : decode cX10_bestReserved 53 = .ok (.invokevirtual 177, 3) := by decide +kernel
theorem dX10_bestReserved_56 : decode cX10_bestReserved 56 = .ok (.ifCond .eq 5, 3) := by decide +kernel
theorem dX10_bestReserved_59 : decode cX10_bestReserved 59 = .ok (.iconst 0, 1) := by decide +kernel
theorem dX10_bestReserved_60 : decode cX10_bestReserved 60 = .ok (.ireturn, 1) := by decide +kernel
theorem dX10_bestReserved_61 : decode cX10_bestReserved 61 = .ok (.iconst (-1), 1) := by decide +kernel
theorem dX10_bestReserved_62 : decode cX10_bestReserved 62 = .ok (.istore_n 2, 1) := by decide +kernel
theorem dX10_bestReserved_63 : decode cX10_bestReserved 63 = .ok (.lconst 0, 1) := by decide +kernel
theorem dX10_bestReserved_64 : decode cX10_bestReserved 64 = .ok (.lstore_n 3, 1) := by decide +kernel
theorem dX10_bestReserved_65 : decode cX10_bestReserved 65 = .ok (.iconst 0, 1) := by decide +kernel
theorem dX10_bestReserved_66 : decode cX10_bestReserved 66 = .ok (.istore 5, 2) := by decide +kernel
theorem dX10_bestReserved_68 : decode cX10_bestReserved 68 = .ok (.iload 5, 2) := by decide +kernel
theorem dX10_bestReserved_70 : decode cX10_bestReserved 70 = .ok (.iload_n 1, 1) := by decide +kernel
theorem dX10_bestReserved_71 : decode cX10_bestReserved 71 = .ok (.if_icmp .gt 85, 3) := by decide +kernel
theorem dX10_bestReserved_74 : decode cX10_bestReserved 74 = .ok (.aload_n 0, 1) := by decide +kernel
theorem dX10_bestReserved_75 : decode cX10_bestReserved 75 = .ok (.getfield 17, 3) := by decide +kernel
theorem dX10_bestReserved_78 : decode cX10_bestReserved 78 = .ok (.aload_n 0, 1) := by decide +kernel
theorem dX10_bestReserved_79 : decode cX10_bestReserved 79 = .ok (.getfield 23, 3) := by decide +kernel
theorem dX10_bestReserved_82 : decode cX10_bestReserved 82 = .ok (.invokestatic 192, 3) := by decide +kernel
theorem dX10_bestReserved_85 : decode cX10_bestReserved 85 = .ok (.aload_n 0, 1) := by decide +kernel
theorem dX10_bestReserved_86 : decode cX10_bestReserved 86 = .ok (.getfield 17, 3) := by decide +kernel
theorem dX10_bestReserved_89 : decode cX10_bestReserved 89 = .ok (.iconst 1, 1) := by decide +kernel
theorem dX10_bestReserved_90 : decode cX10_bestReserved 90 = .ok (.iaload, 1) := by decide +kernel
theorem dX10_bestReserved_91 : decode cX10_bestReserved 91 = .ok (.iconst 1, 1) := by decide +kernel
theorem dX10_bestReserved_92 : decode cX10_bestReserved 92 = .ok (.iadd, 1) := by decide +kernel
theorem dX10_bestReserved_93 : decode cX10_bestReserved 93 = .ok (.istore 6, 2) := by decide +kernel
theorem dX10_bestReserved_95 : decode cX10_bestReserved 95 = .ok (.iload 6, 2) := by decide +kernel
theorem dX10_bestReserved_97 : decode cX10_bestReserved 97 = .ok (.aload_n 0, 1) := by decide +kernel
theorem dX10_bestReserved_98 : decode cX10_bestReserved 98 = .ok (.getfield 17, 3) := by decide +kernel
theorem dX10_bestReserved_101 : decode cX10_bestReserved 101 = .ok (.iconst 0, 1) := by decide +kernel
theorem dX10_bestReserved_102 : decode cX10_bestReserved 102 = .ok (.iaload, 1) := by decide +kernel
theorem dX10_bestReserved_103 : decode cX10_bestReserved 103 = .ok (.if_icmp .ge 21, 3) := by decide +kernel
theorem dX10_bestReserved_106 : decode cX10_bestReserved 106 = .ok (.aload_n 0, 1) := by decide +kernel
theorem dX10_bestReserved_107 : decode cX10_bestReserved 107 = .ok (.getfield 23, 3) := by decide +kernel
theorem dX10_bestReserved_110 : decode cX10_bestReserved 110 = .ok (.iload 6, 2) := by decide +kernel
theorem dX10_bestReserved_112 : decode cX10_bestReserved 112 = .ok (.invokestatic 148, 3) := by decide +kernel
theorem dX10_bestReserved_115 : decode cX10_bestReserved 115 = .ok (.iload 5, 2) := by decide +kernel
theorem dX10_bestReserved_117 : decode cX10_bestReserved 117 = .ok (.iastore, 1) := by decide +kernel
theorem dX10_bestReserved_118 : decode cX10_bestReserved 118 = .ok (.iinc 6 1, 3) := by decide +kernel
theorem dX10_bestReserved_121 : decode cX10_bestReserved 121 = .ok (.goto (-26), 3) := by decide +kernel
theorem dX10_bestReserved_124 : decode cX10_bestReserved 124 = .ok (.aload_n 0, 1) := by decide +kernel
theorem dX10_bestReserved_125 : decode cX10_bestReserved 125 = .ok (.invokevirtual 281, 3) := by decide +kernel
theorem dX10_bestReserved_128 : decode cX10_bestReserved 128 = .ok (.lstore 6, 2) := by decide +kernel
theorem dX10_bestReserved_130 : decode cX10_bestReserved 130 = .ok (.iload_n 2, 1) := by decide +kernel
theorem dX10_bestReserved_131 : decode cX10_bestReserved 131 = .ok (.ifCond .lt 13, 3) := by decide +kernel
theorem dX10_bestReserved_134 : decode cX10_bestReserved 134 = .ok (.lload 6, 2) := by decide +kernel
theorem dX10_bestReserved_136 : decode cX10_bestReserved 136 = .ok (.lload_n 3, 1) := by decide +kernel
theorem dX10_bestReserved_137 : decode cX10_bestReserved 137 = .ok (.lcmp, 1) := by decide +kernel
theorem dX10_bestReserved_138 : decode cX10_bestReserved 138 = .ok (.ifCond .lt 6, 3) := by decide +kernel
theorem dX10_bestReserved_141 : decode cX10_bestReserved 141 = .ok (.goto 9, 3) := by decide +kernel
theorem dX10_bestReserved_144 : decode cX10_bestReserved 144 = .ok (.iload 5, 2) := by decide +kernel
theorem dX10_bestReserved_146 : decode cX10_bestReserved 146 = .ok (.istore_n 2, 1) := by decide +kernel
theorem dX10_bestReserved_147 : decode cX10_bestReserved 147 = .ok (.lload 6, 2) := by decide +kernel
theorem dX10_bestReserved_149 : decode cX10_bestReserved 149 = .ok (.lstore_n 3, 1) := by decide +kernel
theorem dX10_bestReserved_150 : decode cX10_bestReserved 150 = .ok (.iinc 5 1, 3) := by decide +kernel
theorem dX10_bestReserved_153 : decode cX10_bestReserved 153 = .ok (.goto (-85), 3) := by decide +kernel
theorem dX10_bestReserved_156 : decode cX10_bestReserved 156 = .ok (.iload_n 2, 1) := by decide +kernel
theorem dX10_bestReserved_157 : decode cX10_bestReserved 157 = .ok (.ireturn, 1) := by decide +kernel
theorem dX10_remember_0 : decode cX10_remember 0 = .ok (.aload_n 0, 1) := by decide +kernel
theorem dX10_remember_1 : decode cX10_remember 1 = .ok (.getfield 284, 3) := by decide +kernel
theorem dX10_remember_4 : decode cX10_remember 4 = .ok (.bipush 8, 2) := by decide +kernel
theorem dX10_remember_6 : decode cX10_remember 6 = .ok (.if_icmp .ne 61, 3) := by decide +kernel
theorem dX10_remember_9 : decode cX10_remember 9 = .ok (.iconst 1, 1) := by decide +kernel
theorem dX10_remember_10 : decode cX10_remember 10 = .ok (.istore_n 1, 1) := by decide +kernel
theorem dX10_remember_11 : decode cX10_remember 11 = .ok (.iload_n 1, 1) := by decide +kernel
theorem dX10_remember_12 : decode cX10_remember 12 = .ok (.bipush 8, 2) := by decide +kernel
theorem dX10_remember_14 : decode cX10_remember 14 = .ok (.if_icmp .ge 43, 3) := by decide +kernel
theorem dX10_remember_17 : decode cX10_remember 17 = .ok (.aload_n 0, 1) := by decide +kernel
theorem dX10_remember_18 : decode cX10_remember 18 = .ok (.getfield 28, 3) := by decide +kernel
theorem dX10_remember_21 : decode cX10_remember 21 = .ok (.iload_n 1, 1) := by decide +kernel
theorem dX10_remember_22 : decode cX10_remember 22 = .ok (.aaload, 1) := by decide +kernel
theorem dX10_remember_23 : decode cX10_remember 23 = .ok (.aload_n 0, 1) := by decide +kernel
theorem dX10_remember_24 : decode cX10_remember 24 = .ok (.getfield 28, 3) := by decide +kernel
theorem dX10_remember_27 : decode cX10_remember 27 = .ok (.iload_n 1, 1) := by decide +kernel
theorem dX10_remember_28 : decode cX10_remember 28 = .ok (.iconst 1, 1) := by decide +kernel
theorem dX10_remember_29 : decode cX10_remember 29 = .ok (.isub, 1) := by decide +kernel
theorem dX10_remember_30 : decode cX10_remember 30 = .ok (.aaload, 1) := by decide +kernel
theorem dX10_remember_31 : decode cX10_remember 31 = .ok (.invokestatic 192, 3) := by decide +kernel
theorem dX10_remember_34 : decode cX10_remember 34 = .ok (.aload_n 0, 1) := by decide +kernel
theorem dX10_remember_35 : decode cX10_remember 35 = .ok (.getfield 40, 3) := by decide +kernel
theorem dX10_remember_38 : decode cX10_remember 38 = .ok (.iload_n 1, 1) := by decide +kernel
theorem dX10_remember_39 : decode cX10_remember 39 = .ok (.aaload, 1) := by decide +kernel
theorem dX10_remember_40 : decode cX10_remember 40 = .ok (.aload_n 0, 1) := by decide +kernel
theorem dX10_remember_41 : decode cX10_remember 41 = .ok (.getfield 40, 3) := by decide +kernel
theorem dX10_remember_44 : decode cX10_remember 44 = .ok (.iload_n 1, 1) := by decide +kernel
theorem dX10_remember_45 : decode cX10_remember 45 = .ok (.iconst 1, 1) := by decide +kernel
theorem dX10_remember_46 : decode cX10_remember 46 = .ok (.isub, 1) := by decide +kernel
theorem dX10_remember_47 : decode cX10_remember 47 = .ok (.aaload, 1) := by decide +kernel
theorem dX10_remember_48 : decode cX10_remember 48 = .ok (.invokestatic 287, 3) := by decide +kernel
theorem dX10_remember_51 : decode cX10_remember 51 = .ok (.iinc 1 1, 3) := by decide +kernel
theorem dX10_remember_54 : decode cX10_remember 54 = .ok (.goto (-43), 3) := by decide +kernel
theorem dX10_remember_57 : decode cX10_remember 57 = .ok (.aload_n 0, 1) := by decide +kernel
theorem dX10_remember_58 : decode cX10_remember 58 = .ok (.dup, 1) := by decide +kernel
theorem dX10_remember_59 : decode cX10_remember 59 = .ok (.getfield 284, 3) := by decide +kernel
theorem dX10_remember_62 : decode cX10_remember 62 = .ok (.iconst 1, 1) := by decide +kernel
theorem dX10_remember_63 : decode cX10_remember 63 = .ok (.isub, 1) := by decide +kernel
theorem dX10_remember_64 : decode cX10_remember 64 = .ok (.putfield 284, 3) := by decide +kernel
theorem dX10_remember_67 : decode cX10_remember 67 = .ok (.aload_n 0, 1) := by decide +kernel
theorem dX10_remember_68 : decode cX10_remember 68 = .ok (.getfield 17, 3) := by decide +kernel
theorem dX10_remember_71 : decode cX10_remember 71 = .ok (.aload_n 0, 1) := by decide +kernel
theorem dX10_remember_72 : decode cX10_remember 72 = .ok (.getfield 28, 3) := by decide +kernel
theorem dX10_remember_75 : decode cX10_remember 75 = .ok (.aload_n 0, 1) := by decide +kernel
theorem dX10_remember_76 : decode cX10_remember 76 = .ok (.getfield 284, 3) := by decide +kernel
theorem dX10_remember_79 : decode cX10_remember 79 = .ok (.aaload, 1) := by decide +kernel
theorem dX10_remember_80 : decode cX10_remember 80 = .ok (.invokestatic 192, 3) := by decide +kernel
theorem dX10_remember_83 : decode cX10_remember 83 = .ok (.aload_n 0, 1) := by decide +kernel
theorem dX10_remember_84 : decode cX10_remember 84 = .ok (.getfield 31, 3) := by decide +kernel
theorem dX10_remember_87 : decode cX10_remember 87 = .ok (.aload_n 0, 1) := by decide +kernel
theorem dX10_remember_88 : decode cX10_remember 88 = .ok (.getfield 40, 3) := by decide +kernel
theorem dX10_remember_91 : decode cX10_remember 91 = .ok (.aload_n 0, 1) := by decide +kernel
theorem dX10_remember_92 : decode cX10_remember 92 = .ok (.getfield 284, 3) := by decide +kernel
theorem dX10_remember_95 : decode cX10_remember 95 = .ok (.aaload, 1) := by decide +kernel
theorem dX10_remember_96 : decode cX10_remember 96 = .ok (.invokestatic 287, 3) := by decide +kernel
theorem dX10_remember_99 : decode cX10_remember 99 = .ok (.aload_n 0, 1) := by decide +kernel
theorem dX10_remember_100 : decode cX10_remember 100 = .ok (.dup, 1) := by decide +kernel
theorem dX10_remember_101 : decode cX10_remember 101 = .ok (.getfield 284, 3) := by decide +kernel
theorem dX10_remember_104 : decode cX10_remember 104 = .ok (.iconst 1, 1) := by decide +kernel
theorem dX10_remember_105 : decode cX10_remember 105 = .ok (.iadd, 1) := by decide +kernel
theorem dX10_remember_106 : decode cX10_remember 106 = .ok (.putfield 284, 3) := by decide +kernel
theorem dX10_remember_109 : decode cX10_remember 109 = .ok (.return_, 1) := by decide +kernel
theorem dX10_forecast_0 : decode cX10_forecast 0 = .ok (.aload_n 0, 1) := by decide +kernel
theorem dX10_forecast_1 : decode cX10_forecast 1 = .ok (.iconst 0, 1) := by decide +kernel
theorem dX10_forecast_2 : decode cX10_forecast 2 = .ok (.putfield 52, 3) := by decide +kernel
theorem dX10_forecast_5 : decode cX10_forecast 5 = .ok (.aload_n 0, 1) := by decide +kernel
theorem dX10_forecast_6 : decode cX10_forecast 6 = .ok (.iload_n 1, 1) := by decide +kernel
theorem dX10_forecast_7 : decode cX10_forecast 7 = .ok (.invokevirtual 237, 3) := by decide +kernel
theorem dX10_forecast_10 : decode cX10_forecast 10 = .ok (.ifCond .ne 50, 3) := by decide +kernel
theorem dX10_forecast_13 : decode cX10_forecast 13 = .ok (.aload_n 0, 1) := by decide +kernel
theorem dX10_forecast_14 : decode cX10_forecast 14 = .ok (.iload_n 2, 1) := by decide +kernel
theorem dX10_forecast_15 : decode cX10_forecast 15 = .ok (.iconst 0, 1) := by decide +kernel
theorem dX10_forecast_16 : decode cX10_forecast 16 = .ok (.sipush 9999, 3) := by decide +kernel
theorem dX10_forecast_19 : decode cX10_forecast 19 = .ok (.invokestatic 74, 3) := by decide +kernel
theorem dX10_forecast_22 : decode cX10_forecast 22 = .ok (.ifCond .ne 7, 3) := by decide +kernel
theorem dX10_forecast_25 : decode cX10_forecast 25 = .ok (.iconst 1, 1) := by decide +kernel
theorem dX10_forecast_26 : decode cX10_forecast 26 = .ok (.goto 4, 3) := by decide +kernel
theorem dX10_forecast_29 : decode cX10_forecast 29 = .ok (.iconst 0, 1) := by decide +kernel
theorem dX10_forecast_30 : decode cX10_forecast 30 = .ok (.iconst 2, 1) := by decide +kernel
theorem dX10_forecast_31 : decode cX10_forecast 31 = .ok (.invokevirtual 177, 3) := by decide +kernel
theorem dX10_forecast_34 : decode cX10_forecast 34 = .ok (.ifCond .ne 26, 3) := by decide +kernel
theorem dX10_forecast_37 : decode cX10_forecast 37 = .ok (.aload_n 0, 1) := by decide +kernel
theorem dX10_forecast_38 : decode cX10_forecast 38 = .ok (.iload_n 1, 1) := by decide +kernel
theorem dX10_forecast_39 : decode cX10_forecast 39 = .ok (.aload_n 0, 1) := by decide +kernel
theorem dX10_forecast_40 : decode cX10_forecast 40 = .ok (.getfield 17, 3) := by decide +kernel
theorem dX10_forecast_43 : decode cX10_forecast 43 = .ok (.iconst 1, 1) := by decide +kernel
theorem dX10_forecast_44 : decode cX10_forecast 44 = .ok (.iaload, 1) := by decide +kernel
theorem dX10_forecast_45 : decode cX10_forecast 45 = .ok (.if_icmp .gt 7, 3) := by decide +kernel
theorem dX10_forecast_48 : decode cX10_forecast 48 = .ok (.iconst 1, 1) := by decide +kernel
theorem dX10_forecast_49 : decode cX10_forecast 49 = .ok (.goto 4, 3) := by decide +kernel
theorem dX10_forecast_52 : decode cX10_forecast 52 = .ok (.iconst 0, 1) := by decide +kernel
theorem dX10_forecast_53 : decode cX10_forecast 53 = .ok (.iconst 3, 1) := by decide +kernel
theorem dX10_forecast_54 : decode cX10_forecast 54 = .ok (.invokevirtual 177, 3) := by decide +kernel
theorem dX10_forecast_57 : decode cX10_forecast 57 = .ok (.ifCond .eq 5, 3) := by decide +kernel
theorem dX10_forecast_60 : decode cX10_forecast 60 = .ok (.iconst 0, 1) := by decide +kernel
theorem dX10_forecast_61 : decode cX10_forecast 61 = .ok (.ireturn, 1) := by decide +kernel
theorem dX10_forecast_62 : decode cX10_forecast 62 = .ok (.aload_n 0, 1) := by decide +kernel
theorem dX10_forecast_63 : decode cX10_forecast 63 = .ok (.invokevirtual 189, 3) := by decide +kernel
theorem dX10_forecast_66 : decode cX10_forecast 66 = .ok (.iload_n 1, 1) := by decide +kernel
theorem dX10_forecast_67 : decode cX10_forecast 67 = .ok (.invokestatic 148, 3) := by decide +kernel
theorem dX10_forecast_70 : decode cX10_forecast 70 = .ok (.iconst 1, 1) := by decide +kernel
theorem dX10_forecast_71 : decode cX10_forecast 71 = .ok (.iadd, 1) := by decide +kernel
theorem dX10_forecast_72 : decode cX10_forecast 72 = .ok (.istore_n 3, 1) := by decide +kernel
theorem dX10_forecast_73 : decode cX10_forecast 73 = .ok (.aload_n 0, 1) := by decide +kernel
theorem dX10_forecast_74 : decode cX10_forecast 74 = .ok (.iload_n 1, 1) := by decide +kernel
theorem dX10_forecast_75 : decode cX10_forecast 75 = .ok (.iconst 1, 1) := by decide +kernel
theorem dX10_forecast_76 : decode cX10_forecast 76 = .ok (.aload_n 0, 1) := by decide +kernel
theorem dX10_forecast_77 : decode cX10_forecast 77 = .ok (.iload_n 1, 1) := by decide +kernel
theorem dX10_forecast_78 : decode cX10_forecast 78 = .ok (.aload_n 0, 1) := by decide +kernel
theorem dX10_forecast_79 : decode cX10_forecast 79 = .ok (.getfield 17, 3) := by decide +kernel
theorem dX10_forecast_82 : decode cX10_forecast 82 = .ok (.iconst 1, 1) := by decide +kernel
theorem dX10_forecast_83 : decode cX10_forecast 83 = .ok (.iaload, 1) := by decide +kernel
theorem dX10_forecast_84 : decode cX10_forecast 84 = .ok (.isub, 1) := by decide +kernel
theorem dX10_forecast_85 : decode cX10_forecast 85 = .ok (.aload_n 0, 1) := by decide +kernel
theorem dX10_forecast_86 : decode cX10_forecast 86 = .ok (.getfield 17, 3) := by decide +kernel
theorem dX10_forecast_89 : decode cX10_forecast 89 = .ok (.iload_n 3, 1) := by decide +kernel
theorem dX10_forecast_90 : decode cX10_forecast 90 = .ok (.iaload, 1) := by decide +kernel
theorem dX10_forecast_91 : decode cX10_forecast 91 = .ok (.iload_n 2, 1) := by decide +kernel
theorem dX10_forecast_92 : decode cX10_forecast 92 = .ok (.invokevirtual 291, 3) := by decide +kernel
theorem dX10_forecast_95 : decode cX10_forecast 95 = .ok (.aload_n 0, 1) := by decide +kernel
theorem dX10_forecast_96 : decode cX10_forecast 96 = .ok (.getfield 17, 3) := by decide +kernel
theorem dX10_forecast_99 : decode cX10_forecast 99 = .ok (.iload_n 3, 1) := by decide +kernel
theorem dX10_forecast_100 : decode cX10_forecast 100 = .ok (.iaload, 1) := by decide +kernel
theorem dX10_forecast_101 : decode cX10_forecast 101 = .ok (.invokevirtual 295, 3) := by decide +kernel
theorem dX10_forecast_104 : decode cX10_forecast 104 = .ok (.istore 4, 2) := by decide +kernel
theorem dX10_forecast_106 : decode cX10_forecast 106 = .ok (.aload_n 0, 1) := by decide +kernel
theorem dX10_forecast_107 : decode cX10_forecast 107 = .ok (.getfield 17, 3) := by decide +kernel
theorem dX10_forecast_110 : decode cX10_forecast 110 = .ok (.iload_n 3, 1) := by decide +kernel
theorem dX10_forecast_111 : decode cX10_forecast 111 = .ok (.iload_n 2, 1) := by decide +kernel
theorem dX10_forecast_112 : decode cX10_forecast 112 = .ok (.iastore, 1) := by decide +kernel
theorem dX10_forecast_113 : decode cX10_forecast 113 = .ok (.iload 4, 2) := by decide +kernel
theorem dX10_forecast_115 : decode cX10_forecast 115 = .ok (.ireturn, 1) := by decide +kernel
theorem dX10_order_0 : decode cX10_order 0 = .ok (.aload_n 0, 1) := by decide +kernel
theorem dX10_order_1 : decode cX10_order 1 = .ok (.iconst 0, 1) := by decide +kernel
theorem dX10_order_2 : decode cX10_order 2 = .ok (.putfield 52, 3) := by decide +kernel
theorem dX10_order_5 : decode cX10_order 5 = .ok (.aload_n 0, 1) := by decide +kernel
theorem dX10_order_6 : decode cX10_order 6 = .ok (.iload_n 1, 1) := by decide +kernel
theorem dX10_order_7 : decode cX10_order 7 = .ok (.iconst 0, 1) := by decide +kernel
theorem dX10_order_8 : decode cX10_order 8 = .ok (.sipush 9999, 3) := by decide +kernel
theorem dX10_order_11 : decode cX10_order 11 = .ok (.invokestatic 74, 3) := by decide +kernel
theorem dX10_order_14 : decode cX10_order 14 = .ok (.ifCond .ne 7, 3) := by decide +kernel
theorem dX10_order_17 : decode cX10_order 17 = .ok (.iconst 1, 1) := by decide +kernel
theorem dX10_order_18 : decode cX10_order 18 = .ok (.goto 4, 3) := by decide +kernel
theorem dX10_order_21 : decode cX10_order 21 = .ok (.iconst 0, 1) := by decide +kernel
theorem dX10_order_22 : decode cX10_order 22 = .ok (.iconst 1, 1) := by decide +kernel
theorem dX10_order_23 : decode cX10_order 23 = .ok (.invokevirtual 177, 3) := by decide +kernel
theorem dX10_order_26 : decode cX10_order 26 = .ok (.ifCond .ne 45, 3) := by decide +kernel
theorem dX10_order_29 : decode cX10_order 29 = .ok (.aload_n 0, 1) := by decide +kernel
theorem dX10_order_30 : decode cX10_order 30 = .ok (.aload_n 0, 1) := by decide +kernel
theorem dX10_order_31 : decode cX10_order 31 = .ok (.getfield 17, 3) := by decide +kernel
theorem dX10_order_34 : decode cX10_order 34 = .ok (.invokestatic 273, 3) := by decide +kernel
theorem dX10_order_37 : decode cX10_order 37 = .ok (.ifCond .eq 22, 3) := by decide +kernel
theorem dX10_order_40 : decode cX10_order 40 = .ok (.aload_n 0, 1) := by decide +kernel
theorem dX10_order_41 : decode cX10_order 41 = .ok (.getfield 17, 3) := by decide +kernel
theorem dX10_order_44 : decode cX10_order 44 = .ok (.aload_n 0, 1) := by decide +kernel
theorem dX10_order_45 : decode cX10_order 45 = .ok (.getfield 17, 3) := by decide +kernel
theorem dX10_order_48 : decode cX10_order 48 = .ok (.iconst 1, 1) := by decide +kernel
theorem dX10_order_49 : decode cX10_order 49 = .ok (.iaload, 1) := by decide +kernel
theorem dX10_order_50 : decode cX10_order 50 = .ok (.invokestatic 148, 3) := by decide +kernel
theorem dX10_order_53 : decode cX10_order 53 = .ok (.iconst 2, 1) := by decide +kernel
theorem dX10_order_54 : decode cX10_order 54 = .ok (.iadd, 1) := by decide +kernel
theorem dX10_order_55 : decode cX10_order 55 = .ok (.iaload, 1) := by decide +kernel
theorem dX10_order_56 : decode cX10_order 56 = .ok (.ifCond .lt 7, 3) := by decide +kernel
theorem dX10_order_59 : decode cX10_order 59 = .ok (.iconst 1, 1) := by decide +kernel
theorem dX10_order_60 : decode cX10_order 60 = .ok (.goto 4, 3) := by decide +kernel
theorem dX10_order_63 : decode cX10_order 63 = .ok (.iconst 0, 1) := by decide +kernel
theorem dX10_order_64 : decode cX10_order 64 = .ok (.iconst 2, 1) := by decide +kernel
theorem dX10_order_65 : decode cX10_order 65 = .ok (.invokevirtual 177, 3) := by decide +kernel
theorem dX10_order_68 : decode cX10_order 68 = .ok (.ifCond .eq 5, 3) := by decide +kernel
theorem dX10_order_71 : decode cX10_order 71 = .ok (.iconst 0, 1) := by decide +kernel
theorem dX10_order_72 : decode cX10_order 72 = .ok (.ireturn, 1) := by decide +kernel
theorem dX10_order_73 : decode cX10_order 73 = .ok (.aload_n 0, 1) := by decide +kernel
theorem dX10_order_74 : decode cX10_order 74 = .ok (.invokevirtual 189, 3) := by decide +kernel
theorem dX10_order_77 : decode cX10_order 77 = .ok (.aload_n 0, 1) := by decide +kernel
theorem dX10_order_78 : decode cX10_order 78 = .ok (.getfield 17, 3) := by decide +kernel
theorem dX10_order_81 : decode cX10_order 81 = .ok (.iconst 1, 1) := by decide +kernel
theorem dX10_order_82 : decode cX10_order 82 = .ok (.iaload, 1) := by decide +kernel
theorem dX10_order_83 : decode cX10_order 83 = .ok (.istore_n 2, 1) := by decide +kernel
theorem dX10_order_84 : decode cX10_order 84 = .ok (.aload_n 0, 1) := by decide +kernel
theorem dX10_order_85 : decode cX10_order 85 = .ok (.getfield 17, 3) := by decide +kernel
theorem dX10_order_88 : decode cX10_order 88 = .ok (.iload_n 2, 1) := by decide +kernel
theorem dX10_order_89 : decode cX10_order 89 = .ok (.invokestatic 148, 3) := by decide +kernel
theorem dX10_order_92 : decode cX10_order 92 = .ok (.iconst 1, 1) := by decide +kernel
theorem dX10_order_93 : decode cX10_order 93 = .ok (.iadd, 1) := by decide +kernel
theorem dX10_order_94 : decode cX10_order 94 = .ok (.iaload, 1) := by decide +kernel
theorem dX10_order_95 : decode cX10_order 95 = .ok (.istore_n 3, 1) := by decide +kernel
theorem dX10_order_96 : decode cX10_order 96 = .ok (.aload_n 0, 1) := by decide +kernel
theorem dX10_order_97 : decode cX10_order 97 = .ok (.getfield 17, 3) := by decide +kernel
theorem dX10_order_100 : decode cX10_order 100 = .ok (.iload_n 2, 1) := by decide +kernel
theorem dX10_order_101 : decode cX10_order 101 = .ok (.iload_n 1, 1) := by decide +kernel
theorem dX10_order_102 : decode cX10_order 102 = .ok (.invokestatic 226, 3) := by decide +kernel
theorem dX10_order_105 : decode cX10_order 105 = .ok (.aload_n 0, 1) := by decide +kernel
theorem dX10_order_106 : decode cX10_order 106 = .ok (.iload_n 2, 1) := by decide +kernel
theorem dX10_order_107 : decode cX10_order 107 = .ok (.iconst 2, 1) := by decide +kernel
theorem dX10_order_108 : decode cX10_order 108 = .ok (.aload_n 0, 1) := by decide +kernel
theorem dX10_order_109 : decode cX10_order 109 = .ok (.iconst 0, 1) := by decide +kernel
theorem dX10_order_110 : decode cX10_order 110 = .ok (.iload_n 3, 1) := by decide +kernel
theorem dX10_order_111 : decode cX10_order 111 = .ok (.iload_n 1, 1) := by decide +kernel
theorem dX10_order_112 : decode cX10_order 112 = .ok (.invokevirtual 291, 3) := by decide +kernel
theorem dX10_order_115 : decode cX10_order 115 = .ok (.iload_n 3, 1) := by decide +kernel
theorem dX10_order_116 : decode cX10_order 116 = .ok (.invokevirtual 295, 3) := by decide +kernel
theorem dX10_order_119 : decode cX10_order 119 = .ok (.ireturn, 1) := by decide +kernel
theorem dX10_close_0 : decode cX10_close 0 = .ok (.aload_n 0, 1) := by decide +kernel
theorem dX10_close_1 : decode cX10_close 1 = .ok (.iconst 0, 1) := by decide +kernel
theorem dX10_close_2 : decode cX10_close 2 = .ok (.putfield 52, 3) := by decide +kernel
theorem dX10_close_5 : decode cX10_close 5 = .ok (.aload_n 0, 1) := by decide +kernel
theorem dX10_close_6 : decode cX10_close 6 = .ok (.aload_n 0, 1) := by decide +kernel
theorem dX10_close_7 : decode cX10_close 7 = .ok (.getfield 17, 3) := by decide +kernel
theorem dX10_close_10 : decode cX10_close 10 = .ok (.invokestatic 273, 3) := by decide +kernel
theorem dX10_close_13 : decode cX10_close 13 = .ok (.ifCond .ne 7, 3) := by decide +kernel
theorem dX10_close_16 : decode cX10_close 16 = .ok (.iconst 1, 1) := by decide +kernel
theorem dX10_close_17 : decode cX10_close 17 = .ok (.goto 4, 3) := by decide +kernel
theorem dX10_close_20 : decode cX10_close 20 = .ok (.iconst 0, 1) := by decide +kernel
theorem dX10_close_21 : decode cX10_close 21 = .ok (.iconst 1, 1) := by decide +kernel
theorem dX10_close_22 : decode cX10_close 22 = .ok (.invokevirtual 177, 3) := by decide +kernel
theorem dX10_close_25 : decode cX10_close 25 = .ok (.ifCond .eq 5, 3) := by decide +kernel
theorem dX10_close_28 : decode cX10_close 28 = .ok (.lconst 0, 1) := by decide +kernel
theorem dX10_close_29 : decode cX10_close 29 = .ok (.lreturn, 1) := by decide +kernel
theorem dX10_close_30 : decode cX10_close 30 = .ok (.aload_n 0, 1) := by decide +kernel
theorem dX10_close_31 : decode cX10_close 31 = .ok (.invokevirtual 189, 3) := by decide +kernel
theorem dX10_close_34 : decode cX10_close 34 = .ok (.aload_n 0, 1) := by decide +kernel
theorem dX10_close_35 : decode cX10_close 35 = .ok (.getfield 17, 3) := by decide +kernel
theorem dX10_close_38 : decode cX10_close 38 = .ok (.aload_n 0, 1) := by decide +kernel
theorem dX10_close_39 : decode cX10_close 39 = .ok (.getfield 31, 3) := by decide +kernel
theorem dX10_close_42 : decode cX10_close 42 = .ok (.invokestatic 277, 3) := by decide +kernel
theorem dX10_close_45 : decode cX10_close 45 = .ok (.aload_n 0, 1) := by decide +kernel
theorem dX10_close_46 : decode cX10_close 46 = .ok (.getfield 31, 3) := by decide +kernel
theorem dX10_close_49 : decode cX10_close 49 = .ok (.aload_n 0, 1) := by decide +kernel
theorem dX10_close_50 : decode cX10_close 50 = .ok (.getfield 17, 3) := by decide +kernel
theorem dX10_close_53 : decode cX10_close 53 = .ok (.iconst 1, 1) := by decide +kernel
theorem dX10_close_54 : decode cX10_close 54 = .ok (.iaload, 1) := by decide +kernel
theorem dX10_close_55 : decode cX10_close 55 = .ok (.iconst 1, 1) := by decide +kernel
theorem dX10_close_56 : decode cX10_close 56 = .ok (.isub, 1) := by decide +kernel
theorem dX10_close_57 : decode cX10_close 57 = .ok (.laload, 1) := by decide +kernel
theorem dX10_close_58 : decode cX10_close 58 = .ok (.lreturn, 1) := by decide +kernel
theorem dX10_reserve_0 : decode cX10_reserve 0 = .ok (.aload_n 0, 1) := by decide +kernel
theorem dX10_reserve_1 : decode cX10_reserve 1 = .ok (.iconst 0, 1) := by decide +kernel
theorem dX10_reserve_2 : decode cX10_reserve 2 = .ok (.putfield 52, 3) := by decide +kernel
theorem dX10_reserve_5 : decode cX10_reserve 5 = .ok (.aload_n 0, 1) := by decide +kernel
theorem dX10_reserve_6 : decode cX10_reserve 6 = .ok (.iload_n 1, 1) := by decide +kernel
theorem dX10_reserve_7 : decode cX10_reserve 7 = .ok (.invokevirtual 237, 3) := by decide +kernel
theorem dX10_reserve_10 : decode cX10_reserve 10 = .ok (.ifCond .ne 50, 3) := by decide +kernel
theorem dX10_reserve_13 : decode cX10_reserve 13 = .ok (.aload_n 0, 1) := by decide +kernel
theorem dX10_reserve_14 : decode cX10_reserve 14 = .ok (.iload_n 2, 1) := by decide +kernel
theorem dX10_reserve_15 : decode cX10_reserve 15 = .ok (.iconst 0, 1) := by decide +kernel
theorem dX10_reserve_16 : decode cX10_reserve 16 = .ok (.sipush 9999, 3) := by decide +kernel
theorem dX10_reserve_19 : decode cX10_reserve 19 = .ok (.invokestatic 74, 3) := by decide +kernel
theorem dX10_reserve_22 : decode cX10_reserve 22 = .ok (.ifCond .ne 7, 3) := by decide +kernel
theorem dX10_reserve_25 : decode cX10_reserve 25 = .ok (.iconst 1, 1) := by decide +kernel
theorem dX10_reserve_26 : decode cX10_reserve 26 = .ok (.goto 4, 3) := by decide +kernel
theorem dX10_reserve_29 : decode cX10_reserve 29 = .ok (.iconst 0, 1) := by decide +kernel
theorem dX10_reserve_30 : decode cX10_reserve 30 = .ok (.iconst 2, 1) := by decide +kernel
theorem dX10_reserve_31 : decode cX10_reserve 31 = .ok (.invokevirtual 177, 3) := by decide +kernel
theorem dX10_reserve_34 : decode cX10_reserve 34 = .ok (.ifCond .ne 26, 3) := by decide +kernel
theorem dX10_reserve_37 : decode cX10_reserve 37 = .ok (.aload_n 0, 1) := by decide +kernel
theorem dX10_reserve_38 : decode cX10_reserve 38 = .ok (.iload_n 1, 1) := by decide +kernel
theorem dX10_reserve_39 : decode cX10_reserve 39 = .ok (.aload_n 0, 1) := by decide +kernel
theorem dX10_reserve_40 : decode cX10_reserve 40 = .ok (.getfield 17, 3) := by decide +kernel
theorem dX10_reserve_43 : decode cX10_reserve 43 = .ok (.iconst 1, 1) := by decide +kernel
theorem dX10_reserve_44 : decode cX10_reserve 44 = .ok (.iaload, 1) := by decide +kernel
theorem dX10_reserve_45 : decode cX10_reserve 45 = .ok (.if_icmp .gt 7, 3) := by decide +kernel
theorem dX10_reserve_48 : decode cX10_reserve 48 = .ok (.iconst 1, 1) := by decide +kernel
theorem dX10_reserve_49 : decode cX10_reserve 49 = .ok (.goto 4, 3) := by decide +kernel
theorem dX10_reserve_52 : decode cX10_reserve 52 = .ok (.iconst 0, 1) := by decide +kernel
theorem dX10_reserve_53 : decode cX10_reserve 53 = .ok (.iconst 3, 1) := by decide +kernel
theorem dX10_reserve_54 : decode cX10_reserve 54 = .ok (.invokevirtual 177, 3) := by decide +kernel
theorem dX10_reserve_57 : decode cX10_reserve 57 = .ok (.ifCond .eq 5, 3) := by decide +kernel
theorem dX10_reserve_60 : decode cX10_reserve 60 = .ok (.iconst 0, 1) := by decide +kernel
theorem dX10_reserve_61 : decode cX10_reserve 61 = .ok (.ireturn, 1) := by decide +kernel
theorem dX10_reserve_62 : decode cX10_reserve 62 = .ok (.aload_n 0, 1) := by decide +kernel
theorem dX10_reserve_63 : decode cX10_reserve 63 = .ok (.invokevirtual 189, 3) := by decide +kernel
theorem dX10_reserve_66 : decode cX10_reserve 66 = .ok (.iconst 0, 1) := by decide +kernel
theorem dX10_reserve_67 : decode cX10_reserve 67 = .ok (.istore_n 3, 1) := by decide +kernel
theorem dX10_reserve_68 : decode cX10_reserve 68 = .ok (.iload_n 1, 1) := by decide +kernel
theorem dX10_reserve_69 : decode cX10_reserve 69 = .ok (.istore 4, 2) := by decide +kernel
theorem dX10_reserve_71 : decode cX10_reserve 71 = .ok (.iload 4, 2) := by decide +kernel
theorem dX10_reserve_73 : decode cX10_reserve 73 = .ok (.aload_n 0, 1) := by decide +kernel
theorem dX10_reserve_74 : decode cX10_reserve 74 = .ok (.getfield 17, 3) := by decide +kernel
theorem dX10_reserve_77 : decode cX10_reserve 77 = .ok (.iconst 0, 1) := by decide +kernel
theorem dX10_reserve_78 : decode cX10_reserve 78 = .ok (.iaload, 1) := by decide +kernel
theorem dX10_reserve_79 : decode cX10_reserve 79 = .ok (.if_icmp .ge 42, 3) := by decide +kernel
theorem dX10_reserve_82 : decode cX10_reserve 82 = .ok (.iload_n 3, 1) := by decide +kernel
theorem dX10_reserve_83 : decode cX10_reserve 83 = .ok (.aload_n 0, 1) := by decide +kernel
theorem dX10_reserve_84 : decode cX10_reserve 84 = .ok (.getfield 17, 3) := by decide +kernel
theorem dX10_reserve_87 : decode cX10_reserve 87 = .ok (.iload 4, 2) := by decide +kernel
theorem dX10_reserve_89 : decode cX10_reserve 89 = .ok (.invokestatic 148, 3) := by decide +kernel
theorem dX10_reserve_92 : decode cX10_reserve 92 = .ok (.iaload, 1) := by decide +kernel
theorem dX10_reserve_93 : decode cX10_reserve 93 = .ok (.iload_n 2, 1) := by decide +kernel
theorem dX10_reserve_94 : decode cX10_reserve 94 = .ok (.if_icmp .ne 7, 3) := by decide +kernel
theorem dX10_reserve_97 : decode cX10_reserve 97 = .ok (.iconst 0, 1) := by decide +kernel
theorem dX10_reserve_98 : decode cX10_reserve 98 = .ok (.goto 4, 3) := by decide +kernel
theorem dX10_reserve_101 : decode cX10_reserve 101 = .ok (.iconst 1, 1) := by decide +kernel
theorem dX10_reserve_102 : decode cX10_reserve 102 = .ok (.iadd, 1) := by decide +kernel
theorem dX10_reserve_103 : decode cX10_reserve 103 = .ok (.istore_n 3, 1) := by decide +kernel
theorem dX10_reserve_104 : decode cX10_reserve 104 = .ok (.aload_n 0, 1) := by decide +kernel
theorem dX10_reserve_105 : decode cX10_reserve 105 = .ok (.getfield 17, 3) := by decide +kernel
theorem dX10_reserve_108 : decode cX10_reserve 108 = .ok (.iload 4, 2) := by decide +kernel
theorem dX10_reserve_110 : decode cX10_reserve 110 = .ok (.invokestatic 148, 3) := by decide +kernel
theorem dX10_reserve_113 : decode cX10_reserve 113 = .ok (.iload_n 2, 1) := by decide +kernel
theorem dX10_reserve_114 : decode cX10_reserve 114 = .ok (.iastore, 1) := by decide +kernel
theorem dX10_reserve_115 : decode cX10_reserve 115 = .ok (.iinc 4 1, 3) := by decide +kernel
theorem dX10_reserve_118 : decode cX10_reserve 118 = .ok (.goto (-47), 3) := by decide +kernel
theorem dX10_reserve_121 : decode cX10_reserve 121 = .ok (.iload_n 3, 1) := by decide +kernel
theorem dX10_reserve_122 : decode cX10_reserve 122 = .ok (.ireturn, 1) := by decide +kernel
theorem dX10_waive_0 : decode cX10_waive 0 = .ok (.aload_n 0, 1) := by decide +kernel
theorem dX10_waive_1 : decode cX10_waive 1 = .ok (.iconst 0, 1) := by decide +kernel
theorem dX10_waive_2 : decode cX10_waive 2 = .ok (.putfield 52, 3) := by decide +kernel
theorem dX10_waive_5 : decode cX10_waive 5 = .ok (.aload_n 0, 1) := by decide +kernel
theorem dX10_waive_6 : decode cX10_waive 6 = .ok (.iload_n 1, 1) := by decide +kernel
theorem dX10_waive_7 : decode cX10_waive 7 = .ok (.invokevirtual 244, 3) := by decide +kernel
theorem dX10_waive_10 : decode cX10_waive 10 = .ok (.ifCond .ne 24, 3) := by decide +kernel
theorem dX10_waive_13 : decode cX10_waive 13 = .ok (.aload_n 0, 1) := by decide +kernel
theorem dX10_waive_14 : decode cX10_waive 14 = .ok (.aload_n 0, 1) := by decide +kernel
theorem dX10_waive_15 : decode cX10_waive 15 = .ok (.iload_n 1, 1) := by decide +kernel
theorem dX10_waive_16 : decode cX10_waive 16 = .ok (.invokevirtual 263, 3) := by decide +kernel
theorem dX10_waive_19 : decode cX10_waive 19 = .ok (.ifCond .ne 7, 3) := by decide +kernel
theorem dX10_waive_22 : decode cX10_waive 22 = .ok (.iconst 1, 1) := by decide +kernel
theorem dX10_waive_23 : decode cX10_waive 23 = .ok (.goto 4, 3) := by decide +kernel
theorem dX10_waive_26 : decode cX10_waive 26 = .ok (.iconst 0, 1) := by decide +kernel
theorem dX10_waive_27 : decode cX10_waive 27 = .ok (.iconst 2, 1) := by decide +kernel
theorem dX10_waive_28 : decode cX10_waive 28 = .ok (.invokevirtual 177, 3) := by decide +kernel
theorem dX10_waive_31 : decode cX10_waive 31 = .ok (.ifCond .eq 5, 3) := by decide +kernel
theorem dX10_waive_34 : decode cX10_waive 34 = .ok (.iconst 0, 1) := by decide +kernel
theorem dX10_waive_35 : decode cX10_waive 35 = .ok (.ireturn, 1) := by decide +kernel
theorem dX10_waive_36 : decode cX10_waive 36 = .ok (.aload_n 0, 1) := by decide +kernel
theorem dX10_waive_37 : decode cX10_waive 37 = .ok (.invokevirtual 189, 3) := by decide +kernel
theorem dX10_waive_40 : decode cX10_waive 40 = .ok (.aload_n 0, 1) := by decide +kernel
theorem dX10_waive_41 : decode cX10_waive 41 = .ok (.getfield 17, 3) := by decide +kernel
theorem dX10_waive_44 : decode cX10_waive 44 = .ok (.iload_n 1, 1) := by decide +kernel
theorem dX10_waive_45 : decode cX10_waive 45 = .ok (.invokestatic 220, 3) := by decide +kernel
theorem dX10_waive_48 : decode cX10_waive 48 = .ok (.iconst 3, 1) := by decide +kernel
theorem dX10_waive_49 : decode cX10_waive 49 = .ok (.iadd, 1) := by decide +kernel
theorem dX10_waive_50 : decode cX10_waive 50 = .ok (.iconst 1, 1) := by decide +kernel
theorem dX10_waive_51 : decode cX10_waive 51 = .ok (.iastore, 1) := by decide +kernel
theorem dX10_waive_52 : decode cX10_waive 52 = .ok (.aload_n 0, 1) := by decide +kernel
theorem dX10_waive_53 : decode cX10_waive 53 = .ok (.getfield 17, 3) := by decide +kernel
theorem dX10_waive_56 : decode cX10_waive 56 = .ok (.iload_n 1, 1) := by decide +kernel
theorem dX10_waive_57 : decode cX10_waive 57 = .ok (.invokestatic 220, 3) := by decide +kernel
theorem dX10_waive_60 : decode cX10_waive 60 = .ok (.iconst 2, 1) := by decide +kernel
theorem dX10_waive_61 : decode cX10_waive 61 = .ok (.iadd, 1) := by decide +kernel
theorem dX10_waive_62 : decode cX10_waive 62 = .ok (.iaload, 1) := by decide +kernel
theorem dX10_waive_63 : decode cX10_waive 63 = .ok (.ireturn, 1) := by decide +kernel
theorem dX10_undo_0 : decode cX10_undo 0 = .ok (.aload_n 0, 1) := by decide +kernel
theorem dX10_undo_1 : decode cX10_undo 1 = .ok (.iconst 0, 1) := by decide +kernel
theorem dX10_undo_2 : decode cX10_undo 2 = .ok (.putfield 52, 3) := by decide +kernel
theorem dX10_undo_5 : decode cX10_undo 5 = .ok (.aload_n 0, 1) := by decide +kernel
theorem dX10_undo_6 : decode cX10_undo 6 = .ok (.getfield 284, 3) := by decide +kernel
theorem dX10_undo_9 : decode cX10_undo 9 = .ok (.ifCond .ne 5, 3) := by decide +kernel
theorem dX10_undo_12 : decode cX10_undo 12 = .ok (.iconst (-1), 1) := by decide +kernel
theorem dX10_undo_13 : decode cX10_undo 13 = .ok (.ireturn, 1) := by decide +kernel
theorem dX10_undo_14 : decode cX10_undo 14 = .ok (.aload_n 0, 1) := by decide +kernel
theorem dX10_undo_15 : decode cX10_undo 15 = .ok (.dup, 1) := by decide +kernel
theorem dX10_undo_16 : decode cX10_undo 16 = .ok (.getfield 284, 3) := by decide +kernel
theorem dX10_undo_19 : decode cX10_undo 19 = .ok (.iconst 1, 1) := by decide +kernel
theorem dX10_undo_20 : decode cX10_undo 20 = .ok (.isub, 1) := by decide +kernel
theorem dX10_undo_21 : decode cX10_undo 21 = .ok (.putfield 284, 3) := by decide +kernel
theorem dX10_undo_24 : decode cX10_undo 24 = .ok (.aload_n 0, 1) := by decide +kernel
theorem dX10_undo_25 : decode cX10_undo 25 = .ok (.getfield 28, 3) := by decide +kernel
theorem dX10_undo_28 : decode cX10_undo 28 = .ok (.aload_n 0, 1) := by decide +kernel
theorem dX10_undo_29 : decode cX10_undo 29 = .ok (.getfield 284, 3) := by decide +kernel
theorem dX10_undo_32 : decode cX10_undo 32 = .ok (.aaload, 1) := by decide +kernel
theorem dX10_undo_33 : decode cX10_undo 33 = .ok (.aload_n 0, 1) := by decide +kernel
theorem dX10_undo_34 : decode cX10_undo 34 = .ok (.getfield 17, 3) := by decide +kernel
theorem dX10_undo_37 : decode cX10_undo 37 = .ok (.invokestatic 192, 3) := by decide +kernel
theorem dX10_undo_40 : decode cX10_undo 40 = .ok (.aload_n 0, 1) := by decide +kernel
theorem dX10_undo_41 : decode cX10_undo 41 = .ok (.getfield 40, 3) := by decide +kernel
theorem dX10_undo_44 : decode cX10_undo 44 = .ok (.aload_n 0, 1) := by decide +kernel
theorem dX10_undo_45 : decode cX10_undo 45 = .ok (.getfield 284, 3) := by decide +kernel
theorem dX10_undo_48 : decode cX10_undo 48 = .ok (.aaload, 1) := by decide +kernel
theorem dX10_undo_49 : decode cX10_undo 49 = .ok (.aload_n 0, 1) := by decide +kernel
theorem dX10_undo_50 : decode cX10_undo 50 = .ok (.getfield 31, 3) := by decide +kernel
theorem dX10_undo_53 : decode cX10_undo 53 = .ok (.invokestatic 287, 3) := by decide +kernel
theorem dX10_undo_56 : decode cX10_undo 56 = .ok (.aload_n 0, 1) := by decide +kernel
theorem dX10_undo_57 : decode cX10_undo 57 = .ok (.getfield 284, 3) := by decide +kernel
theorem dX10_undo_60 : decode cX10_undo 60 = .ok (.ireturn, 1) := by decide +kernel
theorem dX10_checksum_0 : decode cX10_checksum 0 = .ok (.aload_n 0, 1) := by decide +kernel
theorem dX10_checksum_1 : decode cX10_checksum 1 = .ok (.iconst 0, 1) := by decide +kernel
theorem dX10_checksum_2 : decode cX10_checksum 2 = .ok (.putfield 52, 3) := by decide +kernel
theorem dX10_checksum_5 : decode cX10_checksum 5 = .ok (.ldc2_w 299, 3) := by decide +kernel
theorem dX10_checksum_8 : decode cX10_checksum 8 = .ok (.ldc2_w 299, 3) := by decide +kernel
theorem dX10_checksum_11 : decode cX10_checksum 11 = .ok (.aload_n 0, 1) := by decide +kernel
theorem dX10_checksum_12 : decode cX10_checksum 12 = .ok (.getfield 17, 3) := by decide +kernel
theorem dX10_checksum_15 : decode cX10_checksum 15 = .ok (.iconst 1, 1) := by decide +kernel
theorem dX10_checksum_16 : decode cX10_checksum 16 = .ok (.iaload, 1) := by decide +kernel
theorem dX10_checksum_17 : decode cX10_checksum 17 = .ok (.i2l, 1) := by decide +kernel
theorem dX10_checksum_18 : decode cX10_checksum 18 = .ok (.lmul, 1) := by decide +kernel
theorem dX10_checksum_19 : decode cX10_checksum 19 = .ok (.aload_n 0, 1) := by decide +kernel
theorem dX10_checksum_20 : decode cX10_checksum 20 = .ok (.invokevirtual 240, 3) := by decide +kernel
theorem dX10_checksum_23 : decode cX10_checksum 23 = .ok (.ladd, 1) := by decide +kernel
theorem dX10_checksum_24 : decode cX10_checksum 24 = .ok (.lmul, 1) := by decide +kernel
theorem dX10_checksum_25 : decode cX10_checksum 25 = .ok (.aload_n 0, 1) := by decide +kernel
theorem dX10_checksum_26 : decode cX10_checksum 26 = .ok (.getfield 17, 3) := by decide +kernel
theorem dX10_checksum_29 : decode cX10_checksum 29 = .ok (.bipush 13, 2) := by decide +kernel
theorem dX10_checksum_31 : decode cX10_checksum 31 = .ok (.iaload, 1) := by decide +kernel
theorem dX10_checksum_32 : decode cX10_checksum 32 = .ok (.i2l, 1) := by decide +kernel
theorem dX10_checksum_33 : decode cX10_checksum 33 = .ok (.ladd, 1) := by decide +kernel
theorem dX10_checksum_34 : decode cX10_checksum 34 = .ok (.lstore_n 1, 1) := by decide +kernel
theorem dX10_checksum_35 : decode cX10_checksum 35 = .ok (.iconst 0, 1) := by decide +kernel
theorem dX10_checksum_36 : decode cX10_checksum 36 = .ok (.istore_n 3, 1) := by decide +kernel
theorem dX10_checksum_37 : decode cX10_checksum 37 = .ok (.iload_n 3, 1) := by decide +kernel
theorem dX10_checksum_38 : decode cX10_checksum 38 = .ok (.aload_n 0, 1) := by decide +kernel
theorem dX10_checksum_39 : decode cX10_checksum 39 = .ok (.getfield 17, 3) := by decide +kernel
theorem dX10_checksum_42 : decode cX10_checksum 42 = .ok (.iconst 0, 1) := by decide +kernel
theorem dX10_checksum_43 : decode cX10_checksum 43 = .ok (.iaload, 1) := by decide +kernel
theorem dX10_checksum_44 : decode cX10_checksum 44 = .ok (.if_icmp .ge 44, 3) := by decide +kernel
theorem dX10_checksum_47 : decode cX10_checksum 47 = .ok (.iconst 0, 1) := by decide +kernel
theorem dX10_checksum_48 : decode cX10_checksum 48 = .ok (.istore 4, 2) := by decide +kernel
theorem dX10_checksum_50 : decode cX10_checksum 50 = .ok (.iload 4, 2) := by decide +kernel
theorem dX10_checksum_52 : decode cX10_checksum 52 = .ok (.iconst 5, 1) := by decide +kernel
theorem dX10_checksum_53 : decode cX10_checksum 53 = .ok (.if_icmp .ge 29, 3) := by decide +kernel
theorem dX10_checksum_56 : decode cX10_checksum 56 = .ok (.ldc2_w 299, 3) := by decide +kernel
theorem dX10_checksum_59 : decode cX10_checksum 59 = .ok (.lload_n 1, 1) := by decide +kernel
theorem dX10_checksum_60 : decode cX10_checksum 60 = .ok (.lmul, 1) := by decide +kernel
theorem dX10_checksum_61 : decode cX10_checksum 61 = .ok (.aload_n 0, 1) := by decide +kernel
theorem dX10_checksum_62 : decode cX10_checksum 62 = .ok (.getfield 17, 3) := by decide +kernel
theorem dX10_checksum_65 : decode cX10_checksum 65 = .ok (.iload_n 3, 1) := by decide +kernel
theorem dX10_checksum_66 : decode cX10_checksum 66 = .ok (.invokestatic 148, 3) := by decide +kernel
theorem dX10_checksum_69 : decode cX10_checksum 69 = .ok (.iload 4, 2) := by decide +kernel
theorem dX10_checksum_71 : decode cX10_checksum 71 = .ok (.iadd, 1) := by decide +kernel
theorem dX10_checksum_72 : decode cX10_checksum 72 = .ok (.iaload, 1) := by decide +kernel
theorem dX10_checksum_73 : decode cX10_checksum 73 = .ok (.i2l, 1) := by decide +kernel
theorem dX10_checksum_74 : decode cX10_checksum 74 = .ok (.ladd, 1) := by decide +kernel
theorem dX10_checksum_75 : decode cX10_checksum 75 = .ok (.lstore_n 1, 1) := by decide +kernel
theorem dX10_checksum_76 : decode cX10_checksum 76 = .ok (.iinc 4 1, 3) := by decide +kernel
theorem dX10_checksum_79 : decode cX10_checksum 79 = .ok (.goto (-29), 3) := by decide +kernel
theorem dX10_checksum_82 : decode cX10_checksum 82 = .ok (.iinc 3 1, 3) := by decide +kernel
theorem dX10_checksum_85 : decode cX10_checksum 85 = .ok (.goto (-48), 3) := by decide +kernel
theorem dX10_checksum_88 : decode cX10_checksum 88 = .ok (.iconst 0, 1) := by decide +kernel
theorem dX10_checksum_89 : decode cX10_checksum 89 = .ok (.istore_n 3, 1) := by decide +kernel
theorem dX10_checksum_90 : decode cX10_checksum 90 = .ok (.iload_n 3, 1) := by decide +kernel
theorem dX10_checksum_91 : decode cX10_checksum 91 = .ok (.aload_n 0, 1) := by decide +kernel
theorem dX10_checksum_92 : decode cX10_checksum 92 = .ok (.getfield 17, 3) := by decide +kernel
theorem dX10_checksum_95 : decode cX10_checksum 95 = .ok (.bipush 12, 2) := by decide +kernel
theorem dX10_checksum_97 : decode cX10_checksum 97 = .ok (.iaload, 1) := by decide +kernel
theorem dX10_checksum_98 : decode cX10_checksum 98 = .ok (.if_icmp .ge 47, 3) := by decide +kernel
theorem dX10_checksum_101 : decode cX10_checksum 101 = .ok (.ldc2_w 299, 3) := by decide +kernel
theorem dX10_checksum_104 : decode cX10_checksum 104 = .ok (.lload_n 1, 1) := by decide +kernel
theorem dX10_checksum_105 : decode cX10_checksum 105 = .ok (.lmul, 1) := by decide +kernel
theorem dX10_checksum_106 : decode cX10_checksum 106 = .ok (.aload_n 0, 1) := by decide +kernel
theorem dX10_checksum_107 : decode cX10_checksum 107 = .ok (.getfield 17, 3) := by decide +kernel
theorem dX10_checksum_110 : decode cX10_checksum 110 = .ok (.iload_n 3, 1) := by decide +kernel
theorem dX10_checksum_111 : decode cX10_checksum 111 = .ok (.invokestatic 220, 3) := by decide +kernel
theorem dX10_checksum_114 : decode cX10_checksum 114 = .ok (.iconst 3, 1) := by decide +kernel
theorem dX10_checksum_115 : decode cX10_checksum 115 = .ok (.iadd, 1) := by decide +kernel
theorem dX10_checksum_116 : decode cX10_checksum 116 = .ok (.iaload, 1) := by decide +kernel
theorem dX10_checksum_117 : decode cX10_checksum 117 = .ok (.iconst 1, 1) := by decide +kernel
theorem dX10_checksum_118 : decode cX10_checksum 118 = .ok (.if_icmp .ne 7, 3) := by decide +kernel
theorem dX10_checksum_121 : decode cX10_checksum 121 = .ok (.iconst (-1), 1) := by decide +kernel
theorem dX10_checksum_122 : decode cX10_checksum 122 = .ok (.goto 14, 3) := by decide +kernel
theorem dX10_checksum_125 : decode cX10_checksum 125 = .ok (.aload_n 0, 1) := by decide +kernel
theorem dX10_checksum_126 : decode cX10_checksum 126 = .ok (.getfield 17, 3) := by decide +kernel
theorem dX10_checksum_129 : decode cX10_checksum 129 = .ok (.iload_n 3, 1) := by decide +kernel
theorem dX10_checksum_130 : decode cX10_checksum 130 = .ok (.invokestatic 220, 3) := by decide +kernel
theorem dX10_checksum_133 : decode cX10_checksum 133 = .ok (.iconst 2, 1) := by decide +kernel
theorem dX10_checksum_134 : decode cX10_checksum 134 = .ok (.iadd, 1) := by decide +kernel
theorem dX10_checksum_135 : decode cX10_checksum 135 = .ok (.iaload, 1) := by decide +kernel
theorem dX10_checksum_136 : decode cX10_checksum 136 = .ok (.i2l, 1) := by decide +kernel
theorem dX10_checksum_137 : decode cX10_checksum 137 = .ok (.ladd, 1) := by decide +kernel
theorem dX10_checksum_138 : decode cX10_checksum 138 = .ok (.lstore_n 1, 1) := by decide +kernel
theorem dX10_checksum_139 : decode cX10_checksum 139 = .ok (.iinc 3 1, 3) := by decide +kernel
theorem dX10_checksum_142 : decode cX10_checksum 142 = .ok (.goto (-52), 3) := by decide +kernel
theorem dX10_checksum_145 : decode cX10_checksum 145 = .ok (.lload_n 1, 1) := by decide +kernel
theorem dX10_checksum_146 : decode cX10_checksum 146 = .ok (.lreturn, 1) := by decide +kernel
theorem dJ9_abs_0f7a4_0 : decode cJ9_abs_0f7a4 0 = .ok (.iload_n 0, 1) := by decide +kernel
theorem dJ9_abs_0f7a4_1 : decode cJ9_abs_0f7a4 1 = .ok (.ifCond .ge 8, 3) := by decide +kernel
theorem dJ9_abs_0f7a4_4 : decode cJ9_abs_0f7a4 4 = .ok (.iload_n 0, 1) := by decide +kernel
theorem dJ9_abs_0f7a4_5 : decode cJ9_abs_0f7a4 5 = .ok (.ineg, 1) := by decide +kernel
theorem dJ9_abs_0f7a4_6 : decode cJ9_abs_0f7a4 6 = .ok (.goto 4, 3) := by decide +kernel
theorem dJ9_abs_0f7a4_9 : decode cJ9_abs_0f7a4 9 = .ok (.iload_n 0, 1) := by decide +kernel
theorem dJ9_abs_0f7a4_10 : decode cJ9_abs_0f7a4 10 = .ok (.ireturn, 1) := by decide +kernel
theorem dJ9_max_7cf53_0 : decode cJ9_max_7cf53 0 = .ok (.iload_n 0, 1) := by decide +kernel
theorem dJ9_max_7cf53_1 : decode cJ9_max_7cf53 1 = .ok (.iload_n 1, 1) := by decide +kernel
theorem dJ9_max_7cf53_2 : decode cJ9_max_7cf53 2 = .ok (.if_icmp .lt 7, 3) := by decide +kernel
theorem dJ9_max_7cf53_5 : decode cJ9_max_7cf53 5 = .ok (.iload_n 0, 1) := by decide +kernel
theorem dJ9_max_7cf53_6 : decode cJ9_max_7cf53 6 = .ok (.goto 4, 3) := by decide +kernel
theorem dJ9_max_7cf53_9 : decode cJ9_max_7cf53 9 = .ok (.iload_n 1, 1) := by decide +kernel
theorem dJ9_max_7cf53_10 : decode cJ9_max_7cf53 10 = .ok (.ireturn, 1) := by decide +kernel
theorem dJ9_max_f86c9_0 : decode cJ9_max_f86c9 0 = .ok (.lload_n 0, 1) := by decide +kernel
theorem dJ9_max_f86c9_1 : decode cJ9_max_f86c9 1 = .ok (.lload_n 2, 1) := by decide +kernel
theorem dJ9_max_f86c9_2 : decode cJ9_max_f86c9 2 = .ok (.lcmp, 1) := by decide +kernel
theorem dJ9_max_f86c9_3 : decode cJ9_max_f86c9 3 = .ok (.ifCond .lt 7, 3) := by decide +kernel
theorem dJ9_max_f86c9_6 : decode cJ9_max_f86c9 6 = .ok (.lload_n 0, 1) := by decide +kernel
theorem dJ9_max_f86c9_7 : decode cJ9_max_f86c9 7 = .ok (.goto 4, 3) := by decide +kernel
theorem dJ9_max_f86c9_10 : decode cJ9_max_f86c9 10 = .ok (.lload_n 2, 1) := by decide +kernel
theorem dJ9_max_f86c9_11 : decode cJ9_max_f86c9 11 = .ok (.lreturn, 1) := by decide +kernel
theorem dJ9_min_7cf53_0 : decode cJ9_min_7cf53 0 = .ok (.iload_n 0, 1) := by decide +kernel
theorem dJ9_min_7cf53_1 : decode cJ9_min_7cf53 1 = .ok (.iload_n 1, 1) := by decide +kernel
theorem dJ9_min_7cf53_2 : decode cJ9_min_7cf53 2 = .ok (.if_icmp .gt 7, 3) := by decide +kernel
theorem dJ9_min_7cf53_5 : decode cJ9_min_7cf53 5 = .ok (.iload_n 0, 1) := by decide +kernel
theorem dJ9_min_7cf53_6 : decode cJ9_min_7cf53 6 = .ok (.goto 4, 3) := by decide +kernel
theorem dJ9_min_7cf53_9 : decode cJ9_min_7cf53 9 = .ok (.iload_n 1, 1) := by decide +kernel
theorem dJ9_min_7cf53_10 : decode cJ9_min_7cf53 10 = .ok (.ireturn, 1) := by decide +kernel
theorem dJ9_min_f86c9_0 : decode cJ9_min_f86c9 0 = .ok (.lload_n 0, 1) := by decide +kernel
theorem dJ9_min_f86c9_1 : decode cJ9_min_f86c9 1 = .ok (.lload_n 2, 1) := by decide +kernel
theorem dJ9_min_f86c9_2 : decode cJ9_min_f86c9 2 = .ok (.lcmp, 1) := by decide +kernel
theorem dJ9_min_f86c9_3 : decode cJ9_min_f86c9 3 = .ok (.ifCond .gt 7, 3) := by decide +kernel
theorem dJ9_min_f86c9_6 : decode cJ9_min_f86c9 6 = .ok (.lload_n 0, 1) := by decide +kernel
theorem dJ9_min_f86c9_7 : decode cJ9_min_f86c9 7 = .ok (.goto 4, 3) := by decide +kernel
theorem dJ9_min_f86c9_10 : decode cJ9_min_f86c9 10 = .ok (.lload_n 2, 1) := by decide +kernel
theorem dJ9_min_f86c9_11 : decode cJ9_min_f86c9 11 = .ok (.lreturn, 1) := by decide +kernel
theorem dJ0_length_8abf5_0 : decode cJ0_length_8abf5 0 = .ok (.aload_n 0, 1) := by decide +kernel
theorem dJ0_length_8abf5_1 : decode cJ0_length_8abf5 1 = .ok (.getfield 9, 3) := by decide +kernel
theorem dJ0_length_8abf5_4 : decode cJ0_length_8abf5 4 = .ok (.arraylength, 1) := by decide +kernel
theorem dJ0_length_8abf5_5 : decode cJ0_length_8abf5 5 = .ok (.aload_n 0, 1) := by decide +kernel
theorem dJ0_length_8abf5_6 : decode cJ0_length_8abf5 6 = .ok (.invokevirtual 335, 3) := by decide +kernel
theorem dJ0_length_8abf5_9 : decode cJ0_length_8abf5 9 = .ok (.ishr, 1) := by decide +kernel
theorem dJ0_length_8abf5_10 : decode cJ0_length_8abf5 10 = .ok (.ireturn, 1) := by decide +kernel
theorem dJ0_charAt_5068e_0 : decode cJ0_charAt_5068e 0 = .ok (.aload_n 0, 1) := by decide +kernel
theorem dJ0_charAt_5068e_1 : decode cJ0_charAt_5068e 1 = .ok (.invokevirtual 492, 3) := by decide +kernel
theorem dJ0_charAt_5068e_4 : decode cJ0_charAt_5068e 4 = .ok (.ifCond .eq 12, 3) := by decide +kernel
theorem dJ0_charAt_5068e_7 : decode cJ0_charAt_5068e 7 = .ok (.aload_n 0, 1) := by decide +kernel
theorem dJ0_charAt_5068e_8 : decode cJ0_charAt_5068e 8 = .ok (.getfield 9, 3) := by decide +kernel
theorem dJ0_charAt_5068e_11 : decode cJ0_charAt_5068e 11 = .ok (.iload_n 1, 1) := by decide +kernel
theorem dJ0_charAt_5068e_12 : decode cJ0_charAt_5068e 12 = .ok (.invokestatic 495, 3) := by decide +kernel
theorem dJ0_charAt_5068e_15 : decode cJ0_charAt_5068e 15 = .ok (.ireturn, 1) := by decide +kernel
theorem dJ0_charAt_5068e_16 : decode cJ0_charAt_5068e 16 = .ok (.aload_n 0, 1) := by decide +kernel
theorem dJ0_charAt_5068e_17 : decode cJ0_charAt_5068e 17 = .ok (.getfield 9, 3) := by decide +kernel
theorem dJ0_charAt_5068e_20 : decode cJ0_charAt_5068e 20 = .ok (.iload_n 1, 1) := by decide +kernel
theorem dJ0_charAt_5068e_21 : decode cJ0_charAt_5068e 21 = .ok (.invokestatic 498, 3) := by decide +kernel
theorem dJ0_charAt_5068e_24 : decode cJ0_charAt_5068e 24 = .ok (.ireturn, 1) := by decide +kernel
theorem dJ0_coder_7d493_0 : decode cJ0_coder_7d493 0 = .ok (.getstatic 38, 3) := by decide +kernel
theorem dJ0_coder_7d493_3 : decode cJ0_coder_7d493 3 = .ok (.ifCond .eq 10, 3) := by decide +kernel
theorem dJ0_coder_7d493_6 : decode cJ0_coder_7d493 6 = .ok (.aload_n 0, 1) := by decide +kernel
theorem dJ0_coder_7d493_7 : decode cJ0_coder_7d493 7 = .ok (.getfield 15, 3) := by decide +kernel
theorem dJ0_coder_7d493_10 : decode cJ0_coder_7d493 10 = .ok (.goto 4, 3) := by decide +kernel
theorem dJ0_coder_7d493_13 : decode cJ0_coder_7d493 13 = .ok (.iconst 1, 1) := by decide +kernel
theorem dJ0_coder_7d493_14 : decode cJ0_coder_7d493 14 = .ok (.ireturn, 1) := by decide +kernel
theorem dJ0_isLatin1_aae02_0 : decode cJ0_isLatin1_aae02 0 = .ok (.getstatic 38, 3) := by decide +kernel
theorem dJ0_isLatin1_aae02_3 : decode cJ0_isLatin1_aae02 3 = .ok (.ifCond .eq 14, 3) := by decide +kernel
theorem dJ0_isLatin1_aae02_6 : decode cJ0_isLatin1_aae02 6 = .ok (.aload_n 0, 1) := by decide +kernel
theorem dJ0_isLatin1_aae02_7 : decode cJ0_isLatin1_aae02 7 = .ok (.getfield 15, 3) := by decide +kernel
theorem dJ0_isLatin1_aae02_10 : decode cJ0_isLatin1_aae02 10 = .ok (.ifCond .ne 7, 3) := by decide +kernel
theorem dJ0_isLatin1_aae02_13 : decode cJ0_isLatin1_aae02 13 = .ok (.iconst 1, 1) := by decide +kernel
theorem dJ0_isLatin1_aae02_14 : decode cJ0_isLatin1_aae02 14 = .ok (.goto 4, 3) := by decide +kernel
theorem dJ0_isLatin1_aae02_17 : decode cJ0_isLatin1_aae02 17 = .ok (.iconst 0, 1) := by decide +kernel
theorem dJ0_isLatin1_aae02_18 : decode cJ0_isLatin1_aae02 18 = .ok (.ireturn, 1) := by decide +kernel
theorem dJ0_checkIndex_df160_0 : decode cJ0_checkIndex_df160 0 = .ok (.iload_n 0, 1) := by decide +kernel
theorem dJ0_checkIndex_df160_1 : decode cJ0_checkIndex_df160 1 = .ok (.iload_n 1, 1) := by decide +kernel
theorem dJ0_checkIndex_df160_2 : decode cJ0_checkIndex_df160 2 = .ok (.getstatic 1053, 3) := by decide +kernel
theorem dJ0_checkIndex_df160_5 : decode cJ0_checkIndex_df160 5 = .ok (.invokestatic 1059, 3) := by decide +kernel
theorem dJ0_checkIndex_df160_8 : decode cJ0_checkIndex_df160 8 = .ok (.pop, 1) := by decide +kernel
theorem dJ0_checkIndex_df160_9 : decode cJ0_checkIndex_df160 9 = .ok (.return_, 1) := by decide +kernel
theorem dJ1_charAt_3b067_0 : decode cJ1_charAt_3b067 0 = .ok (.iload_n 1, 1) := by decide +kernel
theorem dJ1_charAt_3b067_1 : decode cJ1_charAt_3b067 1 = .ok (.aload_n 0, 1) := by decide +kernel
theorem dJ1_charAt_3b067_2 : decode cJ1_charAt_3b067 2 = .ok (.arraylength, 1) := by decide +kernel
theorem dJ1_charAt_3b067_3 : decode cJ1_charAt_3b067 3 = .ok (.invokestatic 9, 3) := by decide +kernel
theorem dJ1_charAt_3b067_6 : decode cJ1_charAt_3b067 6 = .ok (.aload_n 0, 1) := by decide +kernel
theorem dJ1_charAt_3b067_7 : decode cJ1_charAt_3b067 7 = .ok (.iload_n 1, 1) := by decide +kernel
theorem dJ1_charAt_3b067_8 : decode cJ1_charAt_3b067 8 = .ok (.baload, 1) := by decide +kernel
theorem dJ1_charAt_3b067_9 : decode cJ1_charAt_3b067 9 = .ok (.sipush 255, 3) := by decide +kernel
theorem dJ1_charAt_3b067_12 : decode cJ1_charAt_3b067 12 = .ok (.iand, 1) := by decide +kernel
theorem dJ1_charAt_3b067_13 : decode cJ1_charAt_3b067 13 = .ok (.i2c, 1) := by decide +kernel
theorem dJ1_charAt_3b067_14 : decode cJ1_charAt_3b067 14 = .ok (.ireturn, 1) := by decide +kernel
theorem dJ2_getChar_3b067_0 : decode cJ2_getChar_3b067 0 = .ok (.getstatic 44, 3) := by decide +kernel
theorem dJ2_getChar_3b067_3 : decode cJ2_getChar_3b067 3 = .ok (.ifCond .ne 25, 3) := by decide +kernel
theorem dJ2_getChar_3b067_6 : decode cJ2_getChar_3b067 6 = .ok (.iload_n 1, 1) := by decide +kernel
theorem dJ2_getChar_3b067_7 : decode cJ2_getChar_3b067 7 = .ok (.ifCond .lt 11, 3) := by decide +kernel
theorem dJ2_getChar_3b067_10 : decode cJ2_getChar_3b067 10 = .ok (.iload_n 1, 1) := by decide +kernel
theorem dJ2_getChar_3b067_11 : decode cJ2_getChar_3b067 11 = .ok (.aload_n 0, 1) := by decide +kernel
theorem dJ2_getChar_3b067_12 : decode cJ2_getChar_3b067 12 = .ok (.invokestatic 48, 3) := by decide +kernel
theorem dJ2_getChar_3b067_15 : decode cJ2_getChar_3b067 15 = .ok (.if_icmp .lt 13, 3) := by decide +kernel
theorem dJ2_getChar_3b067_18 : decode cJ2_getChar_3b067 18 = .ok (.new 52, 3) := by decide +kernel
theorem dJ2_getChar_3b067_21 : decode cJ2_getChar_3b067 21 = .ok (.dup, 1) := by decide +kernel
theorem dJ2_getChar_3b067_22 : decode cJ2_getChar_3b067 22 = .ok (.ldc 54, 2) := by decide +kernel
theorem dJ2_getChar_3b067_24 : decode cJ2_getChar_3b067 24 = .ok (.invokespecial 56, 3) := by decide +kernel
theorem dJ2_getChar_3b067_27 : decode cJ2_getChar_3b067 27 = .ok (.athrow, 1) := by decide +kernel
theorem dJ2_getChar_3b067_28 : decode cJ2_getChar_3b067 28 = .ok (.iload_n 1, 1) := by decide +kernel
theorem dJ2_getChar_3b067_29 : decode cJ2_getChar_3b067 29 = .ok (.iconst 1, 1) := by decide +kernel
theorem dJ2_getChar_3b067_30 : decode cJ2_getChar_3b067 30 = .ok (.ishl, 1) := by decide +kernel
theorem dJ2_getChar_3b067_31 : decode cJ2_getChar_3b067 31 = .ok (.istore_n 1, 1) := by decide +kernel
theorem dJ2_getChar_3b067_32 : decode cJ2_getChar_3b067 32 = .ok (.aload_n 0, 1) := by decide +kernel
theorem dJ2_getChar_3b067_33 : decode cJ2_getChar_3b067 33 = .ok (.iload_n 1, 1) := by decide +kernel
theorem dJ2_getChar_3b067_34 : decode cJ2_getChar_3b067 34 = .ok (.iinc 1 1, 3) := by decide +kernel
theorem dJ2_getChar_3b067_37 : decode cJ2_getChar_3b067 37 = .ok (.baload, 1) := by decide +kernel
theorem dJ2_getChar_3b067_38 : decode cJ2_getChar_3b067 38 = .ok (.sipush 255, 3) := by decide +kernel
theorem dJ2_getChar_3b067_41 : decode cJ2_getChar_3b067 41 = .ok (.iand, 1) := by decide +kernel
theorem dJ2_getChar_3b067_42 : decode cJ2_getChar_3b067 42 = .ok (.getstatic 59, 3) := by decide +kernel
theorem dJ2_getChar_3b067_45 : decode cJ2_getChar_3b067 45 = .ok (.ishl, 1) := by decide +kernel
theorem dJ2_getChar_3b067_46 : decode cJ2_getChar_3b067 46 = .ok (.aload_n 0, 1) := by decide +kernel
theorem dJ2_getChar_3b067_47 : decode cJ2_getChar_3b067 47 = .ok (.iload_n 1, 1) := by decide +kernel
theorem dJ2_getChar_3b067_48 : decode cJ2_getChar_3b067 48 = .ok (.baload, 1) := by decide +kernel
theorem dJ2_getChar_3b067_49 : decode cJ2_getChar_3b067 49 = .ok (.sipush 255, 3) := by decide +kernel
theorem dJ2_getChar_3b067_52 : decode cJ2_getChar_3b067 52 = .ok (.iand, 1) := by decide +kernel
theorem dJ2_getChar_3b067_53 : decode cJ2_getChar_3b067 53 = .ok (.getstatic 63, 3) := by decide +kernel
theorem dJ2_getChar_3b067_56 : decode cJ2_getChar_3b067 56 = .ok (.ishl, 1) := by decide +kernel
theorem dJ2_getChar_3b067_57 : decode cJ2_getChar_3b067 57 = .ok (.ior, 1) := by decide +kernel
theorem dJ2_getChar_3b067_58 : decode cJ2_getChar_3b067 58 = .ok (.i2c, 1) := by decide +kernel
theorem dJ2_getChar_3b067_59 : decode cJ2_getChar_3b067 59 = .ok (.ireturn, 1) := by decide +kernel
theorem dJ2_length_9d52b_0 : decode cJ2_length_9d52b 0 = .ok (.aload_n 0, 1) := by decide +kernel
theorem dJ2_length_9d52b_1 : decode cJ2_length_9d52b 1 = .ok (.arraylength, 1) := by decide +kernel
theorem dJ2_length_9d52b_2 : decode cJ2_length_9d52b 2 = .ok (.iconst 1, 1) := by decide +kernel
theorem dJ2_length_9d52b_3 : decode cJ2_length_9d52b 3 = .ok (.ishr, 1) := by decide +kernel
theorem dJ2_length_9d52b_4 : decode cJ2_length_9d52b 4 = .ok (.ireturn, 1) := by decide +kernel
theorem dJ2_charAt_3b067_0 : decode cJ2_charAt_3b067 0 = .ok (.iload_n 1, 1) := by decide +kernel
theorem dJ2_charAt_3b067_1 : decode cJ2_charAt_3b067 1 = .ok (.aload_n 0, 1) := by decide +kernel
theorem dJ2_charAt_3b067_2 : decode cJ2_charAt_3b067 2 = .ok (.invokestatic 67, 3) := by decide +kernel
theorem dJ2_charAt_3b067_5 : decode cJ2_charAt_3b067 5 = .ok (.aload_n 0, 1) := by decide +kernel
theorem dJ2_charAt_3b067_6 : decode cJ2_charAt_3b067 6 = .ok (.iload_n 1, 1) := by decide +kernel
theorem dJ2_charAt_3b067_7 : decode cJ2_charAt_3b067 7 = .ok (.invokestatic 71, 3) := by decide +kernel
theorem dJ2_charAt_3b067_10 : decode cJ2_charAt_3b067 10 = .ok (.ireturn, 1) := by decide +kernel
theorem dJ2_checkIndex_2214a_0 : decode cJ2_checkIndex_2214a 0 = .ok (.iload_n 0, 1) := by decide +kernel
theorem dJ2_checkIndex_2214a_1 : decode cJ2_checkIndex_2214a 1 = .ok (.aload_n 1, 1) := by decide +kernel
theorem dJ2_checkIndex_2214a_2 : decode cJ2_checkIndex_2214a 2 = .ok (.invokestatic 48, 3) := by decide +kernel
theorem dJ2_checkIndex_2214a_5 : decode cJ2_checkIndex_2214a 5 = .ok (.invokestatic 414, 3) := by decide +kernel
theorem dJ2_checkIndex_2214a_8 : decode cJ2_checkIndex_2214a 8 = .ok (.return_, 1) := by decide +kernel
theorem dJ7_fill_d0a16_0 : decode cJ7_fill_d0a16 0 = .ok (.iconst 0, 1) := by decide +kernel
theorem dJ7_fill_d0a16_1 : decode cJ7_fill_d0a16 1 = .ok (.istore_n 3, 1) := by decide +kernel
theorem dJ7_fill_d0a16_2 : decode cJ7_fill_d0a16 2 = .ok (.aload_n 0, 1) := by decide +kernel
theorem dJ7_fill_d0a16_3 : decode cJ7_fill_d0a16 3 = .ok (.arraylength, 1) := by decide +kernel
theorem dJ7_fill_d0a16_4 : decode cJ7_fill_d0a16 4 = .ok (.istore 4, 2) := by decide +kernel
theorem dJ7_fill_d0a16_6 : decode cJ7_fill_d0a16 6 = .ok (.iload_n 3, 1) := by decide +kernel
theorem dJ7_fill_d0a16_7 : decode cJ7_fill_d0a16 7 = .ok (.iload 4, 2) := by decide +kernel
theorem dJ7_fill_d0a16_9 : decode cJ7_fill_d0a16 9 = .ok (.if_icmp .ge 13, 3) := by decide +kernel
theorem dJ7_fill_d0a16_12 : decode cJ7_fill_d0a16 12 = .ok (.aload_n 0, 1) := by decide +kernel
theorem dJ7_fill_d0a16_13 : decode cJ7_fill_d0a16 13 = .ok (.iload_n 3, 1) := by decide +kernel
theorem dJ7_fill_d0a16_14 : decode cJ7_fill_d0a16 14 = .ok (.lload_n 1, 1) := by decide +kernel
theorem dJ7_fill_d0a16_15 : decode cJ7_fill_d0a16 15 = .ok (.lastore, 1) := by decide +kernel
theorem dJ7_fill_d0a16_16 : decode cJ7_fill_d0a16 16 = .ok (.iinc 3 1, 3) := by decide +kernel
theorem dJ7_fill_d0a16_19 : decode cJ7_fill_d0a16 19 = .ok (.goto (-13), 3) := by decide +kernel
theorem dJ7_fill_d0a16_22 : decode cJ7_fill_d0a16 22 = .ok (.return_, 1) := by decide +kernel
theorem dJ7_fill_53178_0 : decode cJ7_fill_53178 0 = .ok (.iconst 0, 1) := by decide +kernel
theorem dJ7_fill_53178_1 : decode cJ7_fill_53178 1 = .ok (.istore_n 2, 1) := by decide +kernel
theorem dJ7_fill_53178_2 : decode cJ7_fill_53178 2 = .ok (.aload_n 0, 1) := by decide +kernel
theorem dJ7_fill_53178_3 : decode cJ7_fill_53178 3 = .ok (.arraylength, 1) := by decide +kernel
theorem dJ7_fill_53178_4 : decode cJ7_fill_53178 4 = .ok (.istore_n 3, 1) := by decide +kernel
theorem dJ7_fill_53178_5 : decode cJ7_fill_53178 5 = .ok (.iload_n 2, 1) := by decide +kernel
theorem dJ7_fill_53178_6 : decode cJ7_fill_53178 6 = .ok (.iload_n 3, 1) := by decide +kernel
theorem dJ7_fill_53178_7 : decode cJ7_fill_53178 7 = .ok (.if_icmp .ge 13, 3) := by decide +kernel
theorem dJ7_fill_53178_10 : decode cJ7_fill_53178 10 = .ok (.aload_n 0, 1) := by decide +kernel
theorem dJ7_fill_53178_11 : decode cJ7_fill_53178 11 = .ok (.iload_n 2, 1) := by decide +kernel
theorem dJ7_fill_53178_12 : decode cJ7_fill_53178 12 = .ok (.iload_n 1, 1) := by decide +kernel
theorem dJ7_fill_53178_13 : decode cJ7_fill_53178 13 = .ok (.iastore, 1) := by decide +kernel
theorem dJ7_fill_53178_14 : decode cJ7_fill_53178 14 = .ok (.iinc 2 1, 3) := by decide +kernel
theorem dJ7_fill_53178_17 : decode cJ7_fill_53178 17 = .ok (.goto (-12), 3) := by decide +kernel
theorem dJ7_fill_53178_20 : decode cJ7_fill_53178 20 = .ok (.return_, 1) := by decide +kernel
theorem dJ3_checkIndex_8e157_0 : decode cJ3_checkIndex_8e157 0 = .ok (.iload_n 0, 1) := by decide +kernel
theorem dJ3_checkIndex_8e157_1 : decode cJ3_checkIndex_8e157 1 = .ok (.ifCond .lt 8, 3) := by decide +kernel
theorem dJ3_checkIndex_8e157_4 : decode cJ3_checkIndex_8e157 4 = .ok (.iload_n 0, 1) := by decide +kernel
theorem dJ3_checkIndex_8e157_5 : decode cJ3_checkIndex_8e157 5 = .ok (.iload_n 1, 1) := by decide +kernel
theorem dJ3_checkIndex_8e157_6 : decode cJ3_checkIndex_8e157 6 = .ok (.if_icmp .lt 10, 3) := by decide +kernel
theorem dJ3_checkIndex_8e157_9 : decode cJ3_checkIndex_8e157 9 = .ok (.aload_n 2, 1) := by decide +kernel
theorem dJ3_checkIndex_8e157_10 : decode cJ3_checkIndex_8e157 10 = .ok (.iload_n 0, 1) := by decide +kernel
theorem dJ3_checkIndex_8e157_11 : decode cJ3_checkIndex_8e157 11 = .ok (.iload_n 1, 1) := by decide +kernel
theorem dJ3_checkIndex_8e157_12 : decode cJ3_checkIndex_8e157 12 = .ok (.invokestatic 95, 3) := by decide +kernel
theorem dJ3_checkIndex_8e157_15 : decode cJ3_checkIndex_8e157 15 = .ok (.athrow, 1) := by decide +kernel
theorem dJ3_checkIndex_8e157_16 : decode cJ3_checkIndex_8e157 16 = .ok (.iload_n 0, 1) := by decide +kernel
theorem dJ3_checkIndex_8e157_17 : decode cJ3_checkIndex_8e157 17 = .ok (.ireturn, 1) := by decide +kernel
theorem dL_load_0 : decode cL_load 0 = .ok (.aload_n 2, 1) := by decide +kernel
theorem dL_load_1 : decode cL_load 1 = .ok (.iconst 0, 1) := by decide +kernel
theorem dL_load_2 : decode cL_load 2 = .ok (.aload_n 0, 1) := by decide +kernel
theorem dL_load_3 : decode cL_load 3 = .ok (.iload_n 1, 1) := by decide +kernel
theorem dL_load_4 : decode cL_load 4 = .ok (.invokevirtual 7, 3) := by decide +kernel
theorem dL_load_7 : decode cL_load 7 = .ok (.i2l, 1) := by decide +kernel
theorem dL_load_8 : decode cL_load 8 = .ok (.lastore, 1) := by decide +kernel
theorem dL_load_9 : decode cL_load 9 = .ok (.goto 6, 3) := by decide +kernel
theorem dL_load_12 : decode cL_load 12 = .ok (.astore_n 3, 1) := by decide +kernel
theorem dL_load_13 : decode cL_load 13 = .ok (.iconst 1, 1) := by decide +kernel
theorem dL_load_14 : decode cL_load 14 = .ok (.ireturn, 1) := by decide +kernel
theorem dL_load_15 : decode cL_load 15 = .ok (.iconst 0, 1) := by decide +kernel
theorem dL_load_16 : decode cL_load 16 = .ok (.ireturn, 1) := by decide +kernel
theorem dL_reservedIn_0 : decode cL_reservedIn 0 = .ok (.aload_n 2, 1) := by decide +kernel
theorem dL_reservedIn_1 : decode cL_reservedIn 1 = .ok (.iconst 0, 1) := by decide +kernel
theorem dL_reservedIn_2 : decode cL_reservedIn 2 = .ok (.aload_n 0, 1) := by decide +kernel
theorem dL_reservedIn_3 : decode cL_reservedIn 3 = .ok (.iload_n 1, 1) := by decide +kernel
theorem dL_reservedIn_4 : decode cL_reservedIn 4 = .ok (.invokevirtual 15, 3) := by decide +kernel
theorem dL_reservedIn_7 : decode cL_reservedIn 7 = .ok (.i2l, 1) := by decide +kernel
theorem dL_reservedIn_8 : decode cL_reservedIn 8 = .ok (.lastore, 1) := by decide +kernel
theorem dL_reservedIn_9 : decode cL_reservedIn 9 = .ok (.goto 6, 3) := by decide +kernel
theorem dL_reservedIn_12 : decode cL_reservedIn 12 = .ok (.astore_n 3, 1) := by decide +kernel
theorem dL_reservedIn_13 : decode cL_reservedIn 13 = .ok (.iconst 1, 1) := by decide +kernel
theorem dL_reservedIn_14 : decode cL_reservedIn 14 = .ok (.ireturn, 1) := by decide +kernel
theorem dL_reservedIn_15 : decode cL_reservedIn 15 = .ok (.iconst 0, 1) := by decide +kernel
theorem dL_reservedIn_16 : decode cL_reservedIn 16 = .ok (.ireturn, 1) := by decide +kernel
theorem dL_forecastOf_0 : decode cL_forecastOf 0 = .ok (.aload_n 2, 1) := by decide +kernel
theorem dL_forecastOf_1 : decode cL_forecastOf 1 = .ok (.iconst 0, 1) := by decide +kernel
theorem dL_forecastOf_2 : decode cL_forecastOf 2 = .ok (.aload_n 0, 1) := by decide +kernel
theorem dL_forecastOf_3 : decode cL_forecastOf 3 = .ok (.iload_n 1, 1) := by decide +kernel
theorem dL_forecastOf_4 : decode cL_forecastOf 4 = .ok (.invokevirtual 20, 3) := by decide +kernel
theorem dL_forecastOf_7 : decode cL_forecastOf 7 = .ok (.i2l, 1) := by decide +kernel
theorem dL_forecastOf_8 : decode cL_forecastOf 8 = .ok (.lastore, 1) := by decide +kernel
theorem dL_forecastOf_9 : decode cL_forecastOf 9 = .ok (.goto 6, 3) := by decide +kernel
theorem dL_forecastOf_12 : decode cL_forecastOf 12 = .ok (.astore_n 3, 1) := by decide +kernel
theorem dL_forecastOf_13 : decode cL_forecastOf 13 = .ok (.iconst 1, 1) := by decide +kernel
theorem dL_forecastOf_14 : decode cL_forecastOf 14 = .ok (.ireturn, 1) := by decide +kernel
theorem dL_forecastOf_15 : decode cL_forecastOf 15 = .ok (.iconst 0, 1) := by decide +kernel
theorem dL_forecastOf_16 : decode cL_forecastOf 16 = .ok (.ireturn, 1) := by decide +kernel
theorem dL_orderOf_0 : decode cL_orderOf 0 = .ok (.aload_n 2, 1) := by decide +kernel
theorem dL_orderOf_1 : decode cL_orderOf 1 = .ok (.iconst 0, 1) := by decide +kernel
theorem dL_orderOf_2 : decode cL_orderOf 2 = .ok (.aload_n 0, 1) := by decide +kernel
theorem dL_orderOf_3 : decode cL_orderOf 3 = .ok (.iload_n 1, 1) := by decide +kernel
theorem dL_orderOf_4 : decode cL_orderOf 4 = .ok (.invokevirtual 23, 3) := by decide +kernel
theorem dL_orderOf_7 : decode cL_orderOf 7 = .ok (.i2l, 1) := by decide +kernel
theorem dL_orderOf_8 : decode cL_orderOf 8 = .ok (.lastore, 1) := by decide +kernel
theorem dL_orderOf_9 : decode cL_orderOf 9 = .ok (.goto 6, 3) := by decide +kernel
theorem dL_orderOf_12 : decode cL_orderOf 12 = .ok (.astore_n 3, 1) := by decide +kernel
theorem dL_orderOf_13 : decode cL_orderOf 13 = .ok (.iconst 1, 1) := by decide +kernel
theorem dL_orderOf_14 : decode cL_orderOf 14 = .ok (.ireturn, 1) := by decide +kernel
theorem dL_orderOf_15 : decode cL_orderOf 15 = .ok (.iconst 0, 1) := by decide +kernel
theorem dL_orderOf_16 : decode cL_orderOf 16 = .ok (.ireturn, 1) := by decide +kernel
theorem dL_openUnits_0 : decode cL_openUnits 0 = .ok (.aload_n 2, 1) := by decide +kernel
theorem dL_openUnits_1 : decode cL_openUnits 1 = .ok (.iconst 0, 1) := by decide +kernel
theorem dL_openUnits_2 : decode cL_openUnits 2 = .ok (.aload_n 0, 1) := by decide +kernel
theorem dL_openUnits_3 : decode cL_openUnits 3 = .ok (.iload_n 1, 1) := by decide +kernel
theorem dL_openUnits_4 : decode cL_openUnits 4 = .ok (.invokevirtual 26, 3) := by decide +kernel
theorem dL_openUnits_7 : decode cL_openUnits 7 = .ok (.i2l, 1) := by decide +kernel
theorem dL_openUnits_8 : decode cL_openUnits 8 = .ok (.lastore, 1) := by decide +kernel
theorem dL_openUnits_9 : decode cL_openUnits 9 = .ok (.goto 6, 3) := by decide +kernel
theorem dL_openUnits_12 : decode cL_openUnits 12 = .ok (.astore_n 3, 1) := by decide +kernel
theorem dL_openUnits_13 : decode cL_openUnits 13 = .ok (.iconst 1, 1) := by decide +kernel
theorem dL_openUnits_14 : decode cL_openUnits 14 = .ok (.ireturn, 1) := by decide +kernel
theorem dL_openUnits_15 : decode cL_openUnits 15 = .ok (.iconst 0, 1) := by decide +kernel
theorem dL_openUnits_16 : decode cL_openUnits 16 = .ok (.ireturn, 1) := by decide +kernel
theorem dL_missedUnits_0 : decode cL_missedUnits 0 = .ok (.aload_n 2, 1) := by decide +kernel
theorem dL_missedUnits_1 : decode cL_missedUnits 1 = .ok (.iconst 0, 1) := by decide +kernel
theorem dL_missedUnits_2 : decode cL_missedUnits 2 = .ok (.aload_n 0, 1) := by decide +kernel
theorem dL_missedUnits_3 : decode cL_missedUnits 3 = .ok (.iload_n 1, 1) := by decide +kernel
theorem dL_missedUnits_4 : decode cL_missedUnits 4 = .ok (.invokevirtual 29, 3) := by decide +kernel
theorem dL_missedUnits_7 : decode cL_missedUnits 7 = .ok (.i2l, 1) := by decide +kernel
theorem dL_missedUnits_8 : decode cL_missedUnits 8 = .ok (.lastore, 1) := by decide +kernel
theorem dL_missedUnits_9 : decode cL_missedUnits 9 = .ok (.goto 6, 3) := by decide +kernel
theorem dL_missedUnits_12 : decode cL_missedUnits 12 = .ok (.astore_n 3, 1) := by decide +kernel
theorem dL_missedUnits_13 : decode cL_missedUnits 13 = .ok (.iconst 1, 1) := by decide +kernel
theorem dL_missedUnits_14 : decode cL_missedUnits 14 = .ok (.ireturn, 1) := by decide +kernel
theorem dL_missedUnits_15 : decode cL_missedUnits 15 = .ok (.iconst 0, 1) := by decide +kernel
theorem dL_missedUnits_16 : decode cL_missedUnits 16 = .ok (.ireturn, 1) := by decide +kernel
theorem dL_invoice_0 : decode cL_invoice 0 = .ok (.aload_n 2, 1) := by decide +kernel
theorem dL_invoice_1 : decode cL_invoice 1 = .ok (.iconst 0, 1) := by decide +kernel
theorem dL_invoice_2 : decode cL_invoice 2 = .ok (.aload_n 0, 1) := by decide +kernel
theorem dL_invoice_3 : decode cL_invoice 3 = .ok (.iload_n 1, 1) := by decide +kernel
theorem dL_invoice_4 : decode cL_invoice 4 = .ok (.invokevirtual 32, 3) := by decide +kernel
theorem dL_invoice_7 : decode cL_invoice 7 = .ok (.lastore, 1) := by decide +kernel
theorem dL_invoice_8 : decode cL_invoice 8 = .ok (.goto 6, 3) := by decide +kernel
theorem dL_invoice_11 : decode cL_invoice 11 = .ok (.astore_n 3, 1) := by decide +kernel
theorem dL_invoice_12 : decode cL_invoice 12 = .ok (.iconst 1, 1) := by decide +kernel
theorem dL_invoice_13 : decode cL_invoice 13 = .ok (.ireturn, 1) := by decide +kernel
theorem dL_invoice_14 : decode cL_invoice 14 = .ok (.iconst 0, 1) := by decide +kernel
theorem dL_invoice_15 : decode cL_invoice 15 = .ok (.ireturn, 1) := by decide +kernel
theorem dL_bandFor_0 : decode cL_bandFor 0 = .ok (.aload_n 2, 1) := by decide +kernel
theorem dL_bandFor_1 : decode cL_bandFor 1 = .ok (.iconst 0, 1) := by decide +kernel
theorem dL_bandFor_2 : decode cL_bandFor 2 = .ok (.aload_n 0, 1) := by decide +kernel
theorem dL_bandFor_3 : decode cL_bandFor 3 = .ok (.iload_n 1, 1) := by decide +kernel
theorem dL_bandFor_4 : decode cL_bandFor 4 = .ok (.invokevirtual 36, 3) := by decide +kernel
theorem dL_bandFor_7 : decode cL_bandFor 7 = .ok (.i2l, 1) := by decide +kernel
theorem dL_bandFor_8 : decode cL_bandFor 8 = .ok (.lastore, 1) := by decide +kernel
theorem dL_bandFor_9 : decode cL_bandFor 9 = .ok (.goto 6, 3) := by decide +kernel
theorem dL_bandFor_12 : decode cL_bandFor 12 = .ok (.astore_n 3, 1) := by decide +kernel
theorem dL_bandFor_13 : decode cL_bandFor 13 = .ok (.iconst 1, 1) := by decide +kernel
theorem dL_bandFor_14 : decode cL_bandFor 14 = .ok (.ireturn, 1) := by decide +kernel
theorem dL_bandFor_15 : decode cL_bandFor 15 = .ok (.iconst 0, 1) := by decide +kernel
theorem dL_bandFor_16 : decode cL_bandFor 16 = .ok (.ireturn, 1) := by decide +kernel
theorem dL_allowed_0 : decode cL_allowed 0 = .ok (.aload 4, 2) := by decide +kernel
theorem dL_allowed_2 : decode cL_allowed 2 = .ok (.iconst 0, 1) := by decide +kernel
theorem dL_allowed_3 : decode cL_allowed 3 = .ok (.aload_n 0, 1) := by decide +kernel
theorem dL_allowed_4 : decode cL_allowed 4 = .ok (.iload_n 1, 1) := by decide +kernel
theorem dL_allowed_5 : decode cL_allowed 5 = .ok (.iload_n 2, 1) := by decide +kernel
theorem dL_allowed_6 : decode cL_allowed 6 = .ok (.iload_n 3, 1) := by decide +kernel
theorem dL_allowed_7 : decode cL_allowed 7 = .ok (.invokevirtual 39, 3) := by decide +kernel
theorem dL_allowed_10 : decode cL_allowed 10 = .ok (.i2l, 1) := by decide +kernel
theorem dL_allowed_11 : decode cL_allowed 11 = .ok (.lastore, 1) := by decide +kernel
theorem dL_allowed_12 : decode cL_allowed 12 = .ok (.goto 7, 3) := by decide +kernel
theorem dL_allowed_15 : decode cL_allowed 15 = .ok (.astore 5, 2) := by decide +kernel
theorem dL_allowed_17 : decode cL_allowed 17 = .ok (.iconst 1, 1) := by decide +kernel
theorem dL_allowed_18 : decode cL_allowed 18 = .ok (.ireturn, 1) := by decide +kernel
theorem dL_allowed_19 : decode cL_allowed 19 = .ok (.iconst 0, 1) := by decide +kernel
theorem dL_allowed_20 : decode cL_allowed 20 = .ok (.ireturn, 1) := by decide +kernel
theorem dL_penaltyFor_0 : decode cL_penaltyFor 0 = .ok (.aload_n 3, 1) := by decide +kernel
theorem dL_penaltyFor_1 : decode cL_penaltyFor 1 = .ok (.iconst 0, 1) := by decide +kernel
theorem dL_penaltyFor_2 : decode cL_penaltyFor 2 = .ok (.aload_n 0, 1) := by decide +kernel
theorem dL_penaltyFor_3 : decode cL_penaltyFor 3 = .ok (.iload_n 1, 1) := by decide +kernel
theorem dL_penaltyFor_4 : decode cL_penaltyFor 4 = .ok (.iload_n 2, 1) := by decide +kernel
theorem dL_penaltyFor_5 : decode cL_penaltyFor 5 = .ok (.invokevirtual 43, 3) := by decide +kernel
theorem dL_penaltyFor_8 : decode cL_penaltyFor 8 = .ok (.i2l, 1) := by decide +kernel
theorem dL_penaltyFor_9 : decode cL_penaltyFor 9 = .ok (.lastore, 1) := by decide +kernel
theorem dL_penaltyFor_10 : decode cL_penaltyFor 10 = .ok (.goto 7, 3) := by decide +kernel
theorem dL_penaltyFor_13 : decode cL_penaltyFor 13 = .ok (.astore 4, 2) := by decide +kernel
theorem dL_penaltyFor_15 : decode cL_penaltyFor 15 = .ok (.iconst 1, 1) := by decide +kernel
theorem dL_penaltyFor_16 : decode cL_penaltyFor 16 = .ok (.ireturn, 1) := by decide +kernel
theorem dL_penaltyFor_17 : decode cL_penaltyFor 17 = .ok (.iconst 0, 1) := by decide +kernel
theorem dL_penaltyFor_18 : decode cL_penaltyFor 18 = .ok (.ireturn, 1) := by decide +kernel
theorem dL_breachPeriod_0 : decode cL_breachPeriod 0 = .ok (.aload_n 2, 1) := by decide +kernel
theorem dL_breachPeriod_1 : decode cL_breachPeriod 1 = .ok (.iconst 0, 1) := by decide +kernel
theorem dL_breachPeriod_2 : decode cL_breachPeriod 2 = .ok (.aload_n 0, 1) := by decide +kernel
theorem dL_breachPeriod_3 : decode cL_breachPeriod 3 = .ok (.iload_n 1, 1) := by decide +kernel
theorem dL_breachPeriod_4 : decode cL_breachPeriod 4 = .ok (.invokevirtual 47, 3) := by decide +kernel
theorem dL_breachPeriod_7 : decode cL_breachPeriod 7 = .ok (.i2l, 1) := by decide +kernel
theorem dL_breachPeriod_8 : decode cL_breachPeriod 8 = .ok (.lastore, 1) := by decide +kernel
theorem dL_breachPeriod_9 : decode cL_breachPeriod 9 = .ok (.goto 6, 3) := by decide +kernel
theorem dL_breachPeriod_12 : decode cL_breachPeriod 12 = .ok (.astore_n 3, 1) := by decide +kernel
theorem dL_breachPeriod_13 : decode cL_breachPeriod 13 = .ok (.iconst 1, 1) := by decide +kernel
theorem dL_breachPeriod_14 : decode cL_breachPeriod 14 = .ok (.ireturn, 1) := by decide +kernel
theorem dL_breachPeriod_15 : decode cL_breachPeriod 15 = .ok (.iconst 0, 1) := by decide +kernel
theorem dL_breachPeriod_16 : decode cL_breachPeriod 16 = .ok (.ireturn, 1) := by decide +kernel
theorem dL_breachKind_0 : decode cL_breachKind 0 = .ok (.aload_n 2, 1) := by decide +kernel
theorem dL_breachKind_1 : decode cL_breachKind 1 = .ok (.iconst 0, 1) := by decide +kernel
theorem dL_breachKind_2 : decode cL_breachKind 2 = .ok (.aload_n 0, 1) := by decide +kernel
theorem dL_breachKind_3 : decode cL_breachKind 3 = .ok (.iload_n 1, 1) := by decide +kernel
theorem dL_breachKind_4 : decode cL_breachKind 4 = .ok (.invokevirtual 50, 3) := by decide +kernel
theorem dL_breachKind_7 : decode cL_breachKind 7 = .ok (.i2l, 1) := by decide +kernel
theorem dL_breachKind_8 : decode cL_breachKind 8 = .ok (.lastore, 1) := by decide +kernel
theorem dL_breachKind_9 : decode cL_breachKind 9 = .ok (.goto 6, 3) := by decide +kernel
theorem dL_breachKind_12 : decode cL_breachKind 12 = .ok (.astore_n 3, 1) := by decide +kernel
theorem dL_breachKind_13 : decode cL_breachKind 13 = .ok (.iconst 1, 1) := by decide +kernel
theorem dL_breachKind_14 : decode cL_breachKind 14 = .ok (.ireturn, 1) := by decide +kernel
theorem dL_breachKind_15 : decode cL_breachKind 15 = .ok (.iconst 0, 1) := by decide +kernel
theorem dL_breachKind_16 : decode cL_breachKind 16 = .ok (.ireturn, 1) := by decide +kernel
theorem dL_breachPenalty_0 : decode cL_breachPenalty 0 = .ok (.aload_n 2, 1) := by decide +kernel
theorem dL_breachPenalty_1 : decode cL_breachPenalty 1 = .ok (.iconst 0, 1) := by decide +kernel
theorem dL_breachPenalty_2 : decode cL_breachPenalty 2 = .ok (.aload_n 0, 1) := by decide +kernel
theorem dL_breachPenalty_3 : decode cL_breachPenalty 3 = .ok (.iload_n 1, 1) := by decide +kernel
theorem dL_breachPenalty_4 : decode cL_breachPenalty 4 = .ok (.invokevirtual 53, 3) := by decide +kernel
theorem dL_breachPenalty_7 : decode cL_breachPenalty 7 = .ok (.i2l, 1) := by decide +kernel
theorem dL_breachPenalty_8 : decode cL_breachPenalty 8 = .ok (.lastore, 1) := by decide +kernel
theorem dL_breachPenalty_9 : decode cL_breachPenalty 9 = .ok (.goto 6, 3) := by decide +kernel
theorem dL_breachPenalty_12 : decode cL_breachPenalty 12 = .ok (.astore_n 3, 1) := by decide +kernel
theorem dL_breachPenalty_13 : decode cL_breachPenalty 13 = .ok (.iconst 1, 1) := by decide +kernel
theorem dL_breachPenalty_14 : decode cL_breachPenalty 14 = .ok (.ireturn, 1) := by decide +kernel
theorem dL_breachPenalty_15 : decode cL_breachPenalty 15 = .ok (.iconst 0, 1) := by decide +kernel
theorem dL_breachPenalty_16 : decode cL_breachPenalty 16 = .ok (.ireturn, 1) := by decide +kernel
theorem dL_isWaived_0 : decode cL_isWaived 0 = .ok (.aload_n 2, 1) := by decide +kernel
theorem dL_isWaived_1 : decode cL_isWaived 1 = .ok (.iconst 0, 1) := by decide +kernel
theorem dL_isWaived_2 : decode cL_isWaived 2 = .ok (.aload_n 0, 1) := by decide +kernel
theorem dL_isWaived_3 : decode cL_isWaived 3 = .ok (.iload_n 1, 1) := by decide +kernel
theorem dL_isWaived_4 : decode cL_isWaived 4 = .ok (.invokevirtual 56, 3) := by decide +kernel
theorem dL_isWaived_7 : decode cL_isWaived 7 = .ok (.ifCond .eq 7, 3) := by decide +kernel
theorem dL_isWaived_10 : decode cL_isWaived 10 = .ok (.lconst 1, 1) := by decide +kernel
theorem dL_isWaived_11 : decode cL_isWaived 11 = .ok (.goto 4, 3) := by decide +kernel
theorem dL_isWaived_14 : decode cL_isWaived 14 = .ok (.lconst 0, 1) := by decide +kernel
theorem dL_isWaived_15 : decode cL_isWaived 15 = .ok (.lastore, 1) := by decide +kernel
theorem dL_isWaived_16 : decode cL_isWaived 16 = .ok (.goto 6, 3) := by decide +kernel
theorem dL_isWaived_19 : decode cL_isWaived 19 = .ok (.astore_n 3, 1) := by decide +kernel
theorem dL_isWaived_20 : decode cL_isWaived 20 = .ok (.iconst 1, 1) := by decide +kernel
theorem dL_isWaived_21 : decode cL_isWaived 21 = .ok (.ireturn, 1) := by decide +kernel
theorem dL_isWaived_22 : decode cL_isWaived 22 = .ok (.iconst 0, 1) := by decide +kernel
theorem dL_isWaived_23 : decode cL_isWaived 23 = .ok (.ireturn, 1) := by decide +kernel
theorem dL_bestWaiver_0 : decode cL_bestWaiver 0 = .ok (.aload_n 2, 1) := by decide +kernel
theorem dL_bestWaiver_1 : decode cL_bestWaiver 1 = .ok (.iconst 0, 1) := by decide +kernel
theorem dL_bestWaiver_2 : decode cL_bestWaiver 2 = .ok (.aload_n 0, 1) := by decide +kernel
theorem dL_bestWaiver_3 : decode cL_bestWaiver 3 = .ok (.iload_n 1, 1) := by decide +kernel
theorem dL_bestWaiver_4 : decode cL_bestWaiver 4 = .ok (.invokevirtual 60, 3) := by decide +kernel
theorem dL_bestWaiver_7 : decode cL_bestWaiver 7 = .ok (.i2l, 1) := by decide +kernel
theorem dL_bestWaiver_8 : decode cL_bestWaiver 8 = .ok (.lastore, 1) := by decide +kernel
theorem dL_bestWaiver_9 : decode cL_bestWaiver 9 = .ok (.goto 6, 3) := by decide +kernel
theorem dL_bestWaiver_12 : decode cL_bestWaiver 12 = .ok (.astore_n 3, 1) := by decide +kernel
theorem dL_bestWaiver_13 : decode cL_bestWaiver 13 = .ok (.iconst 1, 1) := by decide +kernel
theorem dL_bestWaiver_14 : decode cL_bestWaiver 14 = .ok (.ireturn, 1) := by decide +kernel
theorem dL_bestWaiver_15 : decode cL_bestWaiver 15 = .ok (.iconst 0, 1) := by decide +kernel
theorem dL_bestWaiver_16 : decode cL_bestWaiver 16 = .ok (.ireturn, 1) := by decide +kernel
theorem dL_bestReserved_0 : decode cL_bestReserved 0 = .ok (.aload_n 2, 1) := by decide +kernel
theorem dL_bestReserved_1 : decode cL_bestReserved 1 = .ok (.iconst 0, 1) := by decide +kernel
theorem dL_bestReserved_2 : decode cL_bestReserved 2 = .ok (.aload_n 0, 1) := by decide +kernel
theorem dL_bestReserved_3 : decode cL_bestReserved 3 = .ok (.iload_n 1, 1) := by decide +kernel
theorem dL_bestReserved_4 : decode cL_bestReserved 4 = .ok (.invokevirtual 63, 3) := by decide +kernel
theorem dL_bestReserved_7 : decode cL_bestReserved 7 = .ok (.i2l, 1) := by decide +kernel
theorem dL_bestReserved_8 : decode cL_bestReserved 8 = .ok (.lastore, 1) := by decide +kernel
theorem dL_bestReserved_9 : decode cL_bestReserved 9 = .ok (.goto 9, 3) := by decide +kernel
theorem dL_bestReserved_12 : decode cL_bestReserved 12 = .ok (.astore_n 3, 1) := by decide +kernel
theorem dL_bestReserved_13 : decode cL_bestReserved 13 = .ok (.iconst 1, 1) := by decide +kernel
theorem dL_bestReserved_14 : decode cL_bestReserved 14 = .ok (.ireturn, 1) := by decide +kernel
theorem dL_bestReserved_15 : decode cL_bestReserved 15 = .ok (.astore_n 3, 1) := by decide +kernel
theorem dL_bestReserved_16 : decode cL_bestReserved 16 = .ok (.iconst 2, 1) := by decide +kernel
theorem dL_bestReserved_17 : decode cL_bestReserved 17 = .ok (.ireturn, 1) := by decide +kernel
theorem dL_bestReserved_18 : decode cL_bestReserved 18 = .ok (.iconst 0, 1) := by decide +kernel
theorem dL_bestReserved_19 : decode cL_bestReserved 19 = .ok (.ireturn, 1) := by decide +kernel
theorem dL_forecast_0 : decode cL_forecast 0 = .ok (.aload_n 3, 1) := by decide +kernel
theorem dL_forecast_1 : decode cL_forecast 1 = .ok (.iconst 0, 1) := by decide +kernel
theorem dL_forecast_2 : decode cL_forecast 2 = .ok (.aload_n 0, 1) := by decide +kernel
theorem dL_forecast_3 : decode cL_forecast 3 = .ok (.iload_n 1, 1) := by decide +kernel
theorem dL_forecast_4 : decode cL_forecast 4 = .ok (.iload_n 2, 1) := by decide +kernel
theorem dL_forecast_5 : decode cL_forecast 5 = .ok (.invokevirtual 68, 3) := by decide +kernel
theorem dL_forecast_8 : decode cL_forecast 8 = .ok (.i2l, 1) := by decide +kernel
theorem dL_forecast_9 : decode cL_forecast 9 = .ok (.lastore, 1) := by decide +kernel
theorem dL_forecast_10 : decode cL_forecast 10 = .ok (.goto 15, 3) := by decide +kernel
theorem dL_forecast_13 : decode cL_forecast 13 = .ok (.astore 4, 2) := by decide +kernel
theorem dL_forecast_15 : decode cL_forecast 15 = .ok (.iconst 1, 1) := by decide +kernel
theorem dL_forecast_16 : decode cL_forecast 16 = .ok (.ireturn, 1) := by decide +kernel
theorem dL_forecast_17 : decode cL_forecast 17 = .ok (.astore 4, 2) := by decide +kernel
theorem dL_forecast_19 : decode cL_forecast 19 = .ok (.iconst 2, 1) := by decide +kernel
theorem dL_forecast_20 : decode cL_forecast 20 = .ok (.ireturn, 1) := by decide +kernel
theorem dL_forecast_21 : decode cL_forecast 21 = .ok (.astore 4, 2) := by decide +kernel
theorem dL_forecast_23 : decode cL_forecast 23 = .ok (.iconst 3, 1) := by decide +kernel
theorem dL_forecast_24 : decode cL_forecast 24 = .ok (.ireturn, 1) := by decide +kernel
theorem dL_forecast_25 : decode cL_forecast 25 = .ok (.iconst 0, 1) := by decide +kernel
theorem dL_forecast_26 : decode cL_forecast 26 = .ok (.ireturn, 1) := by decide +kernel
theorem dL_order_0 : decode cL_order 0 = .ok (.aload_n 2, 1) := by decide +kernel
theorem dL_order_1 : decode cL_order 1 = .ok (.iconst 0, 1) := by decide +kernel
theorem dL_order_2 : decode cL_order 2 = .ok (.aload_n 0, 1) := by decide +kernel
theorem dL_order_3 : decode cL_order 3 = .ok (.iload_n 1, 1) := by decide +kernel
theorem dL_order_4 : decode cL_order 4 = .ok (.invokevirtual 71, 3) := by decide +kernel
theorem dL_order_7 : decode cL_order 7 = .ok (.i2l, 1) := by decide +kernel
theorem dL_order_8 : decode cL_order 8 = .ok (.lastore, 1) := by decide +kernel
theorem dL_order_9 : decode cL_order 9 = .ok (.goto 9, 3) := by decide +kernel
theorem dL_order_12 : decode cL_order 12 = .ok (.astore_n 3, 1) := by decide +kernel
theorem dL_order_13 : decode cL_order 13 = .ok (.iconst 1, 1) := by decide +kernel
theorem dL_order_14 : decode cL_order 14 = .ok (.ireturn, 1) := by decide +kernel
theorem dL_order_15 : decode cL_order 15 = .ok (.astore_n 3, 1) := by decide +kernel
theorem dL_order_16 : decode cL_order 16 = .ok (.iconst 2, 1) := by decide +kernel
theorem dL_order_17 : decode cL_order 17 = .ok (.ireturn, 1) := by decide +kernel
theorem dL_order_18 : decode cL_order 18 = .ok (.iconst 0, 1) := by decide +kernel
theorem dL_order_19 : decode cL_order 19 = .ok (.ireturn, 1) := by decide +kernel
theorem dL_close_0 : decode cL_close 0 = .ok (.aload_n 1, 1) := by decide +kernel
theorem dL_close_1 : decode cL_close 1 = .ok (.iconst 0, 1) := by decide +kernel
theorem dL_close_2 : decode cL_close 2 = .ok (.aload_n 0, 1) := by decide +kernel
theorem dL_close_3 : decode cL_close 3 = .ok (.invokevirtual 74, 3) := by decide +kernel
theorem dL_close_6 : decode cL_close 6 = .ok (.lastore, 1) := by decide +kernel
theorem dL_close_7 : decode cL_close 7 = .ok (.goto 6, 3) := by decide +kernel
theorem dL_close_10 : decode cL_close 10 = .ok (.astore_n 2, 1) := by decide +kernel
theorem dL_close_11 : decode cL_close 11 = .ok (.iconst 1, 1) := by decide +kernel
theorem dL_close_12 : decode cL_close 12 = .ok (.ireturn, 1) := by decide +kernel
theorem dL_close_13 : decode cL_close 13 = .ok (.iconst 0, 1) := by decide +kernel
theorem dL_close_14 : decode cL_close 14 = .ok (.ireturn, 1) := by decide +kernel
theorem dL_reserve_0 : decode cL_reserve 0 = .ok (.aload_n 3, 1) := by decide +kernel
theorem dL_reserve_1 : decode cL_reserve 1 = .ok (.iconst 0, 1) := by decide +kernel
theorem dL_reserve_2 : decode cL_reserve 2 = .ok (.aload_n 0, 1) := by decide +kernel
theorem dL_reserve_3 : decode cL_reserve 3 = .ok (.iload_n 1, 1) := by decide +kernel
theorem dL_reserve_4 : decode cL_reserve 4 = .ok (.iload_n 2, 1) := by decide +kernel
theorem dL_reserve_5 : decode cL_reserve 5 = .ok (.invokevirtual 78, 3) := by decide +kernel
theorem dL_reserve_8 : decode cL_reserve 8 = .ok (.i2l, 1) := by decide +kernel
theorem dL_reserve_9 : decode cL_reserve 9 = .ok (.lastore, 1) := by decide +kernel
theorem dL_reserve_10 : decode cL_reserve 10 = .ok (.goto 15, 3) := by decide +kernel
theorem dL_reserve_13 : decode cL_reserve 13 = .ok (.astore 4, 2) := by decide +kernel
theorem dL_reserve_15 : decode cL_reserve 15 = .ok (.iconst 1, 1) := by decide +kernel
theorem dL_reserve_16 : decode cL_reserve 16 = .ok (.ireturn, 1) := by decide +kernel
theorem dL_reserve_17 : decode cL_reserve 17 = .ok (.astore 4, 2) := by decide +kernel
theorem dL_reserve_19 : decode cL_reserve 19 = .ok (.iconst 2, 1) := by decide +kernel
theorem dL_reserve_20 : decode cL_reserve 20 = .ok (.ireturn, 1) := by decide +kernel
theorem dL_reserve_21 : decode cL_reserve 21 = .ok (.astore 4, 2) := by decide +kernel
theorem dL_reserve_23 : decode cL_reserve 23 = .ok (.iconst 3, 1) := by decide +kernel
theorem dL_reserve_24 : decode cL_reserve 24 = .ok (.ireturn, 1) := by decide +kernel
theorem dL_reserve_25 : decode cL_reserve 25 = .ok (.iconst 0, 1) := by decide +kernel
theorem dL_reserve_26 : decode cL_reserve 26 = .ok (.ireturn, 1) := by decide +kernel
theorem dL_waive_0 : decode cL_waive 0 = .ok (.aload_n 2, 1) := by decide +kernel
theorem dL_waive_1 : decode cL_waive 1 = .ok (.iconst 0, 1) := by decide +kernel
theorem dL_waive_2 : decode cL_waive 2 = .ok (.aload_n 0, 1) := by decide +kernel
theorem dL_waive_3 : decode cL_waive 3 = .ok (.iload_n 1, 1) := by decide +kernel
theorem dL_waive_4 : decode cL_waive 4 = .ok (.invokevirtual 81, 3) := by decide +kernel
theorem dL_waive_7 : decode cL_waive 7 = .ok (.i2l, 1) := by decide +kernel
theorem dL_waive_8 : decode cL_waive 8 = .ok (.lastore, 1) := by decide +kernel
theorem dL_waive_9 : decode cL_waive 9 = .ok (.goto 9, 3) := by decide +kernel
theorem dL_waive_12 : decode cL_waive 12 = .ok (.astore_n 3, 1) := by decide +kernel
theorem dL_waive_13 : decode cL_waive 13 = .ok (.iconst 1, 1) := by decide +kernel
theorem dL_waive_14 : decode cL_waive 14 = .ok (.ireturn, 1) := by decide +kernel
theorem dL_waive_15 : decode cL_waive 15 = .ok (.astore_n 3, 1) := by decide +kernel
theorem dL_waive_16 : decode cL_waive 16 = .ok (.iconst 2, 1) := by decide +kernel
theorem dL_waive_17 : decode cL_waive 17 = .ok (.ireturn, 1) := by decide +kernel
theorem dL_waive_18 : decode cL_waive 18 = .ok (.iconst 0, 1) := by decide +kernel
theorem dL_waive_19 : decode cL_waive 19 = .ok (.ireturn, 1) := by decide +kernel
theorem dL_law_0 : decode cL_law 0 = .ok (.new 8, 3) := by decide +kernel
theorem dL_law_3 : decode cL_law 3 = .ok (.dup, 1) := by decide +kernel
theorem dL_law_4 : decode cL_law 4 = .ok (.invokespecial 84, 3) := by decide +kernel
theorem dL_law_7 : decode cL_law 7 = .ok (.astore_n 1, 1) := by decide +kernel
theorem dL_law_8 : decode cL_law 8 = .ok (.new 85, 3) := by decide +kernel
theorem dL_law_11 : decode cL_law 11 = .ok (.dup, 1) := by decide +kernel
theorem dL_law_12 : decode cL_law 12 = .ok (.invokespecial 87, 3) := by decide +kernel
theorem dL_law_15 : decode cL_law 15 = .ok (.astore_n 2, 1) := by decide +kernel
theorem dL_law_16 : decode cL_law 16 = .ok (.iconst 1, 1) := by decide +kernel
theorem dL_law_17 : decode cL_law 17 = .ok (.newarray .long, 2) := by decide +kernel
theorem dL_law_19 : decode cL_law 19 = .ok (.astore_n 3, 1) := by decide +kernel
theorem dL_law_20 : decode cL_law 20 = .ok (.iconst 0, 1) := by decide +kernel
theorem dL_law_21 : decode cL_law 21 = .ok (.istore 4, 2) := by decide +kernel
theorem dL_law_23 : decode cL_law 23 = .ok (.iload 4, 2) := by decide +kernel
theorem dL_law_25 : decode cL_law 25 = .ok (.aload_n 0, 1) := by decide +kernel
theorem dL_law_26 : decode cL_law 26 = .ok (.arraylength, 1) := by decide +kernel
theorem dL_law_27 : decode cL_law 27 = .ok (.bipush 6, 2) := by decide +kernel
theorem dL_law_29 : decode cL_law 29 = .ok (.isub, 1) := by decide +kernel
theorem dL_law_30 : decode cL_law 30 = .ok (.if_icmp .gt 1628, 3) := by decide +kernel
theorem dL_law_33 : decode cL_law 33 = .ok (.aload_n 0, 1) := by decide +kernel
theorem dL_law_34 : decode cL_law 34 = .ok (.iload 4, 2) := by decide +kernel
theorem dL_law_36 : decode cL_law 36 = .ok (.iaload, 1) := by decide +kernel
theorem dL_law_37 : decode cL_law 37 = .ok (.bipush 63, 2) := by decide +kernel
theorem dL_law_39 : decode cL_law 39 = .ok (.iand, 1) := by decide +kernel
theorem dL_law_40 : decode cL_law 40 = .ok (.tableswitch 1612 0 32 #[148, 221, 277, 290, 303, 316, 372, 428, 484, 540, 596, 651, 665, 721, 817, 885, 898, 911, 967, 1023, 1079, 1142, 1155, 1168, 1224, 1238, 1294, 1362, 1418, 1461, 1529, 1585, 1598], 148) := by decide +kernel
theorem dL_law_188 : decode cL_law 188 = .ok (.aload_n 1, 1) := by decide +kernel
theorem dL_law_189 : decode cL_law 189 = .ok (.aload_n 0, 1) := by decide +kernel
theorem dL_law_190 : decode cL_law 190 = .ok (.iload 4, 2) := by decide +kernel
theorem dL_law_192 : decode cL_law 192 = .ok (.iconst 1, 1) := by decide +kernel
theorem dL_law_193 : decode cL_law 193 = .ok (.iadd, 1) := by decide +kernel
theorem dL_law_194 : decode cL_law 194 = .ok (.iaload, 1) := by decide +kernel
theorem dL_law_195 : decode cL_law 195 = .ok (.aload_n 0, 1) := by decide +kernel
theorem dL_law_196 : decode cL_law 196 = .ok (.iload 4, 2) := by decide +kernel
theorem dL_law_198 : decode cL_law 198 = .ok (.iconst 2, 1) := by decide +kernel
theorem dL_law_199 : decode cL_law 199 = .ok (.iadd, 1) := by decide +kernel
theorem dL_law_200 : decode cL_law 200 = .ok (.iaload, 1) := by decide +kernel
theorem dL_law_201 : decode cL_law 201 = .ok (.aload_n 0, 1) := by decide +kernel
theorem dL_law_202 : decode cL_law 202 = .ok (.iload 4, 2) := by decide +kernel
theorem dL_law_204 : decode cL_law 204 = .ok (.iconst 3, 1) := by decide +kernel
theorem dL_law_205 : decode cL_law 205 = .ok (.iadd, 1) := by decide +kernel
theorem dL_law_206 : decode cL_law 206 = .ok (.iaload, 1) := by decide +kernel
theorem dL_law_207 : decode cL_law 207 = .ok (.aload_n 0, 1) := by decide +kernel
theorem dL_law_208 : decode cL_law 208 = .ok (.iload 4, 2) := by decide +kernel
theorem dL_law_210 : decode cL_law 210 = .ok (.iconst 4, 1) := by decide +kernel
theorem dL_law_211 : decode cL_law 211 = .ok (.iadd, 1) := by decide +kernel
theorem dL_law_212 : decode cL_law 212 = .ok (.iaload, 1) := by decide +kernel
theorem dL_law_213 : decode cL_law 213 = .ok (.aload_n 0, 1) := by decide +kernel
theorem dL_law_214 : decode cL_law 214 = .ok (.iload 4, 2) := by decide +kernel
theorem dL_law_216 : decode cL_law 216 = .ok (.iconst 5, 1) := by decide +kernel
theorem dL_law_217 : decode cL_law 217 = .ok (.iadd, 1) := by decide +kernel
theorem dL_law_218 : decode cL_law 218 = .ok (.iaload, 1) := by decide +kernel
theorem dL_law_219 : decode cL_law 219 = .ok (.invokevirtual 88, 3) := by decide +kernel
theorem dL_law_222 : decode cL_law 222 = .ok (.aload_n 2, 1) := by decide +kernel
theorem dL_law_223 : decode cL_law 223 = .ok (.aload_n 0, 1) := by decide +kernel
theorem dL_law_224 : decode cL_law 224 = .ok (.iload 4, 2) := by decide +kernel
theorem dL_law_226 : decode cL_law 226 = .ok (.iconst 1, 1) := by decide +kernel
theorem dL_law_227 : decode cL_law 227 = .ok (.iadd, 1) := by decide +kernel
theorem dL_law_228 : decode cL_law 228 = .ok (.iaload, 1) := by decide +kernel
theorem dL_law_229 : decode cL_law 229 = .ok (.aload_n 0, 1) := by decide +kernel
theorem dL_law_230 : decode cL_law 230 = .ok (.iload 4, 2) := by decide +kernel
theorem dL_law_232 : decode cL_law 232 = .ok (.iconst 2, 1) := by decide +kernel
theorem dL_law_233 : decode cL_law 233 = .ok (.iadd, 1) := by decide +kernel
theorem dL_law_234 : decode cL_law 234 = .ok (.iaload, 1) := by decide +kernel
theorem dL_law_235 : decode cL_law 235 = .ok (.aload_n 0, 1) := by decide +kernel
theorem dL_law_236 : decode cL_law 236 = .ok (.iload 4, 2) := by decide +kernel
theorem dL_law_238 : decode cL_law 238 = .ok (.iconst 3, 1) := by decide +kernel
theorem dL_law_239 : decode cL_law 239 = .ok (.iadd, 1) := by decide +kernel
theorem dL_law_240 : decode cL_law 240 = .ok (.iaload, 1) := by decide +kernel
theorem dL_law_241 : decode cL_law 241 = .ok (.aload_n 0, 1) := by decide +kernel
theorem dL_law_242 : decode cL_law 242 = .ok (.iload 4, 2) := by decide +kernel
theorem dL_law_244 : decode cL_law 244 = .ok (.iconst 4, 1) := by decide +kernel
theorem dL_law_245 : decode cL_law 245 = .ok (.iadd, 1) := by decide +kernel
theorem dL_law_246 : decode cL_law 246 = .ok (.iaload, 1) := by decide +kernel
theorem dL_law_247 : decode cL_law 247 = .ok (.aload_n 0, 1) := by decide +kernel
theorem dL_law_248 : decode cL_law 248 = .ok (.iload 4, 2) := by decide +kernel
theorem dL_law_250 : decode cL_law 250 = .ok (.iconst 5, 1) := by decide +kernel
theorem dL_law_251 : decode cL_law 251 = .ok (.iadd, 1) := by decide +kernel
theorem dL_law_252 : decode cL_law 252 = .ok (.iaload, 1) := by decide +kernel
theorem dL_law_253 : decode cL_law 253 = .ok (.invokevirtual 92, 3) := by decide +kernel
theorem dL_law_256 : decode cL_law 256 = .ok (.if_icmp .eq 1396, 3) := by decide +kernel
theorem dL_law_259 : decode cL_law 259 = .ok (.iconst 0, 1) := by decide +kernel
theorem dL_law_260 : decode cL_law 260 = .ok (.ireturn, 1) := by decide +kernel
theorem dL_law_261 : decode cL_law 261 = .ok (.aload_n 1, 1) := by decide +kernel
theorem dL_law_262 : decode cL_law 262 = .ok (.aload_n 0, 1) := by decide +kernel
theorem dL_law_263 : decode cL_law 263 = .ok (.iload 4, 2) := by decide +kernel
theorem dL_law_265 : decode cL_law 265 = .ok (.iconst 1, 1) := by decide +kernel
theorem dL_law_266 : decode cL_law 266 = .ok (.iadd, 1) := by decide +kernel
theorem dL_law_267 : decode cL_law 267 = .ok (.iaload, 1) := by decide +kernel
theorem dL_law_268 : decode cL_law 268 = .ok (.aload_n 3, 1) := by decide +kernel
theorem dL_law_269 : decode cL_law 269 = .ok (.invokestatic 93, 3) := by decide +kernel
theorem dL_law_272 : decode cL_law 272 = .ok (.istore 5, 2) := by decide +kernel
theorem dL_law_274 : decode cL_law 274 = .ok (.aload_n 2, 1) := by decide +kernel
theorem dL_law_275 : decode cL_law 275 = .ok (.aload_n 0, 1) := by decide +kernel
theorem dL_law_276 : decode cL_law 276 = .ok (.iload 4, 2) := by decide +kernel
theorem dL_law_278 : decode cL_law 278 = .ok (.iconst 1, 1) := by decide +kernel
theorem dL_law_279 : decode cL_law 279 = .ok (.iadd, 1) := by decide +kernel
theorem dL_law_280 : decode cL_law 280 = .ok (.iaload, 1) := by decide +kernel
theorem dL_law_281 : decode cL_law 281 = .ok (.invokevirtual 98, 3) := by decide +kernel
theorem dL_law_284 : decode cL_law 284 = .ok (.istore 6, 2) := by decide +kernel
theorem dL_law_286 : decode cL_law 286 = .ok (.aload_n 2, 1) := by decide +kernel
theorem dL_law_287 : decode cL_law 287 = .ok (.invokevirtual 99, 3) := by decide +kernel
theorem dL_law_290 : decode cL_law 290 = .ok (.iload 5, 2) := by decide +kernel
theorem dL_law_292 : decode cL_law 292 = .ok (.if_icmp .eq 5, 3) := by decide +kernel
theorem dL_law_295 : decode cL_law 295 = .ok (.iconst 0, 1) := by decide +kernel
theorem dL_law_296 : decode cL_law 296 = .ok (.ireturn, 1) := by decide +kernel
theorem dL_law_297 : decode cL_law 297 = .ok (.iload 5, 2) := by decide +kernel
theorem dL_law_299 : decode cL_law 299 = .ok (.ifCond .ne 15, 3) := by decide +kernel
theorem dL_law_302 : decode cL_law 302 = .ok (.aload_n 3, 1) := by decide +kernel
theorem dL_law_303 : decode cL_law 303 = .ok (.iconst 0, 1) := by decide +kernel
theorem dL_law_304 : decode cL_law 304 = .ok (.laload, 1) := by decide +kernel
theorem dL_law_305 : decode cL_law 305 = .ok (.iload 6, 2) := by decide +kernel
theorem dL_law_307 : decode cL_law 307 = .ok (.i2l, 1) := by decide +kernel
theorem dL_law_308 : decode cL_law 308 = .ok (.lcmp, 1) := by decide +kernel
theorem dL_law_309 : decode cL_law 309 = .ok (.ifCond .eq 5, 3) := by decide +kernel
theorem dL_law_312 : decode cL_law 312 = .ok (.iconst 0, 1) := by decide +kernel
theorem dL_law_313 : decode cL_law 313 = .ok (.ireturn, 1) := by decide +kernel
theorem dL_law_314 : decode cL_law 314 = .ok (.goto 1338, 3) := by decide +kernel
theorem dL_law_317 : decode cL_law 317 = .ok (.aload_n 1, 1) := by decide +kernel
theorem dL_law_318 : decode cL_law 318 = .ok (.invokevirtual 103, 3) := by decide +kernel
theorem dL_law_321 : decode cL_law 321 = .ok (.aload_n 2, 1) := by decide +kernel
theorem dL_law_322 : decode cL_law 322 = .ok (.invokevirtual 106, 3) := by decide +kernel
theorem dL_law_325 : decode cL_law 325 = .ok (.if_icmp .eq 1327, 3) := by decide +kernel
theorem dL_law_328 : decode cL_law 328 = .ok (.iconst 0, 1) := by decide +kernel
theorem dL_law_329 : decode cL_law 329 = .ok (.ireturn, 1) := by decide +kernel
theorem dL_law_330 : decode cL_law 330 = .ok (.aload_n 1, 1) := by decide +kernel
theorem dL_law_331 : decode cL_law 331 = .ok (.invokevirtual 107, 3) := by decide +kernel
theorem dL_law_334 : decode cL_law 334 = .ok (.aload_n 2, 1) := by decide +kernel
theorem dL_law_335 : decode cL_law 335 = .ok (.invokevirtual 110, 3) := by decide +kernel
theorem dL_law_338 : decode cL_law 338 = .ok (.if_icmp .eq 1314, 3) := by decide +kernel
theorem dL_law_341 : decode cL_law 341 = .ok (.iconst 0, 1) := by decide +kernel
theorem dL_law_342 : decode cL_law 342 = .ok (.ireturn, 1) := by decide +kernel
theorem dL_law_343 : decode cL_law 343 = .ok (.aload_n 1, 1) := by decide +kernel
theorem dL_law_344 : decode cL_law 344 = .ok (.invokevirtual 111, 3) := by decide +kernel
theorem dL_law_347 : decode cL_law 347 = .ok (.aload_n 2, 1) := by decide +kernel
theorem dL_law_348 : decode cL_law 348 = .ok (.invokevirtual 114, 3) := by decide +kernel
theorem dL_law_351 : decode cL_law 351 = .ok (.if_icmp .eq 1301, 3) := by decide +kernel
theorem dL_law_354 : decode cL_law 354 = .ok (.iconst 0, 1) := by decide +kernel
theorem dL_law_355 : decode cL_law 355 = .ok (.ireturn, 1) := by decide +kernel
theorem dL_law_356 : decode cL_law 356 = .ok (.aload_n 1, 1) := by decide +kernel
theorem dL_law_357 : decode cL_law 357 = .ok (.aload_n 0, 1) := by decide +kernel
theorem dL_law_358 : decode cL_law 358 = .ok (.iload 4, 2) := by decide +kernel
theorem dL_law_360 : decode cL_law 360 = .ok (.iconst 1, 1) := by decide +kernel
theorem dL_law_361 : decode cL_law 361 = .ok (.iadd, 1) := by decide +kernel
theorem dL_law_362 : decode cL_law 362 = .ok (.iaload, 1) := by decide +kernel
theorem dL_law_363 : decode cL_law 363 = .ok (.aload_n 3, 1) := by decide +kernel
theorem dL_law_364 : decode cL_law 364 = .ok (.invokestatic 115, 3) := by decide +kernel
theorem dL_law_367 : decode cL_law 367 = .ok (.istore 5, 2) := by decide +kernel
theorem dL_law_369 : decode cL_law 369 = .ok (.aload_n 2, 1) := by decide +kernel
theorem dL_law_370 : decode cL_law 370 = .ok (.aload_n 0, 1) := by decide +kernel
theorem dL_law_371 : decode cL_law 371 = .ok (.iload 4, 2) := by decide +kernel
theorem dL_law_373 : decode cL_law 373 = .ok (.iconst 1, 1) := by decide +kernel
theorem dL_law_374 : decode cL_law 374 = .ok (.iadd, 1) := by decide +kernel
theorem dL_law_375 : decode cL_law 375 = .ok (.iaload, 1) := by decide +kernel
theorem dL_law_376 : decode cL_law 376 = .ok (.invokevirtual 117, 3) := by decide +kernel
theorem dL_law_379 : decode cL_law 379 = .ok (.istore 6, 2) := by decide +kernel
theorem dL_law_381 : decode cL_law 381 = .ok (.aload_n 2, 1) := by decide +kernel
theorem dL_law_382 : decode cL_law 382 = .ok (.invokevirtual 99, 3) := by decide +kernel
theorem dL_law_385 : decode cL_law 385 = .ok (.iload 5, 2) := by decide +kernel
theorem dL_law_387 : decode cL_law 387 = .ok (.if_icmp .eq 5, 3) := by decide +kernel
theorem dL_law_390 : decode cL_law 390 = .ok (.iconst 0, 1) := by decide +kernel
theorem dL_law_391 : decode cL_law 391 = .ok (.ireturn, 1) := by decide +kernel
theorem dL_law_392 : decode cL_law 392 = .ok (.iload 5, 2) := by decide +kernel
theorem dL_law_394 : decode cL_law 394 = .ok (.ifCond .ne 15, 3) := by decide +kernel
theorem dL_law_397 : decode cL_law 397 = .ok (.aload_n 3, 1) := by decide +kernel
theorem dL_law_398 : decode cL_law 398 = .ok (.iconst 0, 1) := by decide +kernel
theorem dL_law_399 : decode cL_law 399 = .ok (.laload, 1) := by decide +kernel
theorem dL_law_400 : decode cL_law 400 = .ok (.iload 6, 2) := by decide +kernel
theorem dL_law_402 : decode cL_law 402 = .ok (.i2l, 1) := by decide +kernel
theorem dL_law_403 : decode cL_law 403 = .ok (.lcmp, 1) := by decide +kernel
theorem dL_law_404 : decode cL_law 404 = .ok (.ifCond .eq 5, 3) := by decide +kernel
theorem dL_law_407 : decode cL_law 407 = .ok (.iconst 0, 1) := by decide +kernel
theorem dL_law_408 : decode cL_law 408 = .ok (.ireturn, 1) := by decide +kernel
theorem dL_law_409 : decode cL_law 409 = .ok (.goto 1243, 3) := by decide +kernel
theorem dL_law_412 : decode cL_law 412 = .ok (.aload_n 1, 1) := by decide +kernel
theorem dL_law_413 : decode cL_law 413 = .ok (.aload_n 0, 1) := by decide +kernel
theorem dL_law_414 : decode cL_law 414 = .ok (.iload 4, 2) := by decide +kernel
theorem dL_law_416 : decode cL_law 416 = .ok (.iconst 1, 1) := by decide +kernel
theorem dL_law_417 : decode cL_law 417 = .ok (.iadd, 1) := by decide +kernel
theorem dL_law_418 : decode cL_law 418 = .ok (.iaload, 1) := by decide +kernel
theorem dL_law_419 : decode cL_law 419 = .ok (.aload_n 3, 1) := by decide +kernel
theorem dL_law_420 : decode cL_law 420 = .ok (.invokestatic 118, 3) := by decide +kernel
theorem dL_law_423 : decode cL_law 423 = .ok (.istore 5, 2) := by decide +kernel
theorem dL_law_425 : decode cL_law 425 = .ok (.aload_n 2, 1) := by decide +kernel
theorem dL_law_426 : decode cL_law 426 = .ok (.aload_n 0, 1) := by decide +kernel
theorem dL_law_427 : decode cL_law 427 = .ok (.iload 4, 2) := by decide +kernel
theorem dL_law_429 : decode cL_law 429 = .ok (.iconst 1, 1) := by decide +kernel
theorem dL_law_430 : decode cL_law 430 = .ok (.iadd, 1) := by decide +kernel
theorem dL_law_431 : decode cL_law 431 = .ok (.iaload, 1) := by decide +kernel
theorem dL_law_432 : decode cL_law 432 = .ok (.invokevirtual 120, 3) := by decide +kernel
theorem dL_law_435 : decode cL_law 435 = .ok (.istore 6, 2) := by decide +kernel
theorem dL_law_437 : decode cL_law 437 = .ok (.aload_n 2, 1) := by decide +kernel
theorem dL_law_438 : decode cL_law 438 = .ok (.invokevirtual 99, 3) := by decide +kernel
theorem dL_law_441 : decode cL_law 441 = .ok (.iload 5, 2) := by decide +kernel
theorem dL_law_443 : decode cL_law 443 = .ok (.if_icmp .eq 5, 3) := by decide +kernel
theorem dL_law_446 : decode cL_law 446 = .ok (.iconst 0, 1) := by decide +kernel
theorem dL_law_447 : decode cL_law 447 = .ok (.ireturn, 1) := by decide +kernel
theorem dL_law_448 : decode cL_law 448 = .ok (.iload 5, 2) := by decide +kernel
theorem dL_law_450 : decode cL_law 450 = .ok (.ifCond .ne 15, 3) := by decide +kernel
theorem dL_law_453 : decode cL_law 453 = .ok (.aload_n 3, 1) := by decide +kernel
theorem dL_law_454 : decode cL_law 454 = .ok (.iconst 0, 1) := by decide +kernel
theorem dL_law_455 : decode cL_law 455 = .ok (.laload, 1) := by decide +kernel
theorem dL_law_456 : decode cL_law 456 = .ok (.iload 6, 2) := by decide +kernel
theorem dL_law_458 : decode cL_law 458 = .ok (.i2l, 1) := by decide +kernel
theorem dL_law_459 : decode cL_law 459 = .ok (.lcmp, 1) := by decide +kernel
theorem dL_law_460 : decode cL_law 460 = .ok (.ifCond .eq 5, 3) := by decide +kernel
theorem dL_law_463 : decode cL_law 463 = .ok (.iconst 0, 1) := by decide +kernel
theorem dL_law_464 : decode cL_law 464 = .ok (.ireturn, 1) := by decide +kernel
theorem dL_law_465 : decode cL_law 465 = .ok (.goto 1187, 3) := by decide +kernel
theorem dL_law_468 : decode cL_law 468 = .ok (.aload_n 1, 1) := by decide +kernel
theorem dL_law_469 : decode cL_law 469 = .ok (.aload_n 0, 1) := by decide +kernel
theorem dL_law_470 : decode cL_law 470 = .ok (.iload 4, 2) := by decide +kernel
theorem dL_law_472 : decode cL_law 472 = .ok (.iconst 1, 1) := by decide +kernel
theorem dL_law_473 : decode cL_law 473 = .ok (.iadd, 1) := by decide +kernel
theorem dL_law_474 : decode cL_law 474 = .ok (.iaload, 1) := by decide +kernel
theorem dL_law_475 : decode cL_law 475 = .ok (.aload_n 3, 1) := by decide +kernel
theorem dL_law_476 : decode cL_law 476 = .ok (.invokestatic 121, 3) := by decide +kernel
theorem dL_law_479 : decode cL_law 479 = .ok (.istore 5, 2) := by decide +kernel
theorem dL_law_481 : decode cL_law 481 = .ok (.aload_n 2, 1) := by decide +kernel
theorem dL_law_482 : decode cL_law 482 = .ok (.aload_n 0, 1) := by decide +kernel
theorem dL_law_483 : decode cL_law 483 = .ok (.iload 4, 2) := by decide +kernel
theorem dL_law_485 : decode cL_law 485 = .ok (.iconst 1, 1) := by decide +kernel
theorem dL_law_486 : decode cL_law 486 = .ok (.iadd, 1) := by decide +kernel
theorem dL_law_487 : decode cL_law 487 = .ok (.iaload, 1) := by decide +kernel
theorem dL_law_488 : decode cL_law 488 = .ok (.invokevirtual 123, 3) := by decide +kernel
theorem dL_law_491 : decode cL_law 491 = .ok (.istore 6, 2) := by decide +kernel
theorem dL_law_493 : decode cL_law 493 = .ok (.aload_n 2, 1) := by decide +kernel
theorem dL_law_494 : decode cL_law 494 = .ok (.invokevirtual 99, 3) := by decide +kernel
theorem dL_law_497 : decode cL_law 497 = .ok (.iload 5, 2) := by decide +kernel
theorem dL_law_499 : decode cL_law 499 = .ok (.if_icmp .eq 5, 3) := by decide +kernel
theorem dL_law_502 : decode cL_law 502 = .ok (.iconst 0, 1) := by decide +kernel
theorem dL_law_503 : decode cL_law 503 = .ok (.ireturn, 1) := by decide +kernel
theorem dL_law_504 : decode cL_law 504 = .ok (.iload 5, 2) := by decide +kernel
theorem dL_law_506 : decode cL_law 506 = .ok (.ifCond .ne 15, 3) := by decide +kernel
theorem dL_law_509 : decode cL_law 509 = .ok (.aload_n 3, 1) := by decide +kernel
theorem dL_law_510 : decode cL_law 510 = .ok (.iconst 0, 1) := by decide +kernel
theorem dL_law_511 : decode cL_law 511 = .ok (.laload, 1) := by decide +kernel
theorem dL_law_512 : decode cL_law 512 = .ok (.iload 6, 2) := by decide +kernel
theorem dL_law_514 : decode cL_law 514 = .ok (.i2l, 1) := by decide +kernel
theorem dL_law_515 : decode cL_law 515 = .ok (.lcmp, 1) := by decide +kernel
theorem dL_law_516 : decode cL_law 516 = .ok (.ifCond .eq 5, 3) := by decide +kernel
theorem dL_law_519 : decode cL_law 519 = .ok (.iconst 0, 1) := by decide +kernel
theorem dL_law_520 : decode cL_law 520 = .ok (.ireturn, 1) := by decide +kernel
theorem dL_law_521 : decode cL_law 521 = .ok (.goto 1131, 3) := by decide +kernel
theorem dL_law_524 : decode cL_law 524 = .ok (.aload_n 1, 1) := by decide +kernel
theorem dL_law_525 : decode cL_law 525 = .ok (.aload_n 0, 1) := by decide +kernel
theorem dL_law_526 : decode cL_law 526 = .ok (.iload 4, 2) := by decide +kernel
theorem dL_law_528 : decode cL_law 528 = .ok (.iconst 1, 1) := by decide +kernel
theorem dL_law_529 : decode cL_law 529 = .ok (.iadd, 1) := by decide +kernel
theorem dL_law_530 : decode cL_law 530 = .ok (.iaload, 1) := by decide +kernel
theorem dL_law_531 : decode cL_law 531 = .ok (.aload_n 3, 1) := by decide +kernel
theorem dL_law_532 : decode cL_law 532 = .ok (.invokestatic 124, 3) := by decide +kernel
theorem dL_law_535 : decode cL_law 535 = .ok (.istore 5, 2) := by decide +kernel
theorem dL_law_537 : decode cL_law 537 = .ok (.aload_n 2, 1) := by decide +kernel
theorem dL_law_538 : decode cL_law 538 = .ok (.aload_n 0, 1) := by decide +kernel
theorem dL_law_539 : decode cL_law 539 = .ok (.iload 4, 2) := by decide +kernel
theorem dL_law_541 : decode cL_law 541 = .ok (.iconst 1, 1) := by decide +kernel
theorem dL_law_542 : decode cL_law 542 = .ok (.iadd, 1) := by decide +kernel
theorem dL_law_543 : decode cL_law 543 = .ok (.iaload, 1) := by decide +kernel
theorem dL_law_544 : decode cL_law 544 = .ok (.invokevirtual 126, 3) := by decide +kernel
theorem dL_law_547 : decode cL_law 547 = .ok (.istore 6, 2) := by decide +kernel
theorem dL_law_549 : decode cL_law 549 = .ok (.aload_n 2, 1) := by decide +kernel
theorem dL_law_550 : decode cL_law 550 = .ok (.invokevirtual 99, 3) := by decide +kernel
theorem dL_law_553 : decode cL_law 553 = .ok (.iload 5, 2) := by decide +kernel
theorem dL_law_555 : decode cL_law 555 = .ok (.if_icmp .eq 5, 3) := by decide +kernel
theorem dL_law_558 : decode cL_law 558 = .ok (.iconst 0, 1) := by decide +kernel
theorem dL_law_559 : decode cL_law 559 = .ok (.ireturn, 1) := by decide +kernel
theorem dL_law_560 : decode cL_law 560 = .ok (.iload 5, 2) := by decide +kernel
theorem dL_law_562 : decode cL_law 562 = .ok (.ifCond .ne 15, 3) := by decide +kernel
theorem dL_law_565 : decode cL_law 565 = .ok (.aload_n 3, 1) := by decide +kernel
theorem dL_law_566 : decode cL_law 566 = .ok (.iconst 0, 1) := by decide +kernel
theorem dL_law_567 : decode cL_law 567 = .ok (.laload, 1) := by decide +kernel
theorem dL_law_568 : decode cL_law 568 = .ok (.iload 6, 2) := by decide +kernel
theorem dL_law_570 : decode cL_law 570 = .ok (.i2l, 1) := by decide +kernel
theorem dL_law_571 : decode cL_law 571 = .ok (.lcmp, 1) := by decide +kernel
theorem dL_law_572 : decode cL_law 572 = .ok (.ifCond .eq 5, 3) := by decide +kernel
theorem dL_law_575 : decode cL_law 575 = .ok (.iconst 0, 1) := by decide +kernel
theorem dL_law_576 : decode cL_law 576 = .ok (.ireturn, 1) := by decide +kernel
theorem dL_law_577 : decode cL_law 577 = .ok (.goto 1075, 3) := by decide +kernel
theorem dL_law_580 : decode cL_law 580 = .ok (.aload_n 1, 1) := by decide +kernel
theorem dL_law_581 : decode cL_law 581 = .ok (.aload_n 0, 1) := by decide +kernel
theorem dL_law_582 : decode cL_law 582 = .ok (.iload 4, 2) := by decide +kernel
theorem dL_law_584 : decode cL_law 584 = .ok (.iconst 1, 1) := by decide +kernel
theorem dL_law_585 : decode cL_law 585 = .ok (.iadd, 1) := by decide +kernel
theorem dL_law_586 : decode cL_law 586 = .ok (.iaload, 1) := by decide +kernel
theorem dL_law_587 : decode cL_law 587 = .ok (.aload_n 3, 1) := by decide +kernel
theorem dL_law_588 : decode cL_law 588 = .ok (.invokestatic 127, 3) := by decide +kernel
theorem dL_law_591 : decode cL_law 591 = .ok (.istore 5, 2) := by decide +kernel
theorem dL_law_593 : decode cL_law 593 = .ok (.aload_n 2, 1) := by decide +kernel
theorem dL_law_594 : decode cL_law 594 = .ok (.aload_n 0, 1) := by decide +kernel
theorem dL_law_595 : decode cL_law 595 = .ok (.iload 4, 2) := by decide +kernel
theorem dL_law_597 : decode cL_law 597 = .ok (.iconst 1, 1) := by decide +kernel
theorem dL_law_598 : decode cL_law 598 = .ok (.iadd, 1) := by decide +kernel
theorem dL_law_599 : decode cL_law 599 = .ok (.iaload, 1) := by decide +kernel
theorem dL_law_600 : decode cL_law 600 = .ok (.invokevirtual 129, 3) := by decide +kernel
theorem dL_law_603 : decode cL_law 603 = .ok (.istore 6, 2) := by decide +kernel
theorem dL_law_605 : decode cL_law 605 = .ok (.aload_n 2, 1) := by decide +kernel
theorem dL_law_606 : decode cL_law 606 = .ok (.invokevirtual 99, 3) := by decide +kernel
theorem dL_law_609 : decode cL_law 609 = .ok (.iload 5, 2) := by decide +kernel
theorem dL_law_611 : decode cL_law 611 = .ok (.if_icmp .eq 5, 3) := by decide +kernel
theorem dL_law_614 : decode cL_law 614 = .ok (.iconst 0, 1) := by decide +kernel
theorem dL_law_615 : decode cL_law 615 = .ok (.ireturn, 1) := by decide +kernel
theorem dL_law_616 : decode cL_law 616 = .ok (.iload 5, 2) := by decide +kernel
theorem dL_law_618 : decode cL_law 618 = .ok (.ifCond .ne 15, 3) := by decide +kernel
theorem dL_law_621 : decode cL_law 621 = .ok (.aload_n 3, 1) := by decide +kernel
theorem dL_law_622 : decode cL_law 622 = .ok (.iconst 0, 1) := by decide +kernel
theorem dL_law_623 : decode cL_law 623 = .ok (.laload, 1) := by decide +kernel
theorem dL_law_624 : decode cL_law 624 = .ok (.iload 6, 2) := by decide +kernel
theorem dL_law_626 : decode cL_law 626 = .ok (.i2l, 1) := by decide +kernel
theorem dL_law_627 : decode cL_law 627 = .ok (.lcmp, 1) := by decide +kernel
theorem dL_law_628 : decode cL_law 628 = .ok (.ifCond .eq 5, 3) := by decide +kernel
theorem dL_law_631 : decode cL_law 631 = .ok (.iconst 0, 1) := by decide +kernel
theorem dL_law_632 : decode cL_law 632 = .ok (.ireturn, 1) := by decide +kernel
theorem dL_law_633 : decode cL_law 633 = .ok (.goto 1019, 3) := by decide +kernel
theorem dL_law_636 : decode cL_law 636 = .ok (.aload_n 1, 1) := by decide +kernel
theorem dL_law_637 : decode cL_law 637 = .ok (.aload_n 0, 1) := by decide +kernel
theorem dL_law_638 : decode cL_law 638 = .ok (.iload 4, 2) := by decide +kernel
theorem dL_law_640 : decode cL_law 640 = .ok (.iconst 1, 1) := by decide +kernel
theorem dL_law_641 : decode cL_law 641 = .ok (.iadd, 1) := by decide +kernel
theorem dL_law_642 : decode cL_law 642 = .ok (.iaload, 1) := by decide +kernel
theorem dL_law_643 : decode cL_law 643 = .ok (.aload_n 3, 1) := by decide +kernel
theorem dL_law_644 : decode cL_law 644 = .ok (.invokestatic 130, 3) := by decide +kernel
theorem dL_law_647 : decode cL_law 647 = .ok (.istore 5, 2) := by decide +kernel
theorem dL_law_649 : decode cL_law 649 = .ok (.aload_n 2, 1) := by decide +kernel
theorem dL_law_650 : decode cL_law 650 = .ok (.aload_n 0, 1) := by decide +kernel
theorem dL_law_651 : decode cL_law 651 = .ok (.iload 4, 2) := by decide +kernel
theorem dL_law_653 : decode cL_law 653 = .ok (.iconst 1, 1) := by decide +kernel
theorem dL_law_654 : decode cL_law 654 = .ok (.iadd, 1) := by decide +kernel
theorem dL_law_655 : decode cL_law 655 = .ok (.iaload, 1) := by decide +kernel
theorem dL_law_656 : decode cL_law 656 = .ok (.invokevirtual 132, 3) := by decide +kernel
theorem dL_law_659 : decode cL_law 659 = .ok (.lstore 6, 2) := by decide +kernel
theorem dL_law_661 : decode cL_law 661 = .ok (.aload_n 2, 1) := by decide +kernel
theorem dL_law_662 : decode cL_law 662 = .ok (.invokevirtual 99, 3) := by decide +kernel
theorem dL_law_665 : decode cL_law 665 = .ok (.iload 5, 2) := by decide +kernel
theorem dL_law_667 : decode cL_law 667 = .ok (.if_icmp .eq 5, 3) := by decide +kernel
theorem dL_law_670 : decode cL_law 670 = .ok (.iconst 0, 1) := by decide +kernel
theorem dL_law_671 : decode cL_law 671 = .ok (.ireturn, 1) := by decide +kernel
theorem dL_law_672 : decode cL_law 672 = .ok (.iload 5, 2) := by decide +kernel
theorem dL_law_674 : decode cL_law 674 = .ok (.ifCond .ne 14, 3) := by decide +kernel
theorem dL_law_677 : decode cL_law 677 = .ok (.aload_n 3, 1) := by decide +kernel
theorem dL_law_678 : decode cL_law 678 = .ok (.iconst 0, 1) := by decide +kernel
theorem dL_law_679 : decode cL_law 679 = .ok (.laload, 1) := by decide +kernel
theorem dL_law_680 : decode cL_law 680 = .ok (.lload 6, 2) := by decide +kernel
theorem dL_law_682 : decode cL_law 682 = .ok (.lcmp, 1) := by decide +kernel
theorem dL_law_683 : decode cL_law 683 = .ok (.ifCond .eq 5, 3) := by decide +kernel
theorem dL_law_686 : decode cL_law 686 = .ok (.iconst 0, 1) := by decide +kernel
theorem dL_law_687 : decode cL_law 687 = .ok (.ireturn, 1) := by decide +kernel
theorem dL_law_688 : decode cL_law 688 = .ok (.goto 964, 3) := by decide +kernel
theorem dL_law_691 : decode cL_law 691 = .ok (.aload_n 1, 1) := by decide +kernel
theorem dL_law_692 : decode cL_law 692 = .ok (.invokevirtual 133, 3) := by decide +kernel
theorem dL_law_695 : decode cL_law 695 = .ok (.aload_n 2, 1) := by decide +kernel
theorem dL_law_696 : decode cL_law 696 = .ok (.invokevirtual 136, 3) := by decide +kernel
theorem dL_law_699 : decode cL_law 699 = .ok (.lcmp, 1) := by decide +kernel
theorem dL_law_700 : decode cL_law 700 = .ok (.ifCond .eq 952, 3) := by decide +kernel
theorem dL_law_703 : decode cL_law 703 = .ok (.iconst 0, 1) := by decide +kernel
theorem dL_law_704 : decode cL_law 704 = .ok (.ireturn, 1) := by decide +kernel
theorem dL_law_705 : decode cL_law 705 = .ok (.aload_n 1, 1) := by decide +kernel
theorem dL_law_706 : decode cL_law 706 = .ok (.aload_n 0, 1) := by decide +kernel
theorem dL_law_707 : decode cL_law 707 = .ok (.iload 4, 2) := by decide +kernel
theorem dL_law_709 : decode cL_law 709 = .ok (.iconst 1, 1) := by decide +kernel
theorem dL_law_710 : decode cL_law 710 = .ok (.iadd, 1) := by decide +kernel
theorem dL_law_711 : decode cL_law 711 = .ok (.iaload, 1) := by decide +kernel
theorem dL_law_712 : decode cL_law 712 = .ok (.aload_n 3, 1) := by decide +kernel
theorem dL_law_713 : decode cL_law 713 = .ok (.invokestatic 137, 3) := by decide +kernel
theorem dL_law_716 : decode cL_law 716 = .ok (.istore 5, 2) := by decide +kernel
theorem dL_law_718 : decode cL_law 718 = .ok (.aload_n 2, 1) := by decide +kernel
theorem dL_law_719 : decode cL_law 719 = .ok (.aload_n 0, 1) := by decide +kernel
theorem dL_law_720 : decode cL_law 720 = .ok (.iload 4, 2) := by decide +kernel
theorem dL_law_722 : decode cL_law 722 = .ok (.iconst 1, 1) := by decide +kernel
theorem dL_law_723 : decode cL_law 723 = .ok (.iadd, 1) := by decide +kernel
theorem dL_law_724 : decode cL_law 724 = .ok (.iaload, 1) := by decide +kernel
theorem dL_law_725 : decode cL_law 725 = .ok (.invokevirtual 139, 3) := by decide +kernel
theorem dL_law_728 : decode cL_law 728 = .ok (.istore 6, 2) := by decide +kernel
theorem dL_law_730 : decode cL_law 730 = .ok (.aload_n 2, 1) := by decide +kernel
theorem dL_law_731 : decode cL_law 731 = .ok (.invokevirtual 99, 3) := by decide +kernel
theorem dL_law_734 : decode cL_law 734 = .ok (.iload 5, 2) := by decide +kernel
theorem dL_law_736 : decode cL_law 736 = .ok (.if_icmp .eq 5, 3) := by decide +kernel
theorem dL_law_739 : decode cL_law 739 = .ok (.iconst 0, 1) := by decide +kernel
theorem dL_law_740 : decode cL_law 740 = .ok (.ireturn, 1) := by decide +kernel
theorem dL_law_741 : decode cL_law 741 = .ok (.iload 5, 2) := by decide +kernel
theorem dL_law_743 : decode cL_law 743 = .ok (.ifCond .ne 15, 3) := by decide +kernel
theorem dL_law_746 : decode cL_law 746 = .ok (.aload_n 3, 1) := by decide +kernel
theorem dL_law_747 : decode cL_law 747 = .ok (.iconst 0, 1) := by decide +kernel
theorem dL_law_748 : decode cL_law 748 = .ok (.laload, 1) := by decide +kernel
theorem dL_law_749 : decode cL_law 749 = .ok (.iload 6, 2) := by decide +kernel
theorem dL_law_751 : decode cL_law 751 = .ok (.i2l, 1) := by decide +kernel
theorem dL_law_752 : decode cL_law 752 = .ok (.lcmp, 1) := by decide +kernel
theorem dL_law_753 : decode cL_law 753 = .ok (.ifCond .eq 5, 3) := by decide +kernel
theorem dL_law_756 : decode cL_law 756 = .ok (.iconst 0, 1) := by decide +kernel
theorem dL_law_757 : decode cL_law 757 = .ok (.ireturn, 1) := by decide +kernel
theorem dL_law_758 : decode cL_law 758 = .ok (.goto 894, 3) := by decide +kernel
theorem dL_law_761 : decode cL_law 761 = .ok (.aload_n 1, 1) := by decide +kernel
theorem dL_law_762 : decode cL_law 762 = .ok (.aload_n 0, 1) := by decide +kernel
theorem dL_law_763 : decode cL_law 763 = .ok (.iload 4, 2) := by decide +kernel
theorem dL_law_765 : decode cL_law 765 = .ok (.iconst 1, 1) := by decide +kernel
theorem dL_law_766 : decode cL_law 766 = .ok (.iadd, 1) := by decide +kernel
theorem dL_law_767 : decode cL_law 767 = .ok (.iaload, 1) := by decide +kernel
theorem dL_law_768 : decode cL_law 768 = .ok (.aload_n 0, 1) := by decide +kernel
theorem dL_law_769 : decode cL_law 769 = .ok (.iload 4, 2) := by decide +kernel
theorem dL_law_771 : decode cL_law 771 = .ok (.iconst 2, 1) := by decide +kernel
theorem dL_law_772 : decode cL_law 772 = .ok (.iadd, 1) := by decide +kernel
theorem dL_law_773 : decode cL_law 773 = .ok (.iaload, 1) := by decide +kernel
theorem dL_law_774 : decode cL_law 774 = .ok (.aload_n 0, 1) := by decide +kernel
theorem dL_law_775 : decode cL_law 775 = .ok (.iload 4, 2) := by decide +kernel
theorem dL_law_777 : decode cL_law 777 = .ok (.iconst 3, 1) := by decide +kernel
theorem dL_law_778 : decode cL_law 778 = .ok (.iadd, 1) := by decide +kernel
theorem dL_law_779 : decode cL_law 779 = .ok (.iaload, 1) := by decide +kernel
theorem dL_law_780 : decode cL_law 780 = .ok (.ifCond .eq 7, 3) := by decide +kernel
theorem dL_law_783 : decode cL_law 783 = .ok (.iconst 1, 1) := by decide +kernel
theorem dL_law_784 : decode cL_law 784 = .ok (.goto 4, 3) := by decide +kernel
theorem dL_law_787 : decode cL_law 787 = .ok (.iconst 0, 1) := by decide +kernel
theorem dL_law_788 : decode cL_law 788 = .ok (.aload_n 3, 1) := by decide +kernel
theorem dL_law_789 : decode cL_law 789 = .ok (.invokestatic 140, 3) := by decide +kernel
theorem dL_law_792 : decode cL_law 792 = .ok (.istore 5, 2) := by decide +kernel
theorem dL_law_794 : decode cL_law 794 = .ok (.aload_n 2, 1) := by decide +kernel
theorem dL_law_795 : decode cL_law 795 = .ok (.aload_n 0, 1) := by decide +kernel
theorem dL_law_796 : decode cL_law 796 = .ok (.iload 4, 2) := by decide +kernel
theorem dL_law_798 : decode cL_law 798 = .ok (.iconst 1, 1) := by decide +kernel
theorem dL_law_799 : decode cL_law 799 = .ok (.iadd, 1) := by decide +kernel
theorem dL_law_800 : decode cL_law 800 = .ok (.iaload, 1) := by decide +kernel
theorem dL_law_801 : decode cL_law 801 = .ok (.aload_n 0, 1) := by decide +kernel
theorem dL_law_802 : decode cL_law 802 = .ok (.iload 4, 2) := by decide +kernel
theorem dL_law_804 : decode cL_law 804 = .ok (.iconst 2, 1) := by decide +kernel
theorem dL_law_805 : decode cL_law 805 = .ok (.iadd, 1) := by decide +kernel
theorem dL_law_806 : decode cL_law 806 = .ok (.iaload, 1) := by decide +kernel
theorem dL_law_807 : decode cL_law 807 = .ok (.aload_n 0, 1) := by decide +kernel
theorem dL_law_808 : decode cL_law 808 = .ok (.iload 4, 2) := by decide +kernel
theorem dL_law_810 : decode cL_law 810 = .ok (.iconst 3, 1) := by decide +kernel
theorem dL_law_811 : decode cL_law 811 = .ok (.iadd, 1) := by decide +kernel
theorem dL_law_812 : decode cL_law 812 = .ok (.iaload, 1) := by decide +kernel
theorem dL_law_813 : decode cL_law 813 = .ok (.ifCond .eq 7, 3) := by decide +kernel
theorem dL_law_816 : decode cL_law 816 = .ok (.iconst 1, 1) := by decide +kernel
theorem dL_law_817 : decode cL_law 817 = .ok (.goto 4, 3) := by decide +kernel
theorem dL_law_820 : decode cL_law 820 = .ok (.iconst 0, 1) := by decide +kernel
theorem dL_law_821 : decode cL_law 821 = .ok (.invokevirtual 143, 3) := by decide +kernel
theorem dL_law_824 : decode cL_law 824 = .ok (.istore 6, 2) := by decide +kernel
theorem dL_law_826 : decode cL_law 826 = .ok (.aload_n 2, 1) := by decide +kernel
theorem dL_law_827 : decode cL_law 827 = .ok (.invokevirtual 99, 3) := by decide +kernel
theorem dL_law_830 : decode cL_law 830 = .ok (.iload 5, 2) := by decide +kernel
theorem dL_law_832 : decode cL_law 832 = .ok (.if_icmp .eq 5, 3) := by decide +kernel
theorem dL_law_835 : decode cL_law 835 = .ok (.iconst 0, 1) := by decide +kernel
theorem dL_law_836 : decode cL_law 836 = .ok (.ireturn, 1) := by decide +kernel
theorem dL_law_837 : decode cL_law 837 = .ok (.iload 5, 2) := by decide +kernel
theorem dL_law_839 : decode cL_law 839 = .ok (.ifCond .ne 15, 3) := by decide +kernel
theorem dL_law_842 : decode cL_law 842 = .ok (.aload_n 3, 1) := by decide +kernel
theorem dL_law_843 : decode cL_law 843 = .ok (.iconst 0, 1) := by decide +kernel
theorem dL_law_844 : decode cL_law 844 = .ok (.laload, 1) := by decide +kernel
theorem dL_law_845 : decode cL_law 845 = .ok (.iload 6, 2) := by decide +kernel
theorem dL_law_847 : decode cL_law 847 = .ok (.i2l, 1) := by decide +kernel
theorem dL_law_848 : decode cL_law 848 = .ok (.lcmp, 1) := by decide +kernel
theorem dL_law_849 : decode cL_law 849 = .ok (.ifCond .eq 5, 3) := by decide +kernel
theorem dL_law_852 : decode cL_law 852 = .ok (.iconst 0, 1) := by decide +kernel
theorem dL_law_853 : decode cL_law 853 = .ok (.ireturn, 1) := by decide +kernel
theorem dL_law_854 : decode cL_law 854 = .ok (.goto 798, 3) := by decide +kernel
theorem dL_law_857 : decode cL_law 857 = .ok (.aload_n 1, 1) := by decide +kernel
theorem dL_law_858 : decode cL_law 858 = .ok (.aload_n 0, 1) := by decide +kernel
theorem dL_law_859 : decode cL_law 859 = .ok (.iload 4, 2) := by decide +kernel
theorem dL_law_861 : decode cL_law 861 = .ok (.iconst 1, 1) := by decide +kernel
theorem dL_law_862 : decode cL_law 862 = .ok (.iadd, 1) := by decide +kernel
theorem dL_law_863 : decode cL_law 863 = .ok (.iaload, 1) := by decide +kernel
theorem dL_law_864 : decode cL_law 864 = .ok (.aload_n 0, 1) := by decide +kernel
theorem dL_law_865 : decode cL_law 865 = .ok (.iload 4, 2) := by decide +kernel
theorem dL_law_867 : decode cL_law 867 = .ok (.iconst 2, 1) := by decide +kernel
theorem dL_law_868 : decode cL_law 868 = .ok (.iadd, 1) := by decide +kernel
theorem dL_law_869 : decode cL_law 869 = .ok (.iaload, 1) := by decide +kernel
theorem dL_law_870 : decode cL_law 870 = .ok (.aload_n 3, 1) := by decide +kernel
theorem dL_law_871 : decode cL_law 871 = .ok (.invokestatic 144, 3) := by decide +kernel
theorem dL_law_874 : decode cL_law 874 = .ok (.istore 5, 2) := by decide +kernel
theorem dL_law_876 : decode cL_law 876 = .ok (.aload_n 2, 1) := by decide +kernel
theorem dL_law_877 : decode cL_law 877 = .ok (.aload_n 0, 1) := by decide +kernel
theorem dL_law_878 : decode cL_law 878 = .ok (.iload 4, 2) := by decide +kernel
theorem dL_law_880 : decode cL_law 880 = .ok (.iconst 1, 1) := by decide +kernel
theorem dL_law_881 : decode cL_law 881 = .ok (.iadd, 1) := by decide +kernel
theorem dL_law_882 : decode cL_law 882 = .ok (.iaload, 1) := by decide +kernel
theorem dL_law_883 : decode cL_law 883 = .ok (.aload_n 0, 1) := by decide +kernel
theorem dL_law_884 : decode cL_law 884 = .ok (.iload 4, 2) := by decide +kernel
theorem dL_law_886 : decode cL_law 886 = .ok (.iconst 2, 1) := by decide +kernel
theorem dL_law_887 : decode cL_law 887 = .ok (.iadd, 1) := by decide +kernel
theorem dL_law_888 : decode cL_law 888 = .ok (.iaload, 1) := by decide +kernel
theorem dL_law_889 : decode cL_law 889 = .ok (.invokevirtual 147, 3) := by decide +kernel
theorem dL_law_892 : decode cL_law 892 = .ok (.istore 6, 2) := by decide +kernel
theorem dL_law_894 : decode cL_law 894 = .ok (.aload_n 2, 1) := by decide +kernel
theorem dL_law_895 : decode cL_law 895 = .ok (.invokevirtual 99, 3) := by decide +kernel
theorem dL_law_898 : decode cL_law 898 = .ok (.iload 5, 2) := by decide +kernel
theorem dL_law_900 : decode cL_law 900 = .ok (.if_icmp .eq 5, 3) := by decide +kernel
theorem dL_law_903 : decode cL_law 903 = .ok (.iconst 0, 1) := by decide +kernel
theorem dL_law_904 : decode cL_law 904 = .ok (.ireturn, 1) := by decide +kernel
theorem dL_law_905 : decode cL_law 905 = .ok (.iload 5, 2) := by decide +kernel
theorem dL_law_907 : decode cL_law 907 = .ok (.ifCond .ne 15, 3) := by decide +kernel
theorem dL_law_910 : decode cL_law 910 = .ok (.aload_n 3, 1) := by decide +kernel
theorem dL_law_911 : decode cL_law 911 = .ok (.iconst 0, 1) := by decide +kernel
theorem dL_law_912 : decode cL_law 912 = .ok (.laload, 1) := by decide +kernel
theorem dL_law_913 : decode cL_law 913 = .ok (.iload 6, 2) := by decide +kernel
theorem dL_law_915 : decode cL_law 915 = .ok (.i2l, 1) := by decide +kernel
theorem dL_law_916 : decode cL_law 916 = .ok (.lcmp, 1) := by decide +kernel
theorem dL_law_917 : decode cL_law 917 = .ok (.ifCond .eq 5, 3) := by decide +kernel
theorem dL_law_920 : decode cL_law 920 = .ok (.iconst 0, 1) := by decide +kernel
theorem dL_law_921 : decode cL_law 921 = .ok (.ireturn, 1) := by decide +kernel
theorem dL_law_922 : decode cL_law 922 = .ok (.goto 730, 3) := by decide +kernel
theorem dL_law_925 : decode cL_law 925 = .ok (.aload_n 1, 1) := by decide +kernel
theorem dL_law_926 : decode cL_law 926 = .ok (.invokevirtual 148, 3) := by decide +kernel
theorem dL_law_929 : decode cL_law 929 = .ok (.aload_n 2, 1) := by decide +kernel
theorem dL_law_930 : decode cL_law 930 = .ok (.invokevirtual 151, 3) := by decide +kernel
theorem dL_law_933 : decode cL_law 933 = .ok (.if_icmp .eq 719, 3) := by decide +kernel
theorem dL_law_936 : decode cL_law 936 = .ok (.iconst 0, 1) := by decide +kernel
theorem dL_law_937 : decode cL_law 937 = .ok (.ireturn, 1) := by decide +kernel
theorem dL_law_938 : decode cL_law 938 = .ok (.aload_n 1, 1) := by decide +kernel
theorem dL_law_939 : decode cL_law 939 = .ok (.invokevirtual 152, 3) := by decide +kernel
theorem dL_law_942 : decode cL_law 942 = .ok (.aload_n 2, 1) := by decide +kernel
theorem dL_law_943 : decode cL_law 943 = .ok (.invokevirtual 155, 3) := by decide +kernel
theorem dL_law_946 : decode cL_law 946 = .ok (.if_icmp .eq 706, 3) := by decide +kernel
theorem dL_law_949 : decode cL_law 949 = .ok (.iconst 0, 1) := by decide +kernel
theorem dL_law_950 : decode cL_law 950 = .ok (.ireturn, 1) := by decide +kernel
theorem dL_law_951 : decode cL_law 951 = .ok (.aload_n 1, 1) := by decide +kernel
theorem dL_law_952 : decode cL_law 952 = .ok (.aload_n 0, 1) := by decide +kernel
theorem dL_law_953 : decode cL_law 953 = .ok (.iload 4, 2) := by decide +kernel
theorem dL_law_955 : decode cL_law 955 = .ok (.iconst 1, 1) := by decide +kernel
theorem dL_law_956 : decode cL_law 956 = .ok (.iadd, 1) := by decide +kernel
theorem dL_law_957 : decode cL_law 957 = .ok (.iaload, 1) := by decide +kernel
theorem dL_law_958 : decode cL_law 958 = .ok (.aload_n 3, 1) := by decide +kernel
theorem dL_law_959 : decode cL_law 959 = .ok (.invokestatic 156, 3) := by decide +kernel
theorem dL_law_962 : decode cL_law 962 = .ok (.istore 5, 2) := by decide +kernel
theorem dL_law_964 : decode cL_law 964 = .ok (.aload_n 2, 1) := by decide +kernel
theorem dL_law_965 : decode cL_law 965 = .ok (.aload_n 0, 1) := by decide +kernel
theorem dL_law_966 : decode cL_law 966 = .ok (.iload 4, 2) := by decide +kernel
theorem dL_law_968 : decode cL_law 968 = .ok (.iconst 1, 1) := by decide +kernel
theorem dL_law_969 : decode cL_law 969 = .ok (.iadd, 1) := by decide +kernel
theorem dL_law_970 : decode cL_law 970 = .ok (.iaload, 1) := by decide +kernel
theorem dL_law_971 : decode cL_law 971 = .ok (.invokevirtual 158, 3) := by decide +kernel
theorem dL_law_974 : decode cL_law 974 = .ok (.istore 6, 2) := by decide +kernel
theorem dL_law_976 : decode cL_law 976 = .ok (.aload_n 2, 1) := by decide +kernel
theorem dL_law_977 : decode cL_law 977 = .ok (.invokevirtual 99, 3) := by decide +kernel
theorem dL_law_980 : decode cL_law 980 = .ok (.iload 5, 2) := by decide +kernel
theorem dL_law_982 : decode cL_law 982 = .ok (.if_icmp .eq 5, 3) := by decide +kernel
theorem dL_law_985 : decode cL_law 985 = .ok (.iconst 0, 1) := by decide +kernel
theorem dL_law_986 : decode cL_law 986 = .ok (.ireturn, 1) := by decide +kernel
theorem dL_law_987 : decode cL_law 987 = .ok (.iload 5, 2) := by decide +kernel
theorem dL_law_989 : decode cL_law 989 = .ok (.ifCond .ne 15, 3) := by decide +kernel
theorem dL_law_992 : decode cL_law 992 = .ok (.aload_n 3, 1) := by decide +kernel
theorem dL_law_993 : decode cL_law 993 = .ok (.iconst 0, 1) := by decide +kernel
theorem dL_law_994 : decode cL_law 994 = .ok (.laload, 1) := by decide +kernel
theorem dL_law_995 : decode cL_law 995 = .ok (.iload 6, 2) := by decide +kernel
theorem dL_law_997 : decode cL_law 997 = .ok (.i2l, 1) := by decide +kernel
theorem dL_law_998 : decode cL_law 998 = .ok (.lcmp, 1) := by decide +kernel
theorem dL_law_999 : decode cL_law 999 = .ok (.ifCond .eq 5, 3) := by decide +kernel
theorem dL_law_1002 : decode cL_law 1002 = .ok (.iconst 0, 1) := by decide +kernel
theorem dL_law_1003 : decode cL_law 1003 = .ok (.ireturn, 1) := by decide +kernel
theorem dL_law_1004 : decode cL_law 1004 = .ok (.goto 648, 3) := by decide +kernel
theorem dL_law_1007 : decode cL_law 1007 = .ok (.aload_n 1, 1) := by decide +kernel
theorem dL_law_1008 : decode cL_law 1008 = .ok (.aload_n 0, 1) := by decide +kernel
theorem dL_law_1009 : decode cL_law 1009 = .ok (.iload 4, 2) := by decide +kernel
theorem dL_law_1011 : decode cL_law 1011 = .ok (.iconst 1, 1) := by decide +kernel
theorem dL_law_1012 : decode cL_law 1012 = .ok (.iadd, 1) := by decide +kernel
theorem dL_law_1013 : decode cL_law 1013 = .ok (.iaload, 1) := by decide +kernel
theorem dL_law_1014 : decode cL_law 1014 = .ok (.aload_n 3, 1) := by decide +kernel
theorem dL_law_1015 : decode cL_law 1015 = .ok (.invokestatic 159, 3) := by decide +kernel
theorem dL_law_1018 : decode cL_law 1018 = .ok (.istore 5, 2) := by decide +kernel
theorem dL_law_1020 : decode cL_law 1020 = .ok (.aload_n 2, 1) := by decide +kernel
theorem dL_law_1021 : decode cL_law 1021 = .ok (.aload_n 0, 1) := by decide +kernel
theorem dL_law_1022 : decode cL_law 1022 = .ok (.iload 4, 2) := by decide +kernel
theorem dL_law_1024 : decode cL_law 1024 = .ok (.iconst 1, 1) := by decide +kernel
theorem dL_law_1025 : decode cL_law 1025 = .ok (.iadd, 1) := by decide +kernel
theorem dL_law_1026 : decode cL_law 1026 = .ok (.iaload, 1) := by decide +kernel
theorem dL_law_1027 : decode cL_law 1027 = .ok (.invokevirtual 161, 3) := by decide +kernel
theorem dL_law_1030 : decode cL_law 1030 = .ok (.istore 6, 2) := by decide +kernel
theorem dL_law_1032 : decode cL_law 1032 = .ok (.aload_n 2, 1) := by decide +kernel
theorem dL_law_1033 : decode cL_law 1033 = .ok (.invokevirtual 99, 3) := by decide +kernel
theorem dL_law_1036 : decode cL_law 1036 = .ok (.iload 5, 2) := by decide +kernel
theorem dL_law_1038 : decode cL_law 1038 = .ok (.if_icmp .eq 5, 3) := by decide +kernel
theorem dL_law_1041 : decode cL_law 1041 = .ok (.iconst 0, 1) := by decide +kernel
theorem dL_law_1042 : decode cL_law 1042 = .ok (.ireturn, 1) := by decide +kernel
theorem dL_law_1043 : decode cL_law 1043 = .ok (.iload 5, 2) := by decide +kernel
theorem dL_law_1045 : decode cL_law 1045 = .ok (.ifCond .ne 15, 3) := by decide +kernel
theorem dL_law_1048 : decode cL_law 1048 = .ok (.aload_n 3, 1) := by decide +kernel
theorem dL_law_1049 : decode cL_law 1049 = .ok (.iconst 0, 1) := by decide +kernel
theorem dL_law_1050 : decode cL_law 1050 = .ok (.laload, 1) := by decide +kernel
theorem dL_law_1051 : decode cL_law 1051 = .ok (.iload 6, 2) := by decide +kernel
theorem dL_law_1053 : decode cL_law 1053 = .ok (.i2l, 1) := by decide +kernel
theorem dL_law_1054 : decode cL_law 1054 = .ok (.lcmp, 1) := by decide +kernel
theorem dL_law_1055 : decode cL_law 1055 = .ok (.ifCond .eq 5, 3) := by decide +kernel
theorem dL_law_1058 : decode cL_law 1058 = .ok (.iconst 0, 1) := by decide +kernel
theorem dL_law_1059 : decode cL_law 1059 = .ok (.ireturn, 1) := by decide +kernel
theorem dL_law_1060 : decode cL_law 1060 = .ok (.goto 592, 3) := by decide +kernel
theorem dL_law_1063 : decode cL_law 1063 = .ok (.aload_n 1, 1) := by decide +kernel
theorem dL_law_1064 : decode cL_law 1064 = .ok (.aload_n 0, 1) := by decide +kernel
theorem dL_law_1065 : decode cL_law 1065 = .ok (.iload 4, 2) := by decide +kernel
theorem dL_law_1067 : decode cL_law 1067 = .ok (.iconst 1, 1) := by decide +kernel
theorem dL_law_1068 : decode cL_law 1068 = .ok (.iadd, 1) := by decide +kernel
theorem dL_law_1069 : decode cL_law 1069 = .ok (.iaload, 1) := by decide +kernel
theorem dL_law_1070 : decode cL_law 1070 = .ok (.aload_n 3, 1) := by decide +kernel
theorem dL_law_1071 : decode cL_law 1071 = .ok (.invokestatic 162, 3) := by decide +kernel
theorem dL_law_1074 : decode cL_law 1074 = .ok (.istore 5, 2) := by decide +kernel
theorem dL_law_1076 : decode cL_law 1076 = .ok (.aload_n 2, 1) := by decide +kernel
theorem dL_law_1077 : decode cL_law 1077 = .ok (.aload_n 0, 1) := by decide +kernel
theorem dL_law_1078 : decode cL_law 1078 = .ok (.iload 4, 2) := by decide +kernel
theorem dL_law_1080 : decode cL_law 1080 = .ok (.iconst 1, 1) := by decide +kernel
theorem dL_law_1081 : decode cL_law 1081 = .ok (.iadd, 1) := by decide +kernel
theorem dL_law_1082 : decode cL_law 1082 = .ok (.iaload, 1) := by decide +kernel
theorem dL_law_1083 : decode cL_law 1083 = .ok (.invokevirtual 164, 3) := by decide +kernel
theorem dL_law_1086 : decode cL_law 1086 = .ok (.istore 6, 2) := by decide +kernel
theorem dL_law_1088 : decode cL_law 1088 = .ok (.aload_n 2, 1) := by decide +kernel
theorem dL_law_1089 : decode cL_law 1089 = .ok (.invokevirtual 99, 3) := by decide +kernel
theorem dL_law_1092 : decode cL_law 1092 = .ok (.iload 5, 2) := by decide +kernel
theorem dL_law_1094 : decode cL_law 1094 = .ok (.if_icmp .eq 5, 3) := by decide +kernel
theorem dL_law_1097 : decode cL_law 1097 = .ok (.iconst 0, 1) := by decide +kernel
theorem dL_law_1098 : decode cL_law 1098 = .ok (.ireturn, 1) := by decide +kernel
theorem dL_law_1099 : decode cL_law 1099 = .ok (.iload 5, 2) := by decide +kernel
theorem dL_law_1101 : decode cL_law 1101 = .ok (.ifCond .ne 15, 3) := by decide +kernel
theorem dL_law_1104 : decode cL_law 1104 = .ok (.aload_n 3, 1) := by decide +kernel
theorem dL_law_1105 : decode cL_law 1105 = .ok (.iconst 0, 1) := by decide +kernel
theorem dL_law_1106 : decode cL_law 1106 = .ok (.laload, 1) := by decide +kernel
theorem dL_law_1107 : decode cL_law 1107 = .ok (.iload 6, 2) := by decide +kernel
theorem dL_law_1109 : decode cL_law 1109 = .ok (.i2l, 1) := by decide +kernel
theorem dL_law_1110 : decode cL_law 1110 = .ok (.lcmp, 1) := by decide +kernel
theorem dL_law_1111 : decode cL_law 1111 = .ok (.ifCond .eq 5, 3) := by decide +kernel
theorem dL_law_1114 : decode cL_law 1114 = .ok (.iconst 0, 1) := by decide +kernel
theorem dL_law_1115 : decode cL_law 1115 = .ok (.ireturn, 1) := by decide +kernel
theorem dL_law_1116 : decode cL_law 1116 = .ok (.goto 536, 3) := by decide +kernel
theorem dL_law_1119 : decode cL_law 1119 = .ok (.aload_n 1, 1) := by decide +kernel
theorem dL_law_1120 : decode cL_law 1120 = .ok (.aload_n 0, 1) := by decide +kernel
theorem dL_law_1121 : decode cL_law 1121 = .ok (.iload 4, 2) := by decide +kernel
theorem dL_law_1123 : decode cL_law 1123 = .ok (.iconst 1, 1) := by decide +kernel
theorem dL_law_1124 : decode cL_law 1124 = .ok (.iadd, 1) := by decide +kernel
theorem dL_law_1125 : decode cL_law 1125 = .ok (.iaload, 1) := by decide +kernel
theorem dL_law_1126 : decode cL_law 1126 = .ok (.aload_n 3, 1) := by decide +kernel
theorem dL_law_1127 : decode cL_law 1127 = .ok (.invokestatic 165, 3) := by decide +kernel
theorem dL_law_1130 : decode cL_law 1130 = .ok (.istore 5, 2) := by decide +kernel
theorem dL_law_1132 : decode cL_law 1132 = .ok (.aload_n 2, 1) := by decide +kernel
theorem dL_law_1133 : decode cL_law 1133 = .ok (.aload_n 0, 1) := by decide +kernel
theorem dL_law_1134 : decode cL_law 1134 = .ok (.iload 4, 2) := by decide +kernel
theorem dL_law_1136 : decode cL_law 1136 = .ok (.iconst 1, 1) := by decide +kernel
theorem dL_law_1137 : decode cL_law 1137 = .ok (.iadd, 1) := by decide +kernel
theorem dL_law_1138 : decode cL_law 1138 = .ok (.iaload, 1) := by decide +kernel
theorem dL_law_1139 : decode cL_law 1139 = .ok (.invokevirtual 167, 3) := by decide +kernel
theorem dL_law_1142 : decode cL_law 1142 = .ok (.istore 6, 2) := by decide +kernel
theorem dL_law_1144 : decode cL_law 1144 = .ok (.aload_n 2, 1) := by decide +kernel
theorem dL_law_1145 : decode cL_law 1145 = .ok (.invokevirtual 99, 3) := by decide +kernel
theorem dL_law_1148 : decode cL_law 1148 = .ok (.iload 5, 2) := by decide +kernel
theorem dL_law_1150 : decode cL_law 1150 = .ok (.if_icmp .eq 5, 3) := by decide +kernel
theorem dL_law_1153 : decode cL_law 1153 = .ok (.iconst 0, 1) := by decide +kernel
theorem dL_law_1154 : decode cL_law 1154 = .ok (.ireturn, 1) := by decide +kernel
theorem dL_law_1155 : decode cL_law 1155 = .ok (.iload 5, 2) := by decide +kernel
theorem dL_law_1157 : decode cL_law 1157 = .ok (.ifCond .ne 22, 3) := by decide +kernel
theorem dL_law_1160 : decode cL_law 1160 = .ok (.aload_n 3, 1) := by decide +kernel
theorem dL_law_1161 : decode cL_law 1161 = .ok (.iconst 0, 1) := by decide +kernel
theorem dL_law_1162 : decode cL_law 1162 = .ok (.laload, 1) := by decide +kernel
theorem dL_law_1163 : decode cL_law 1163 = .ok (.iload 6, 2) := by decide +kernel
theorem dL_law_1165 : decode cL_law 1165 = .ok (.ifCond .eq 7, 3) := by decide +kernel
theorem dL_law_1168 : decode cL_law 1168 = .ok (.lconst 1, 1) := by decide +kernel
theorem dL_law_1169 : decode cL_law 1169 = .ok (.goto 4, 3) := by decide +kernel
theorem dL_law_1172 : decode cL_law 1172 = .ok (.lconst 0, 1) := by decide +kernel
theorem dL_law_1173 : decode cL_law 1173 = .ok (.lcmp, 1) := by decide +kernel
theorem dL_law_1174 : decode cL_law 1174 = .ok (.ifCond .eq 5, 3) := by decide +kernel
theorem dL_law_1177 : decode cL_law 1177 = .ok (.iconst 0, 1) := by decide +kernel
theorem dL_law_1178 : decode cL_law 1178 = .ok (.ireturn, 1) := by decide +kernel
theorem dL_law_1179 : decode cL_law 1179 = .ok (.goto 473, 3) := by decide +kernel
theorem dL_law_1182 : decode cL_law 1182 = .ok (.aload_n 1, 1) := by decide +kernel
theorem dL_law_1183 : decode cL_law 1183 = .ok (.invokevirtual 168, 3) := by decide +kernel
theorem dL_law_1186 : decode cL_law 1186 = .ok (.aload_n 2, 1) := by decide +kernel
theorem dL_law_1187 : decode cL_law 1187 = .ok (.invokevirtual 171, 3) := by decide +kernel
theorem dL_law_1190 : decode cL_law 1190 = .ok (.if_icmp .eq 462, 3) := by decide +kernel
theorem dL_law_1193 : decode cL_law 1193 = .ok (.iconst 0, 1) := by decide +kernel
theorem dL_law_1194 : decode cL_law 1194 = .ok (.ireturn, 1) := by decide +kernel
theorem dL_law_1195 : decode cL_law 1195 = .ok (.aload_n 1, 1) := by decide +kernel
theorem dL_law_1196 : decode cL_law 1196 = .ok (.invokevirtual 172, 3) := by decide +kernel
theorem dL_law_1199 : decode cL_law 1199 = .ok (.aload_n 2, 1) := by decide +kernel
theorem dL_law_1200 : decode cL_law 1200 = .ok (.invokevirtual 175, 3) := by decide +kernel
theorem dL_law_1203 : decode cL_law 1203 = .ok (.if_icmp .eq 449, 3) := by decide +kernel
theorem dL_law_1206 : decode cL_law 1206 = .ok (.iconst 0, 1) := by decide +kernel
theorem dL_law_1207 : decode cL_law 1207 = .ok (.ireturn, 1) := by decide +kernel
theorem dL_law_1208 : decode cL_law 1208 = .ok (.aload_n 1, 1) := by decide +kernel
theorem dL_law_1209 : decode cL_law 1209 = .ok (.aload_n 0, 1) := by decide +kernel
theorem dL_law_1210 : decode cL_law 1210 = .ok (.iload 4, 2) := by decide +kernel
theorem dL_law_1212 : decode cL_law 1212 = .ok (.iconst 1, 1) := by decide +kernel
theorem dL_law_1213 : decode cL_law 1213 = .ok (.iadd, 1) := by decide +kernel
theorem dL_law_1214 : decode cL_law 1214 = .ok (.iaload, 1) := by decide +kernel
theorem dL_law_1215 : decode cL_law 1215 = .ok (.aload_n 3, 1) := by decide +kernel
theorem dL_law_1216 : decode cL_law 1216 = .ok (.invokestatic 176, 3) := by decide +kernel
theorem dL_law_1219 : decode cL_law 1219 = .ok (.istore 5, 2) := by decide +kernel
theorem dL_law_1221 : decode cL_law 1221 = .ok (.aload_n 2, 1) := by decide +kernel
theorem dL_law_1222 : decode cL_law 1222 = .ok (.aload_n 0, 1) := by decide +kernel
theorem dL_law_1223 : decode cL_law 1223 = .ok (.iload 4, 2) := by decide +kernel
theorem dL_law_1225 : decode cL_law 1225 = .ok (.iconst 1, 1) := by decide +kernel
theorem dL_law_1226 : decode cL_law 1226 = .ok (.iadd, 1) := by decide +kernel
theorem dL_law_1227 : decode cL_law 1227 = .ok (.iaload, 1) := by decide +kernel
theorem dL_law_1228 : decode cL_law 1228 = .ok (.invokevirtual 178, 3) := by decide +kernel
theorem dL_law_1231 : decode cL_law 1231 = .ok (.istore 6, 2) := by decide +kernel
theorem dL_law_1233 : decode cL_law 1233 = .ok (.aload_n 2, 1) := by decide +kernel
theorem dL_law_1234 : decode cL_law 1234 = .ok (.invokevirtual 99, 3) := by decide +kernel
theorem dL_law_1237 : decode cL_law 1237 = .ok (.iload 5, 2) := by decide +kernel
theorem dL_law_1239 : decode cL_law 1239 = .ok (.if_icmp .eq 5, 3) := by decide +kernel
theorem dL_law_1242 : decode cL_law 1242 = .ok (.iconst 0, 1) := by decide +kernel
theorem dL_law_1243 : decode cL_law 1243 = .ok (.ireturn, 1) := by decide +kernel
theorem dL_law_1244 : decode cL_law 1244 = .ok (.iload 5, 2) := by decide +kernel
theorem dL_law_1246 : decode cL_law 1246 = .ok (.ifCond .ne 15, 3) := by decide +kernel
theorem dL_law_1249 : decode cL_law 1249 = .ok (.aload_n 3, 1) := by decide +kernel
theorem dL_law_1250 : decode cL_law 1250 = .ok (.iconst 0, 1) := by decide +kernel
theorem dL_law_1251 : decode cL_law 1251 = .ok (.laload, 1) := by decide +kernel
theorem dL_law_1252 : decode cL_law 1252 = .ok (.iload 6, 2) := by decide +kernel
theorem dL_law_1254 : decode cL_law 1254 = .ok (.i2l, 1) := by decide +kernel
theorem dL_law_1255 : decode cL_law 1255 = .ok (.lcmp, 1) := by decide +kernel
theorem dL_law_1256 : decode cL_law 1256 = .ok (.ifCond .eq 5, 3) := by decide +kernel
theorem dL_law_1259 : decode cL_law 1259 = .ok (.iconst 0, 1) := by decide +kernel
theorem dL_law_1260 : decode cL_law 1260 = .ok (.ireturn, 1) := by decide +kernel
theorem dL_law_1261 : decode cL_law 1261 = .ok (.goto 391, 3) := by decide +kernel
theorem dL_law_1264 : decode cL_law 1264 = .ok (.aload_n 1, 1) := by decide +kernel
theorem dL_law_1265 : decode cL_law 1265 = .ok (.invokevirtual 179, 3) := by decide +kernel
theorem dL_law_1268 : decode cL_law 1268 = .ok (.aload_n 2, 1) := by decide +kernel
theorem dL_law_1269 : decode cL_law 1269 = .ok (.invokevirtual 182, 3) := by decide +kernel
theorem dL_law_1272 : decode cL_law 1272 = .ok (.lcmp, 1) := by decide +kernel
theorem dL_law_1273 : decode cL_law 1273 = .ok (.ifCond .eq 379, 3) := by decide +kernel
theorem dL_law_1276 : decode cL_law 1276 = .ok (.iconst 0, 1) := by decide +kernel
theorem dL_law_1277 : decode cL_law 1277 = .ok (.ireturn, 1) := by decide +kernel
theorem dL_law_1278 : decode cL_law 1278 = .ok (.aload_n 1, 1) := by decide +kernel
theorem dL_law_1279 : decode cL_law 1279 = .ok (.aload_n 0, 1) := by decide +kernel
theorem dL_law_1280 : decode cL_law 1280 = .ok (.iload 4, 2) := by decide +kernel
theorem dL_law_1282 : decode cL_law 1282 = .ok (.iconst 1, 1) := by decide +kernel
theorem dL_law_1283 : decode cL_law 1283 = .ok (.iadd, 1) := by decide +kernel
theorem dL_law_1284 : decode cL_law 1284 = .ok (.iaload, 1) := by decide +kernel
theorem dL_law_1285 : decode cL_law 1285 = .ok (.aload_n 3, 1) := by decide +kernel
theorem dL_law_1286 : decode cL_law 1286 = .ok (.invokestatic 183, 3) := by decide +kernel
theorem dL_law_1289 : decode cL_law 1289 = .ok (.istore 5, 2) := by decide +kernel
theorem dL_law_1291 : decode cL_law 1291 = .ok (.aload_n 2, 1) := by decide +kernel
theorem dL_law_1292 : decode cL_law 1292 = .ok (.aload_n 0, 1) := by decide +kernel
theorem dL_law_1293 : decode cL_law 1293 = .ok (.iload 4, 2) := by decide +kernel
theorem dL_law_1295 : decode cL_law 1295 = .ok (.iconst 1, 1) := by decide +kernel
theorem dL_law_1296 : decode cL_law 1296 = .ok (.iadd, 1) := by decide +kernel
theorem dL_law_1297 : decode cL_law 1297 = .ok (.iaload, 1) := by decide +kernel
theorem dL_law_1298 : decode cL_law 1298 = .ok (.invokevirtual 185, 3) := by decide +kernel
theorem dL_law_1301 : decode cL_law 1301 = .ok (.istore 6, 2) := by decide +kernel
theorem dL_law_1303 : decode cL_law 1303 = .ok (.aload_n 2, 1) := by decide +kernel
theorem dL_law_1304 : decode cL_law 1304 = .ok (.invokevirtual 99, 3) := by decide +kernel
theorem dL_law_1307 : decode cL_law 1307 = .ok (.iload 5, 2) := by decide +kernel
theorem dL_law_1309 : decode cL_law 1309 = .ok (.if_icmp .eq 5, 3) := by decide +kernel
theorem dL_law_1312 : decode cL_law 1312 = .ok (.iconst 0, 1) := by decide +kernel
theorem dL_law_1313 : decode cL_law 1313 = .ok (.ireturn, 1) := by decide +kernel
theorem dL_law_1314 : decode cL_law 1314 = .ok (.iload 5, 2) := by decide +kernel
theorem dL_law_1316 : decode cL_law 1316 = .ok (.ifCond .ne 15, 3) := by decide +kernel
theorem dL_law_1319 : decode cL_law 1319 = .ok (.aload_n 3, 1) := by decide +kernel
theorem dL_law_1320 : decode cL_law 1320 = .ok (.iconst 0, 1) := by decide +kernel
theorem dL_law_1321 : decode cL_law 1321 = .ok (.laload, 1) := by decide +kernel
theorem dL_law_1322 : decode cL_law 1322 = .ok (.iload 6, 2) := by decide +kernel
theorem dL_law_1324 : decode cL_law 1324 = .ok (.i2l, 1) := by decide +kernel
theorem dL_law_1325 : decode cL_law 1325 = .ok (.lcmp, 1) := by decide +kernel
theorem dL_law_1326 : decode cL_law 1326 = .ok (.ifCond .eq 5, 3) := by decide +kernel
theorem dL_law_1329 : decode cL_law 1329 = .ok (.iconst 0, 1) := by decide +kernel
theorem dL_law_1330 : decode cL_law 1330 = .ok (.ireturn, 1) := by decide +kernel
theorem dL_law_1331 : decode cL_law 1331 = .ok (.goto 321, 3) := by decide +kernel
theorem dL_law_1334 : decode cL_law 1334 = .ok (.aload_n 1, 1) := by decide +kernel
theorem dL_law_1335 : decode cL_law 1335 = .ok (.aload_n 0, 1) := by decide +kernel
theorem dL_law_1336 : decode cL_law 1336 = .ok (.iload 4, 2) := by decide +kernel
theorem dL_law_1338 : decode cL_law 1338 = .ok (.iconst 1, 1) := by decide +kernel
theorem dL_law_1339 : decode cL_law 1339 = .ok (.iadd, 1) := by decide +kernel
theorem dL_law_1340 : decode cL_law 1340 = .ok (.iaload, 1) := by decide +kernel
theorem dL_law_1341 : decode cL_law 1341 = .ok (.aload_n 0, 1) := by decide +kernel
theorem dL_law_1342 : decode cL_law 1342 = .ok (.iload 4, 2) := by decide +kernel
theorem dL_law_1344 : decode cL_law 1344 = .ok (.iconst 2, 1) := by decide +kernel
theorem dL_law_1345 : decode cL_law 1345 = .ok (.iadd, 1) := by decide +kernel
theorem dL_law_1346 : decode cL_law 1346 = .ok (.iaload, 1) := by decide +kernel
theorem dL_law_1347 : decode cL_law 1347 = .ok (.aload_n 3, 1) := by decide +kernel
theorem dL_law_1348 : decode cL_law 1348 = .ok (.invokestatic 186, 3) := by decide +kernel
theorem dL_law_1351 : decode cL_law 1351 = .ok (.istore 5, 2) := by decide +kernel
theorem dL_law_1353 : decode cL_law 1353 = .ok (.aload_n 2, 1) := by decide +kernel
theorem dL_law_1354 : decode cL_law 1354 = .ok (.aload_n 0, 1) := by decide +kernel
theorem dL_law_1355 : decode cL_law 1355 = .ok (.iload 4, 2) := by decide +kernel
theorem dL_law_1357 : decode cL_law 1357 = .ok (.iconst 1, 1) := by decide +kernel
theorem dL_law_1358 : decode cL_law 1358 = .ok (.iadd, 1) := by decide +kernel
theorem dL_law_1359 : decode cL_law 1359 = .ok (.iaload, 1) := by decide +kernel
theorem dL_law_1360 : decode cL_law 1360 = .ok (.aload_n 0, 1) := by decide +kernel
theorem dL_law_1361 : decode cL_law 1361 = .ok (.iload 4, 2) := by decide +kernel
theorem dL_law_1363 : decode cL_law 1363 = .ok (.iconst 2, 1) := by decide +kernel
theorem dL_law_1364 : decode cL_law 1364 = .ok (.iadd, 1) := by decide +kernel
theorem dL_law_1365 : decode cL_law 1365 = .ok (.iaload, 1) := by decide +kernel
theorem dL_law_1366 : decode cL_law 1366 = .ok (.invokevirtual 188, 3) := by decide +kernel
theorem dL_law_1369 : decode cL_law 1369 = .ok (.istore 6, 2) := by decide +kernel
theorem dL_law_1371 : decode cL_law 1371 = .ok (.aload_n 2, 1) := by decide +kernel
theorem dL_law_1372 : decode cL_law 1372 = .ok (.invokevirtual 99, 3) := by decide +kernel
theorem dL_law_1375 : decode cL_law 1375 = .ok (.iload 5, 2) := by decide +kernel
theorem dL_law_1377 : decode cL_law 1377 = .ok (.if_icmp .eq 5, 3) := by decide +kernel
theorem dL_law_1380 : decode cL_law 1380 = .ok (.iconst 0, 1) := by decide +kernel
theorem dL_law_1381 : decode cL_law 1381 = .ok (.ireturn, 1) := by decide +kernel
theorem dL_law_1382 : decode cL_law 1382 = .ok (.iload 5, 2) := by decide +kernel
theorem dL_law_1384 : decode cL_law 1384 = .ok (.ifCond .ne 15, 3) := by decide +kernel
theorem dL_law_1387 : decode cL_law 1387 = .ok (.aload_n 3, 1) := by decide +kernel
theorem dL_law_1388 : decode cL_law 1388 = .ok (.iconst 0, 1) := by decide +kernel
theorem dL_law_1389 : decode cL_law 1389 = .ok (.laload, 1) := by decide +kernel
theorem dL_law_1390 : decode cL_law 1390 = .ok (.iload 6, 2) := by decide +kernel
theorem dL_law_1392 : decode cL_law 1392 = .ok (.i2l, 1) := by decide +kernel
theorem dL_law_1393 : decode cL_law 1393 = .ok (.lcmp, 1) := by decide +kernel
theorem dL_law_1394 : decode cL_law 1394 = .ok (.ifCond .eq 5, 3) := by decide +kernel
theorem dL_law_1397 : decode cL_law 1397 = .ok (.iconst 0, 1) := by decide +kernel
theorem dL_law_1398 : decode cL_law 1398 = .ok (.ireturn, 1) := by decide +kernel
theorem dL_law_1399 : decode cL_law 1399 = .ok (.goto 253, 3) := by decide +kernel
theorem dL_law_1402 : decode cL_law 1402 = .ok (.aload_n 1, 1) := by decide +kernel
theorem dL_law_1403 : decode cL_law 1403 = .ok (.aload_n 0, 1) := by decide +kernel
theorem dL_law_1404 : decode cL_law 1404 = .ok (.iload 4, 2) := by decide +kernel
theorem dL_law_1406 : decode cL_law 1406 = .ok (.iconst 1, 1) := by decide +kernel
theorem dL_law_1407 : decode cL_law 1407 = .ok (.iadd, 1) := by decide +kernel
theorem dL_law_1408 : decode cL_law 1408 = .ok (.iaload, 1) := by decide +kernel
theorem dL_law_1409 : decode cL_law 1409 = .ok (.aload_n 3, 1) := by decide +kernel
theorem dL_law_1410 : decode cL_law 1410 = .ok (.invokestatic 189, 3) := by decide +kernel
theorem dL_law_1413 : decode cL_law 1413 = .ok (.istore 5, 2) := by decide +kernel
theorem dL_law_1415 : decode cL_law 1415 = .ok (.aload_n 2, 1) := by decide +kernel
theorem dL_law_1416 : decode cL_law 1416 = .ok (.aload_n 0, 1) := by decide +kernel
theorem dL_law_1417 : decode cL_law 1417 = .ok (.iload 4, 2) := by decide +kernel
theorem dL_law_1419 : decode cL_law 1419 = .ok (.iconst 1, 1) := by decide +kernel
theorem dL_law_1420 : decode cL_law 1420 = .ok (.iadd, 1) := by decide +kernel
theorem dL_law_1421 : decode cL_law 1421 = .ok (.iaload, 1) := by decide +kernel
theorem dL_law_1422 : decode cL_law 1422 = .ok (.invokevirtual 191, 3) := by decide +kernel
theorem dL_law_1425 : decode cL_law 1425 = .ok (.istore 6, 2) := by decide +kernel
theorem dL_law_1427 : decode cL_law 1427 = .ok (.aload_n 2, 1) := by decide +kernel
theorem dL_law_1428 : decode cL_law 1428 = .ok (.invokevirtual 99, 3) := by decide +kernel
theorem dL_law_1431 : decode cL_law 1431 = .ok (.iload 5, 2) := by decide +kernel
theorem dL_law_1433 : decode cL_law 1433 = .ok (.if_icmp .eq 5, 3) := by decide +kernel
theorem dL_law_1436 : decode cL_law 1436 = .ok (.iconst 0, 1) := by decide +kernel
theorem dL_law_1437 : decode cL_law 1437 = .ok (.ireturn, 1) := by decide +kernel
theorem dL_law_1438 : decode cL_law 1438 = .ok (.iload 5, 2) := by decide +kernel
theorem dL_law_1440 : decode cL_law 1440 = .ok (.ifCond .ne 15, 3) := by decide +kernel
theorem dL_law_1443 : decode cL_law 1443 = .ok (.aload_n 3, 1) := by decide +kernel
theorem dL_law_1444 : decode cL_law 1444 = .ok (.iconst 0, 1) := by decide +kernel
theorem dL_law_1445 : decode cL_law 1445 = .ok (.laload, 1) := by decide +kernel
theorem dL_law_1446 : decode cL_law 1446 = .ok (.iload 6, 2) := by decide +kernel
theorem dL_law_1448 : decode cL_law 1448 = .ok (.i2l, 1) := by decide +kernel
theorem dL_law_1449 : decode cL_law 1449 = .ok (.lcmp, 1) := by decide +kernel
theorem dL_law_1450 : decode cL_law 1450 = .ok (.ifCond .eq 5, 3) := by decide +kernel
theorem dL_law_1453 : decode cL_law 1453 = .ok (.iconst 0, 1) := by decide +kernel
theorem dL_law_1454 : decode cL_law 1454 = .ok (.ireturn, 1) := by decide +kernel
theorem dL_law_1455 : decode cL_law 1455 = .ok (.goto 197, 3) := by decide +kernel
theorem dL_law_1458 : decode cL_law 1458 = .ok (.aload_n 1, 1) := by decide +kernel
theorem dL_law_1459 : decode cL_law 1459 = .ok (.aload_n 3, 1) := by decide +kernel
theorem dL_law_1460 : decode cL_law 1460 = .ok (.invokestatic 192, 3) := by decide +kernel
theorem dL_law_1463 : decode cL_law 1463 = .ok (.istore 5, 2) := by decide +kernel
theorem dL_law_1465 : decode cL_law 1465 = .ok (.aload_n 2, 1) := by decide +kernel
theorem dL_law_1466 : decode cL_law 1466 = .ok (.invokevirtual 195, 3) := by decide +kernel
theorem dL_law_1469 : decode cL_law 1469 = .ok (.lstore 6, 2) := by decide +kernel
theorem dL_law_1471 : decode cL_law 1471 = .ok (.aload_n 2, 1) := by decide +kernel
theorem dL_law_1472 : decode cL_law 1472 = .ok (.invokevirtual 99, 3) := by decide +kernel
theorem dL_law_1475 : decode cL_law 1475 = .ok (.iload 5, 2) := by decide +kernel
theorem dL_law_1477 : decode cL_law 1477 = .ok (.if_icmp .eq 5, 3) := by decide +kernel
theorem dL_law_1480 : decode cL_law 1480 = .ok (.iconst 0, 1) := by decide +kernel
theorem dL_law_1481 : decode cL_law 1481 = .ok (.ireturn, 1) := by decide +kernel
theorem dL_law_1482 : decode cL_law 1482 = .ok (.iload 5, 2) := by decide +kernel
theorem dL_law_1484 : decode cL_law 1484 = .ok (.ifCond .ne 14, 3) := by decide +kernel
theorem dL_law_1487 : decode cL_law 1487 = .ok (.aload_n 3, 1) := by decide +kernel
