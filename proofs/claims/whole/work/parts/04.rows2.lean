theorem dX9_reservedIn_0 : decode cX9_reservedIn 0 = .ok (.aload_n 0, 1) := by decide +kernel
theorem dX9_reservedIn_1 : decode cX9_reservedIn 1 = .ok (.iload_n 1, 1) := by decide +kernel
theorem dX9_reservedIn_2 : decode cX9_reservedIn 2 = .ok (.invokevirtual 103, 3) := by decide +kernel
theorem dX9_reservedIn_5 : decode cX9_reservedIn 5 = .ok (.aload_n 0, 1) := by decide +kernel
theorem dX9_reservedIn_6 : decode cX9_reservedIn 6 = .ok (.getfield 10, 3) := by decide +kernel
theorem dX9_reservedIn_9 : decode cX9_reservedIn 9 = .ok (.getfield 97, 3) := by decide +kernel
theorem dX9_reservedIn_12 : decode cX9_reservedIn 12 = .ok (.getfield 106, 3) := by decide +kernel
theorem dX9_reservedIn_15 : decode cX9_reservedIn 15 = .ok (.iload_n 1, 1) := by decide +kernel
theorem dX9_reservedIn_16 : decode cX9_reservedIn 16 = .ok (.iaload, 1) := by decide +kernel
theorem dX9_reservedIn_17 : decode cX9_reservedIn 17 = .ok (.ireturn, 1) := by decide +kernel
theorem dX9_forecastOf_0 : decode cX9_forecastOf 0 = .ok (.aload_n 0, 1) := by decide +kernel
theorem dX9_forecastOf_1 : decode cX9_forecastOf 1 = .ok (.iload_n 1, 1) := by decide +kernel
theorem dX9_forecastOf_2 : decode cX9_forecastOf 2 = .ok (.invokevirtual 103, 3) := by decide +kernel
theorem dX9_forecastOf_5 : decode cX9_forecastOf 5 = .ok (.aload_n 0, 1) := by decide +kernel
theorem dX9_forecastOf_6 : decode cX9_forecastOf 6 = .ok (.getfield 10, 3) := by decide +kernel
theorem dX9_forecastOf_9 : decode cX9_forecastOf 9 = .ok (.getfield 97, 3) := by decide +kernel
theorem dX9_forecastOf_12 : decode cX9_forecastOf 12 = .ok (.getfield 110, 3) := by decide +kernel
theorem dX9_forecastOf_15 : decode cX9_forecastOf 15 = .ok (.iload_n 1, 1) := by decide +kernel
theorem dX9_forecastOf_16 : decode cX9_forecastOf 16 = .ok (.iaload, 1) := by decide +kernel
theorem dX9_forecastOf_17 : decode cX9_forecastOf 17 = .ok (.ireturn, 1) := by decide +kernel
theorem dX9_orderOf_0 : decode cX9_orderOf 0 = .ok (.aload_n 0, 1) := by decide +kernel
theorem dX9_orderOf_1 : decode cX9_orderOf 1 = .ok (.iload_n 1, 1) := by decide +kernel
theorem dX9_orderOf_2 : decode cX9_orderOf 2 = .ok (.invokevirtual 103, 3) := by decide +kernel
theorem dX9_orderOf_5 : decode cX9_orderOf 5 = .ok (.aload_n 0, 1) := by decide +kernel
theorem dX9_orderOf_6 : decode cX9_orderOf 6 = .ok (.getfield 10, 3) := by decide +kernel
theorem dX9_orderOf_9 : decode cX9_orderOf 9 = .ok (.getfield 97, 3) := by decide +kernel
theorem dX9_orderOf_12 : decode cX9_orderOf 12 = .ok (.getfield 113, 3) := by decide +kernel
theorem dX9_orderOf_15 : decode cX9_orderOf 15 = .ok (.iload_n 1, 1) := by decide +kernel
theorem dX9_orderOf_16 : decode cX9_orderOf 16 = .ok (.iaload, 1) := by decide +kernel
theorem dX9_orderOf_17 : decode cX9_orderOf 17 = .ok (.ireturn, 1) := by decide +kernel
theorem dX9_openUnits_0 : decode cX9_openUnits 0 = .ok (.aload_n 0, 1) := by decide +kernel
theorem dX9_openUnits_1 : decode cX9_openUnits 1 = .ok (.iload_n 1, 1) := by decide +kernel
theorem dX9_openUnits_2 : decode cX9_openUnits 2 = .ok (.invokevirtual 103, 3) := by decide +kernel
theorem dX9_openUnits_5 : decode cX9_openUnits 5 = .ok (.aload_n 0, 1) := by decide +kernel
theorem dX9_openUnits_6 : decode cX9_openUnits 6 = .ok (.getfield 10, 3) := by decide +kernel
theorem dX9_openUnits_9 : decode cX9_openUnits 9 = .ok (.getfield 97, 3) := by decide +kernel
theorem dX9_openUnits_12 : decode cX9_openUnits 12 = .ok (.getfield 116, 3) := by decide +kernel
theorem dX9_openUnits_15 : decode cX9_openUnits 15 = .ok (.iload_n 1, 1) := by decide +kernel
theorem dX9_openUnits_16 : decode cX9_openUnits 16 = .ok (.iaload, 1) := by decide +kernel
theorem dX9_openUnits_17 : decode cX9_openUnits 17 = .ok (.ireturn, 1) := by decide +kernel
theorem dX9_missedUnits_0 : decode cX9_missedUnits 0 = .ok (.aload_n 0, 1) := by decide +kernel
theorem dX9_missedUnits_1 : decode cX9_missedUnits 1 = .ok (.iload_n 1, 1) := by decide +kernel
theorem dX9_missedUnits_2 : decode cX9_missedUnits 2 = .ok (.invokevirtual 103, 3) := by decide +kernel
theorem dX9_missedUnits_5 : decode cX9_missedUnits 5 = .ok (.aload_n 0, 1) := by decide +kernel
theorem dX9_missedUnits_6 : decode cX9_missedUnits 6 = .ok (.getfield 10, 3) := by decide +kernel
theorem dX9_missedUnits_9 : decode cX9_missedUnits 9 = .ok (.getfield 97, 3) := by decide +kernel
theorem dX9_missedUnits_12 : decode cX9_missedUnits 12 = .ok (.getfield 119, 3) := by decide +kernel
theorem dX9_missedUnits_15 : decode cX9_missedUnits 15 = .ok (.iload_n 1, 1) := by decide +kernel
theorem dX9_missedUnits_16 : decode cX9_missedUnits 16 = .ok (.iaload, 1) := by decide +kernel
theorem dX9_missedUnits_17 : decode cX9_missedUnits 17 = .ok (.ireturn, 1) := by decide +kernel
theorem dX9_invoice_0 : decode cX9_invoice 0 = .ok (.aload_n 0, 1) := by decide +kernel
theorem dX9_invoice_1 : decode cX9_invoice 1 = .ok (.iload_n 1, 1) := by decide +kernel
theorem dX9_invoice_2 : decode cX9_invoice 2 = .ok (.invokevirtual 103, 3) := by decide +kernel
theorem dX9_invoice_5 : decode cX9_invoice 5 = .ok (.aload_n 0, 1) := by decide +kernel
theorem dX9_invoice_6 : decode cX9_invoice 6 = .ok (.getfield 10, 3) := by decide +kernel
theorem dX9_invoice_9 : decode cX9_invoice 9 = .ok (.getfield 97, 3) := by decide +kernel
theorem dX9_invoice_12 : decode cX9_invoice 12 = .ok (.getfield 122, 3) := by decide +kernel
theorem dX9_invoice_15 : decode cX9_invoice 15 = .ok (.iload_n 1, 1) := by decide +kernel
theorem dX9_invoice_16 : decode cX9_invoice 16 = .ok (.laload, 1) := by decide +kernel
theorem dX9_invoice_17 : decode cX9_invoice 17 = .ok (.lreturn, 1) := by decide +kernel
theorem dX9_balance_0 : decode cX9_balance 0 = .ok (.aload_n 0, 1) := by decide +kernel
theorem dX9_balance_1 : decode cX9_balance 1 = .ok (.getfield 10, 3) := by decide +kernel
theorem dX9_balance_4 : decode cX9_balance 4 = .ok (.getfield 97, 3) := by decide +kernel
theorem dX9_balance_7 : decode cX9_balance 7 = .ok (.aload_n 0, 1) := by decide +kernel
theorem dX9_balance_8 : decode cX9_balance 8 = .ok (.getfield 10, 3) := by decide +kernel
theorem dX9_balance_11 : decode cX9_balance 11 = .ok (.getfield 88, 3) := by decide +kernel
theorem dX9_balance_14 : decode cX9_balance 14 = .ok (.getfield 92, 3) := by decide +kernel
theorem dX9_balance_17 : decode cX9_balance 17 = .ok (.invokevirtual 126, 3) := by decide +kernel
theorem dX9_balance_20 : decode cX9_balance 20 = .ok (.aload_n 0, 1) := by decide +kernel
theorem dX9_balance_21 : decode cX9_balance 21 = .ok (.getfield 10, 3) := by decide +kernel
theorem dX9_balance_24 : decode cX9_balance 24 = .ok (.getfield 130, 3) := by decide +kernel
theorem dX9_balance_27 : decode cX9_balance 27 = .ok (.invokevirtual 134, 3) := by decide +kernel
theorem dX9_balance_30 : decode cX9_balance 30 = .ok (.ladd, 1) := by decide +kernel
theorem dX9_balance_31 : decode cX9_balance 31 = .ok (.lreturn, 1) := by decide +kernel
theorem dX9_bandFor_0 : decode cX9_bandFor 0 = .ok (.aload_n 0, 1) := by decide +kernel
theorem dX9_bandFor_1 : decode cX9_bandFor 1 = .ok (.iload_n 1, 1) := by decide +kernel
theorem dX9_bandFor_2 : decode cX9_bandFor 2 = .ok (.invokevirtual 140, 3) := by decide +kernel
theorem dX9_bandFor_5 : decode cX9_bandFor 5 = .ok (.aload_n 0, 1) := by decide +kernel
theorem dX9_bandFor_6 : decode cX9_bandFor 6 = .ok (.getfield 10, 3) := by decide +kernel
theorem dX9_bandFor_9 : decode cX9_bandFor 9 = .ok (.getfield 88, 3) := by decide +kernel
theorem dX9_bandFor_12 : decode cX9_bandFor 12 = .ok (.iload_n 1, 1) := by decide +kernel
theorem dX9_bandFor_13 : decode cX9_bandFor 13 = .ok (.invokevirtual 143, 3) := by decide +kernel
theorem dX9_bandFor_16 : decode cX9_bandFor 16 = .ok (.ireturn, 1) := by decide +kernel
theorem dX9_allowed_0 : decode cX9_allowed 0 = .ok (.aload_n 0, 1) := by decide +kernel
theorem dX9_allowed_1 : decode cX9_allowed 1 = .ok (.iload_n 1, 1) := by decide +kernel
theorem dX9_allowed_2 : decode cX9_allowed 2 = .ok (.invokevirtual 140, 3) := by decide +kernel
theorem dX9_allowed_5 : decode cX9_allowed 5 = .ok (.aload_n 0, 1) := by decide +kernel
theorem dX9_allowed_6 : decode cX9_allowed 6 = .ok (.iload_n 2, 1) := by decide +kernel
theorem dX9_allowed_7 : decode cX9_allowed 7 = .ok (.invokevirtual 146, 3) := by decide +kernel
theorem dX9_allowed_10 : decode cX9_allowed 10 = .ok (.iload_n 3, 1) := by decide +kernel
theorem dX9_allowed_11 : decode cX9_allowed 11 = .ok (.ifCond .eq 18, 3) := by decide +kernel
theorem dX9_allowed_14 : decode cX9_allowed 14 = .ok (.aload_n 0, 1) := by decide +kernel
theorem dX9_allowed_15 : decode cX9_allowed 15 = .ok (.getfield 10, 3) := by decide +kernel
theorem dX9_allowed_18 : decode cX9_allowed 18 = .ok (.getfield 88, 3) := by decide +kernel
theorem dX9_allowed_21 : decode cX9_allowed 21 = .ok (.iload_n 1, 1) := by decide +kernel
theorem dX9_allowed_22 : decode cX9_allowed 22 = .ok (.iload_n 2, 1) := by decide +kernel
theorem dX9_allowed_23 : decode cX9_allowed 23 = .ok (.invokevirtual 149, 3) := by decide +kernel
theorem dX9_allowed_26 : decode cX9_allowed 26 = .ok (.goto 15, 3) := by decide +kernel
theorem dX9_allowed_29 : decode cX9_allowed 29 = .ok (.aload_n 0, 1) := by decide +kernel
theorem dX9_allowed_30 : decode cX9_allowed 30 = .ok (.getfield 10, 3) := by decide +kernel
theorem dX9_allowed_33 : decode cX9_allowed 33 = .ok (.getfield 88, 3) := by decide +kernel
theorem dX9_allowed_36 : decode cX9_allowed 36 = .ok (.iload_n 1, 1) := by decide +kernel
theorem dX9_allowed_37 : decode cX9_allowed 37 = .ok (.iload_n 2, 1) := by decide +kernel
theorem dX9_allowed_38 : decode cX9_allowed 38 = .ok (.invokevirtual 153, 3) := by decide +kernel
theorem dX9_allowed_41 : decode cX9_allowed 41 = .ok (.ireturn, 1) := by decide +kernel
theorem dX9_penaltyFor_0 : decode cX9_penaltyFor 0 = .ok (.aload_n 0, 1) := by decide +kernel
theorem dX9_penaltyFor_1 : decode cX9_penaltyFor 1 = .ok (.iload_n 1, 1) := by decide +kernel
theorem dX9_penaltyFor_2 : decode cX9_penaltyFor 2 = .ok (.invokevirtual 146, 3) := by decide +kernel
theorem dX9_penaltyFor_5 : decode cX9_penaltyFor 5 = .ok (.aload_n 0, 1) := by decide +kernel
theorem dX9_penaltyFor_6 : decode cX9_penaltyFor 6 = .ok (.iload_n 2, 1) := by decide +kernel
theorem dX9_penaltyFor_7 : decode cX9_penaltyFor 7 = .ok (.invokevirtual 146, 3) := by decide +kernel
theorem dX9_penaltyFor_10 : decode cX9_penaltyFor 10 = .ok (.aload_n 0, 1) := by decide +kernel
theorem dX9_penaltyFor_11 : decode cX9_penaltyFor 11 = .ok (.getfield 10, 3) := by decide +kernel
theorem dX9_penaltyFor_14 : decode cX9_penaltyFor 14 = .ok (.getfield 88, 3) := by decide +kernel
theorem dX9_penaltyFor_17 : decode cX9_penaltyFor 17 = .ok (.iload_n 1, 1) := by decide +kernel
theorem dX9_penaltyFor_18 : decode cX9_penaltyFor 18 = .ok (.iload_n 2, 1) := by decide +kernel
theorem dX9_penaltyFor_19 : decode cX9_penaltyFor 19 = .ok (.invokevirtual 156, 3) := by decide +kernel
theorem dX9_penaltyFor_22 : decode cX9_penaltyFor 22 = .ok (.ireturn, 1) := by decide +kernel
theorem dX9_breachCount_0 : decode cX9_breachCount 0 = .ok (.aload_n 0, 1) := by decide +kernel
theorem dX9_breachCount_1 : decode cX9_breachCount 1 = .ok (.getfield 10, 3) := by decide +kernel
theorem dX9_breachCount_4 : decode cX9_breachCount 4 = .ok (.getfield 130, 3) := by decide +kernel
theorem dX9_breachCount_7 : decode cX9_breachCount 7 = .ok (.getfield 159, 3) := by decide +kernel
theorem dX9_breachCount_10 : decode cX9_breachCount 10 = .ok (.ireturn, 1) := by decide +kernel
theorem dX9_allBreaches_0 : decode cX9_allBreaches 0 = .ok (.aload_n 0, 1) := by decide +kernel
theorem dX9_allBreaches_1 : decode cX9_allBreaches 1 = .ok (.getfield 10, 3) := by decide +kernel
theorem dX9_allBreaches_4 : decode cX9_allBreaches 4 = .ok (.getfield 130, 3) := by decide +kernel
theorem dX9_allBreaches_7 : decode cX9_allBreaches 7 = .ok (.getfield 162, 3) := by decide +kernel
theorem dX9_allBreaches_10 : decode cX9_allBreaches 10 = .ok (.ireturn, 1) := by decide +kernel
theorem dX9_breachPeriod_0 : decode cX9_breachPeriod 0 = .ok (.aload_n 0, 1) := by decide +kernel
theorem dX9_breachPeriod_1 : decode cX9_breachPeriod 1 = .ok (.iload_n 1, 1) := by decide +kernel
theorem dX9_breachPeriod_2 : decode cX9_breachPeriod 2 = .ok (.invokevirtual 165, 3) := by decide +kernel
theorem dX9_breachPeriod_5 : decode cX9_breachPeriod 5 = .ok (.aload_n 0, 1) := by decide +kernel
theorem dX9_breachPeriod_6 : decode cX9_breachPeriod 6 = .ok (.getfield 10, 3) := by decide +kernel
theorem dX9_breachPeriod_9 : decode cX9_breachPeriod 9 = .ok (.getfield 130, 3) := by decide +kernel
theorem dX9_breachPeriod_12 : decode cX9_breachPeriod 12 = .ok (.getfield 168, 3) := by decide +kernel
theorem dX9_breachPeriod_15 : decode cX9_breachPeriod 15 = .ok (.iload_n 1, 1) := by decide +kernel
theorem dX9_breachPeriod_16 : decode cX9_breachPeriod 16 = .ok (.iaload, 1) := by decide +kernel
theorem dX9_breachPeriod_17 : decode cX9_breachPeriod 17 = .ok (.ireturn, 1) := by decide +kernel
theorem dX9_breachKind_0 : decode cX9_breachKind 0 = .ok (.aload_n 0, 1) := by decide +kernel
theorem dX9_breachKind_1 : decode cX9_breachKind 1 = .ok (.iload_n 1, 1) := by decide +kernel
theorem dX9_breachKind_2 : decode cX9_breachKind 2 = .ok (.invokevirtual 165, 3) := by decide +kernel
theorem dX9_breachKind_5 : decode cX9_breachKind 5 = .ok (.aload_n 0, 1) := by decide +kernel
theorem dX9_breachKind_6 : decode cX9_breachKind 6 = .ok (.getfield 10, 3) := by decide +kernel
theorem dX9_breachKind_9 : decode cX9_breachKind 9 = .ok (.getfield 130, 3) := by decide +kernel
theorem dX9_breachKind_12 : decode cX9_breachKind 12 = .ok (.getfield 171, 3) := by decide +kernel
theorem dX9_breachKind_15 : decode cX9_breachKind 15 = .ok (.iload_n 1, 1) := by decide +kernel
theorem dX9_breachKind_16 : decode cX9_breachKind 16 = .ok (.iaload, 1) := by decide +kernel
theorem dX9_breachKind_17 : decode cX9_breachKind 17 = .ok (.ireturn, 1) := by decide +kernel
theorem dX9_breachPenalty_0 : decode cX9_breachPenalty 0 = .ok (.aload_n 0, 1) := by decide +kernel
theorem dX9_breachPenalty_1 : decode cX9_breachPenalty 1 = .ok (.iload_n 1, 1) := by decide +kernel
theorem dX9_breachPenalty_2 : decode cX9_breachPenalty 2 = .ok (.invokevirtual 165, 3) := by decide +kernel
theorem dX9_breachPenalty_5 : decode cX9_breachPenalty 5 = .ok (.aload_n 0, 1) := by decide +kernel
theorem dX9_breachPenalty_6 : decode cX9_breachPenalty 6 = .ok (.getfield 10, 3) := by decide +kernel
theorem dX9_breachPenalty_9 : decode cX9_breachPenalty 9 = .ok (.getfield 130, 3) := by decide +kernel
theorem dX9_breachPenalty_12 : decode cX9_breachPenalty 12 = .ok (.getfield 174, 3) := by decide +kernel
theorem dX9_breachPenalty_15 : decode cX9_breachPenalty 15 = .ok (.iload_n 1, 1) := by decide +kernel
theorem dX9_breachPenalty_16 : decode cX9_breachPenalty 16 = .ok (.iaload, 1) := by decide +kernel
theorem dX9_breachPenalty_17 : decode cX9_breachPenalty 17 = .ok (.ireturn, 1) := by decide +kernel
theorem dX9_isWaived_0 : decode cX9_isWaived 0 = .ok (.aload_n 0, 1) := by decide +kernel
theorem dX9_isWaived_1 : decode cX9_isWaived 1 = .ok (.iload_n 1, 1) := by decide +kernel
theorem dX9_isWaived_2 : decode cX9_isWaived 2 = .ok (.invokevirtual 165, 3) := by decide +kernel
theorem dX9_isWaived_5 : decode cX9_isWaived 5 = .ok (.aload_n 0, 1) := by decide +kernel
theorem dX9_isWaived_6 : decode cX9_isWaived 6 = .ok (.getfield 10, 3) := by decide +kernel
theorem dX9_isWaived_9 : decode cX9_isWaived 9 = .ok (.getfield 130, 3) := by decide +kernel
theorem dX9_isWaived_12 : decode cX9_isWaived 12 = .ok (.getfield 176, 3) := by decide +kernel
theorem dX9_isWaived_15 : decode cX9_isWaived 15 = .ok (.iload_n 1, 1) := by decide +kernel
theorem dX9_isWaived_16 : decode cX9_isWaived 16 = .ok (.baload, 1) := by decide +kernel
theorem dX9_isWaived_17 : decode cX9_isWaived 17 = .ok (.ireturn, 1) := by decide +kernel
theorem dX9_waiversLeft_0 : decode cX9_waiversLeft 0 = .ok (.aload_n 0, 1) := by decide +kernel
theorem dX9_waiversLeft_1 : decode cX9_waiversLeft 1 = .ok (.getfield 10, 3) := by decide +kernel
theorem dX9_waiversLeft_4 : decode cX9_waiversLeft 4 = .ok (.getfield 88, 3) := by decide +kernel
theorem dX9_waiversLeft_7 : decode cX9_waiversLeft 7 = .ok (.getfield 180, 3) := by decide +kernel
theorem dX9_waiversLeft_10 : decode cX9_waiversLeft 10 = .ok (.aload_n 0, 1) := by decide +kernel
theorem dX9_waiversLeft_11 : decode cX9_waiversLeft 11 = .ok (.getfield 10, 3) := by decide +kernel
theorem dX9_waiversLeft_14 : decode cX9_waiversLeft 14 = .ok (.getfield 130, 3) := by decide +kernel
theorem dX9_waiversLeft_17 : decode cX9_waiversLeft 17 = .ok (.getfield 183, 3) := by decide +kernel
theorem dX9_waiversLeft_20 : decode cX9_waiversLeft 20 = .ok (.isub, 1) := by decide +kernel
theorem dX9_waiversLeft_21 : decode cX9_waiversLeft 21 = .ok (.ireturn, 1) := by decide +kernel
theorem dX9_bestWaiving_0 : decode cX9_bestWaiving 0 = .ok (.aload_n 0, 1) := by decide +kernel
theorem dX9_bestWaiving_1 : decode cX9_bestWaiving 1 = .ok (.getfield 37, 3) := by decide +kernel
theorem dX9_bestWaiving_4 : decode cX9_bestWaiving 4 = .ok (.aload_n 0, 1) := by decide +kernel
theorem dX9_bestWaiving_5 : decode cX9_bestWaiving 5 = .ok (.getfield 10, 3) := by decide +kernel
theorem dX9_bestWaiving_8 : decode cX9_bestWaiving 8 = .ok (.getfield 88, 3) := by decide +kernel
theorem dX9_bestWaiving_11 : decode cX9_bestWaiving 11 = .ok (.aload_n 0, 1) := by decide +kernel
theorem dX9_bestWaiving_12 : decode cX9_bestWaiving 12 = .ok (.getfield 10, 3) := by decide +kernel
theorem dX9_bestWaiving_15 : decode cX9_bestWaiving 15 = .ok (.getfield 130, 3) := by decide +kernel
theorem dX9_bestWaiving_18 : decode cX9_bestWaiving 18 = .ok (.invokevirtual 186, 3) := by decide +kernel
theorem dX9_bestWaiving_21 : decode cX9_bestWaiving 21 = .ok (.aload_n 0, 1) := by decide +kernel
theorem dX9_bestWaiving_22 : decode cX9_bestWaiving 22 = .ok (.getfield 37, 3) := by decide +kernel
theorem dX9_bestWaiving_25 : decode cX9_bestWaiving 25 = .ok (.getfield 190, 3) := by decide +kernel
theorem dX9_bestWaiving_28 : decode cX9_bestWaiving 28 = .ok (.ireturn, 1) := by decide +kernel
theorem dX9_bestWaiver_0 : decode cX9_bestWaiver 0 = .ok (.iload_n 1, 1) := by decide +kernel
theorem dX9_bestWaiver_1 : decode cX9_bestWaiver 1 = .ok (.ifCond .ge 13, 3) := by decide +kernel
theorem dX9_bestWaiver_4 : decode cX9_bestWaiver 4 = .ok (.new 64, 3) := by decide +kernel
theorem dX9_bestWaiver_7 : decode cX9_bestWaiver 7 = .ok (.dup, 1) := by decide +kernel
theorem dX9_bestWaiver_8 : decode cX9_bestWaiver 8 = .ok (.ldc 193, 2) := by decide +kernel
theorem dX9_bestWaiver_10 : decode cX9_bestWaiver 10 = .ok (.invokespecial 68, 3) := by decide +kernel
theorem dX9_bestWaiver_13 : decode cX9_bestWaiver 13 = .ok (.athrow, 1) := by decide +kernel
theorem dX9_bestWaiver_14 : decode cX9_bestWaiver 14 = .ok (.aload_n 0, 1) := by decide +kernel
theorem dX9_bestWaiver_15 : decode cX9_bestWaiver 15 = .ok (.getfield 37, 3) := by decide +kernel
theorem dX9_bestWaiver_18 : decode cX9_bestWaiver 18 = .ok (.aload_n 0, 1) := by decide +kernel
theorem dX9_bestWaiver_19 : decode cX9_bestWaiver 19 = .ok (.getfield 10, 3) := by decide +kernel
theorem dX9_bestWaiver_22 : decode cX9_bestWaiver 22 = .ok (.getfield 88, 3) := by decide +kernel
theorem dX9_bestWaiver_25 : decode cX9_bestWaiver 25 = .ok (.aload_n 0, 1) := by decide +kernel
theorem dX9_bestWaiver_26 : decode cX9_bestWaiver 26 = .ok (.getfield 10, 3) := by decide +kernel
theorem dX9_bestWaiver_29 : decode cX9_bestWaiver 29 = .ok (.getfield 130, 3) := by decide +kernel
theorem dX9_bestWaiver_32 : decode cX9_bestWaiver 32 = .ok (.invokevirtual 186, 3) := by decide +kernel
theorem dX9_bestWaiver_35 : decode cX9_bestWaiver 35 = .ok (.aload_n 0, 1) := by decide +kernel
theorem dX9_bestWaiver_36 : decode cX9_bestWaiver 36 = .ok (.getfield 37, 3) := by decide +kernel
theorem dX9_bestWaiver_39 : decode cX9_bestWaiver 39 = .ok (.iload_n 1, 1) := by decide +kernel
theorem dX9_bestWaiver_40 : decode cX9_bestWaiver 40 = .ok (.invokevirtual 195, 3) := by decide +kernel
theorem dX9_bestWaiver_43 : decode cX9_bestWaiver 43 = .ok (.ireturn, 1) := by decide +kernel
theorem dX9_projected_0 : decode cX9_projected 0 = .ok (.aload_n 0, 1) := by decide +kernel
theorem dX9_projected_1 : decode cX9_projected 1 = .ok (.getfield 48, 3) := by decide +kernel
theorem dX9_projected_4 : decode cX9_projected 4 = .ok (.aload_n 0, 1) := by decide +kernel
theorem dX9_projected_5 : decode cX9_projected 5 = .ok (.getfield 10, 3) := by decide +kernel
theorem dX9_projected_8 : decode cX9_projected 8 = .ok (.getfield 97, 3) := by decide +kernel
theorem dX9_projected_11 : decode cX9_projected 11 = .ok (.invokevirtual 198, 3) := by decide +kernel
theorem dX9_projected_14 : decode cX9_projected 14 = .ok (.aload_n 0, 1) := by decide +kernel
theorem dX9_projected_15 : decode cX9_projected 15 = .ok (.getfield 48, 3) := by decide +kernel
theorem dX9_projected_18 : decode cX9_projected 18 = .ok (.aload_n 0, 1) := by decide +kernel
theorem dX9_projected_19 : decode cX9_projected 19 = .ok (.getfield 10, 3) := by decide +kernel
theorem dX9_projected_22 : decode cX9_projected 22 = .ok (.getfield 88, 3) := by decide +kernel
theorem dX9_projected_25 : decode cX9_projected 25 = .ok (.invokevirtual 201, 3) := by decide +kernel
theorem dX9_projected_28 : decode cX9_projected 28 = .ok (.lreturn, 1) := by decide +kernel
theorem dX9_bestReserved_0 : decode cX9_bestReserved 0 = .ok (.iload_n 1, 1) := by decide +kernel
theorem dX9_bestReserved_1 : decode cX9_bestReserved 1 = .ok (.ifCond .lt 10, 3) := by decide +kernel
theorem dX9_bestReserved_4 : decode cX9_bestReserved 4 = .ok (.iload_n 1, 1) := by decide +kernel
theorem dX9_bestReserved_5 : decode cX9_bestReserved 5 = .ok (.sipush 500, 3) := by decide +kernel
theorem dX9_bestReserved_8 : decode cX9_bestReserved 8 = .ok (.if_icmp .le 13, 3) := by decide +kernel
theorem dX9_bestReserved_11 : decode cX9_bestReserved 11 = .ok (.new 64, 3) := by decide +kernel
theorem dX9_bestReserved_14 : decode cX9_bestReserved 14 = .ok (.dup, 1) := by decide +kernel
theorem dX9_bestReserved_15 : decode cX9_bestReserved 15 = .ok (.ldc 205, 2) := by decide +kernel
theorem dX9_bestReserved_17 : decode cX9_bestReserved 17 = .ok (.invokespecial 68, 3) := by decide +kernel
theorem dX9_bestReserved_20 : decode cX9_bestReserved 20 = .ok (.athrow, 1) := by decide +kernel
theorem dX9_bestReserved_21 : decode cX9_bestReserved 21 = .ok (.aload_n 0, 1) := by decide +kernel
theorem dX9_bestReserved_22 : decode cX9_bestReserved 22 = .ok (.getfield 10, 3) := by decide +kernel
theorem dX9_bestReserved_25 : decode cX9_bestReserved 25 = .ok (.getfield 97, 3) := by decide +kernel
theorem dX9_bestReserved_28 : decode cX9_bestReserved 28 = .ok (.getfield 100, 3) := by decide +kernel
theorem dX9_bestReserved_31 : decode cX9_bestReserved 31 = .ok (.iconst 1, 1) := by decide +kernel
theorem dX9_bestReserved_32 : decode cX9_bestReserved 32 = .ok (.iadd, 1) := by decide +kernel
theorem dX9_bestReserved_33 : decode cX9_bestReserved 33 = .ok (.aload_n 0, 1) := by decide +kernel
theorem dX9_bestReserved_34 : decode cX9_bestReserved 34 = .ok (.getfield 10, 3) := by decide +kernel
theorem dX9_bestReserved_37 : decode cX9_bestReserved 37 = .ok (.getfield 88, 3) := by decide +kernel
theorem dX9_bestReserved_40 : decode cX9_bestReserved 40 = .ok (.getfield 92, 3) := by decide +kernel
theorem dX9_bestReserved_43 : decode cX9_bestReserved 43 = .ok (.if_icmp .lt 13, 3) := by decide +kernel
theorem dX9_bestReserved_46 : decode cX9_bestReserved 46 = .ok (.new 207, 3) := by decide +kernel
theorem dX9_bestReserved_49 : decode cX9_bestReserved 49 = .ok (.dup, 1) := by decide +kernel
theorem dX9_bestReserved_50 : decode cX9_bestReserved 50 = .ok (.ldc 209, 2) := by decide +kernel
theorem dX9_bestReserved_52 : decode cX9_bestReserved 52 = .ok (.invokespecial 211, 3) := by decide +kernel
theorem dX9_bestReserved_55 : decode cX9_bestReserved 55 = .ok (.athrow, 1) := by decide +kernel
theorem dX9_bestReserved_56 : decode cX9_bestReserved 56 = .ok (.aload_n 0, 1) := by decide +kernel
theorem dX9_bestReserved_57 : decode cX9_bestReserved 57 = .ok (.iload_n 1, 1) := by decide +kernel
theorem dX9_bestReserved_58 : decode cX9_bestReserved 58 = .ok (.invokevirtual 212, 3) := by decide +kernel
theorem dX9_bestReserved_61 : decode cX9_bestReserved 61 = .ok (.ireturn, 1) := by decide +kernel
theorem dX9_forecast_0 : decode cX9_forecast 0 = .ok (.aload_n 0, 1) := by decide +kernel
theorem dX9_forecast_1 : decode cX9_forecast 1 = .ok (.iload_n 1, 1) := by decide +kernel
theorem dX9_forecast_2 : decode cX9_forecast 2 = .ok (.iload_n 2, 1) := by decide +kernel
theorem dX9_forecast_3 : decode cX9_forecast 3 = .ok (.invokevirtual 215, 3) := by decide +kernel
theorem dX9_forecast_6 : decode cX9_forecast 6 = .ok (.aload_n 0, 1) := by decide +kernel
theorem dX9_forecast_7 : decode cX9_forecast 7 = .ok (.getfield 19, 3) := by decide +kernel
theorem dX9_forecast_10 : decode cX9_forecast 10 = .ok (.aload_n 0, 1) := by decide +kernel
theorem dX9_forecast_11 : decode cX9_forecast 11 = .ok (.getfield 10, 3) := by decide +kernel
theorem dX9_forecast_14 : decode cX9_forecast 14 = .ok (.invokevirtual 78, 3) := by decide +kernel
theorem dX9_forecast_17 : decode cX9_forecast 17 = .ok (.iload_n 1, 1) := by decide +kernel
theorem dX9_forecast_18 : decode cX9_forecast 18 = .ok (.aload_n 0, 1) := by decide +kernel
theorem dX9_forecast_19 : decode cX9_forecast 19 = .ok (.getfield 10, 3) := by decide +kernel
theorem dX9_forecast_22 : decode cX9_forecast 22 = .ok (.getfield 97, 3) := by decide +kernel
theorem dX9_forecast_25 : decode cX9_forecast 25 = .ok (.getfield 100, 3) := by decide +kernel
theorem dX9_forecast_28 : decode cX9_forecast 28 = .ok (.isub, 1) := by decide +kernel
theorem dX9_forecast_29 : decode cX9_forecast 29 = .ok (.istore_n 3, 1) := by decide +kernel
theorem dX9_forecast_30 : decode cX9_forecast 30 = .ok (.aload_n 0, 1) := by decide +kernel
theorem dX9_forecast_31 : decode cX9_forecast 31 = .ok (.iload_n 1, 1) := by decide +kernel
theorem dX9_forecast_32 : decode cX9_forecast 32 = .ok (.iconst 1, 1) := by decide +kernel
theorem dX9_forecast_33 : decode cX9_forecast 33 = .ok (.iload_n 3, 1) := by decide +kernel
theorem dX9_forecast_34 : decode cX9_forecast 34 = .ok (.iload_n 2, 1) := by decide +kernel
theorem dX9_forecast_35 : decode cX9_forecast 35 = .ok (.invokevirtual 219, 3) := by decide +kernel
theorem dX9_forecast_38 : decode cX9_forecast 38 = .ok (.istore 4, 2) := by decide +kernel
theorem dX9_forecast_40 : decode cX9_forecast 40 = .ok (.aload_n 0, 1) := by decide +kernel
theorem dX9_forecast_41 : decode cX9_forecast 41 = .ok (.getfield 10, 3) := by decide +kernel
theorem dX9_forecast_44 : decode cX9_forecast 44 = .ok (.getfield 97, 3) := by decide +kernel
theorem dX9_forecast_47 : decode cX9_forecast 47 = .ok (.getfield 110, 3) := by decide +kernel
theorem dX9_forecast_50 : decode cX9_forecast 50 = .ok (.iload_n 1, 1) := by decide +kernel
theorem dX9_forecast_51 : decode cX9_forecast 51 = .ok (.iload_n 2, 1) := by decide +kernel
theorem dX9_forecast_52 : decode cX9_forecast 52 = .ok (.iastore, 1) := by decide +kernel
theorem dX9_forecast_53 : decode cX9_forecast 53 = .ok (.iload 4, 2) := by decide +kernel
theorem dX9_forecast_55 : decode cX9_forecast 55 = .ok (.ireturn, 1) := by decide +kernel
theorem dX9_order_0 : decode cX9_order 0 = .ok (.aload_n 0, 1) := by decide +kernel
theorem dX9_order_1 : decode cX9_order 1 = .ok (.iload_n 1, 1) := by decide +kernel
theorem dX9_order_2 : decode cX9_order 2 = .ok (.invokevirtual 146, 3) := by decide +kernel
theorem dX9_order_5 : decode cX9_order 5 = .ok (.aload_n 0, 1) := by decide +kernel
theorem dX9_order_6 : decode cX9_order 6 = .ok (.invokevirtual 223, 3) := by decide +kernel
theorem dX9_order_9 : decode cX9_order 9 = .ok (.aload_n 0, 1) := by decide +kernel
theorem dX9_order_10 : decode cX9_order 10 = .ok (.getfield 10, 3) := by decide +kernel
theorem dX9_order_13 : decode cX9_order 13 = .ok (.getfield 97, 3) := by decide +kernel
theorem dX9_order_16 : decode cX9_order 16 = .ok (.getfield 100, 3) := by decide +kernel
theorem dX9_order_19 : decode cX9_order 19 = .ok (.istore_n 2, 1) := by decide +kernel
theorem dX9_order_20 : decode cX9_order 20 = .ok (.aload_n 0, 1) := by decide +kernel
theorem dX9_order_21 : decode cX9_order 21 = .ok (.getfield 10, 3) := by decide +kernel
theorem dX9_order_24 : decode cX9_order 24 = .ok (.getfield 97, 3) := by decide +kernel
theorem dX9_order_27 : decode cX9_order 27 = .ok (.getfield 113, 3) := by decide +kernel
theorem dX9_order_30 : decode cX9_order 30 = .ok (.iload_n 2, 1) := by decide +kernel
theorem dX9_order_31 : decode cX9_order 31 = .ok (.iaload, 1) := by decide +kernel
theorem dX9_order_32 : decode cX9_order 32 = .ok (.ifCond .lt 13, 3) := by decide +kernel
theorem dX9_order_35 : decode cX9_order 35 = .ok (.new 207, 3) := by decide +kernel
theorem dX9_order_38 : decode cX9_order 38 = .ok (.dup, 1) := by decide +kernel
theorem dX9_order_39 : decode cX9_order 39 = .ok (.ldc 226, 2) := by decide +kernel
theorem dX9_order_41 : decode cX9_order 41 = .ok (.invokespecial 211, 3) := by decide +kernel
theorem dX9_order_44 : decode cX9_order 44 = .ok (.athrow, 1) := by decide +kernel
theorem dX9_order_45 : decode cX9_order 45 = .ok (.aload_n 0, 1) := by decide +kernel
theorem dX9_order_46 : decode cX9_order 46 = .ok (.getfield 19, 3) := by decide +kernel
theorem dX9_order_49 : decode cX9_order 49 = .ok (.aload_n 0, 1) := by decide +kernel
theorem dX9_order_50 : decode cX9_order 50 = .ok (.getfield 10, 3) := by decide +kernel
theorem dX9_order_53 : decode cX9_order 53 = .ok (.invokevirtual 78, 3) := by decide +kernel
theorem dX9_order_56 : decode cX9_order 56 = .ok (.aload_n 0, 1) := by decide +kernel
theorem dX9_order_57 : decode cX9_order 57 = .ok (.getfield 10, 3) := by decide +kernel
theorem dX9_order_60 : decode cX9_order 60 = .ok (.getfield 97, 3) := by decide +kernel
theorem dX9_order_63 : decode cX9_order 63 = .ok (.iload_n 1, 1) := by decide +kernel
theorem dX9_order_64 : decode cX9_order 64 = .ok (.invokevirtual 228, 3) := by decide +kernel
theorem dX9_order_67 : decode cX9_order 67 = .ok (.aload_n 0, 1) := by decide +kernel
theorem dX9_order_68 : decode cX9_order 68 = .ok (.iload_n 2, 1) := by decide +kernel
theorem dX9_order_69 : decode cX9_order 69 = .ok (.iconst 2, 1) := by decide +kernel
theorem dX9_order_70 : decode cX9_order 70 = .ok (.iconst 0, 1) := by decide +kernel
theorem dX9_order_71 : decode cX9_order 71 = .ok (.iload_n 1, 1) := by decide +kernel
theorem dX9_order_72 : decode cX9_order 72 = .ok (.invokevirtual 219, 3) := by decide +kernel
theorem dX9_order_75 : decode cX9_order 75 = .ok (.ireturn, 1) := by decide +kernel
theorem dX9_close_0 : decode cX9_close 0 = .ok (.aload_n 0, 1) := by decide +kernel
theorem dX9_close_1 : decode cX9_close 1 = .ok (.invokevirtual 223, 3) := by decide +kernel
theorem dX9_close_4 : decode cX9_close 4 = .ok (.aload_n 0, 1) := by decide +kernel
theorem dX9_close_5 : decode cX9_close 5 = .ok (.getfield 19, 3) := by decide +kernel
theorem dX9_close_8 : decode cX9_close 8 = .ok (.aload_n 0, 1) := by decide +kernel
theorem dX9_close_9 : decode cX9_close 9 = .ok (.getfield 10, 3) := by decide +kernel
theorem dX9_close_12 : decode cX9_close 12 = .ok (.invokevirtual 78, 3) := by decide +kernel
theorem dX9_close_15 : decode cX9_close 15 = .ok (.aload_n 0, 1) := by decide +kernel
theorem dX9_close_16 : decode cX9_close 16 = .ok (.getfield 10, 3) := by decide +kernel
theorem dX9_close_19 : decode cX9_close 19 = .ok (.getfield 97, 3) := by decide +kernel
theorem dX9_close_22 : decode cX9_close 22 = .ok (.aload_n 0, 1) := by decide +kernel
theorem dX9_close_23 : decode cX9_close 23 = .ok (.getfield 10, 3) := by decide +kernel
theorem dX9_close_26 : decode cX9_close 26 = .ok (.getfield 88, 3) := by decide +kernel
theorem dX9_close_29 : decode cX9_close 29 = .ok (.invokevirtual 231, 3) := by decide +kernel
theorem dX9_close_32 : decode cX9_close 32 = .ok (.lreturn, 1) := by decide +kernel
theorem dX9_reserve_0 : decode cX9_reserve 0 = .ok (.aload_n 0, 1) := by decide +kernel
theorem dX9_reserve_1 : decode cX9_reserve 1 = .ok (.iload_n 1, 1) := by decide +kernel
theorem dX9_reserve_2 : decode cX9_reserve 2 = .ok (.iload_n 2, 1) := by decide +kernel
theorem dX9_reserve_3 : decode cX9_reserve 3 = .ok (.invokevirtual 215, 3) := by decide +kernel
theorem dX9_reserve_6 : decode cX9_reserve 6 = .ok (.aload_n 0, 1) := by decide +kernel
theorem dX9_reserve_7 : decode cX9_reserve 7 = .ok (.getfield 19, 3) := by decide +kernel
theorem dX9_reserve_10 : decode cX9_reserve 10 = .ok (.aload_n 0, 1) := by decide +kernel
theorem dX9_reserve_11 : decode cX9_reserve 11 = .ok (.getfield 10, 3) := by decide +kernel
theorem dX9_reserve_14 : decode cX9_reserve 14 = .ok (.invokevirtual 78, 3) := by decide +kernel
theorem dX9_reserve_17 : decode cX9_reserve 17 = .ok (.aload_n 0, 1) := by decide +kernel
theorem dX9_reserve_18 : decode cX9_reserve 18 = .ok (.getfield 10, 3) := by decide +kernel
theorem dX9_reserve_21 : decode cX9_reserve 21 = .ok (.getfield 97, 3) := by decide +kernel
theorem dX9_reserve_24 : decode cX9_reserve 24 = .ok (.iload_n 1, 1) := by decide +kernel
theorem dX9_reserve_25 : decode cX9_reserve 25 = .ok (.aload_n 0, 1) := by decide +kernel
theorem dX9_reserve_26 : decode cX9_reserve 26 = .ok (.getfield 10, 3) := by decide +kernel
theorem dX9_reserve_29 : decode cX9_reserve 29 = .ok (.getfield 88, 3) := by decide +kernel
theorem dX9_reserve_32 : decode cX9_reserve 32 = .ok (.getfield 92, 3) := by decide +kernel
theorem dX9_reserve_35 : decode cX9_reserve 35 = .ok (.iload_n 2, 1) := by decide +kernel
theorem dX9_reserve_36 : decode cX9_reserve 36 = .ok (.invokevirtual 234, 3) := by decide +kernel
theorem dX9_reserve_39 : decode cX9_reserve 39 = .ok (.ireturn, 1) := by decide +kernel
theorem dX9_waive_0 : decode cX9_waive 0 = .ok (.aload_n 0, 1) := by decide +kernel
theorem dX9_waive_1 : decode cX9_waive 1 = .ok (.iload_n 1, 1) := by decide +kernel
theorem dX9_waive_2 : decode cX9_waive 2 = .ok (.invokevirtual 165, 3) := by decide +kernel
theorem dX9_waive_5 : decode cX9_waive 5 = .ok (.aload_n 0, 1) := by decide +kernel
theorem dX9_waive_6 : decode cX9_waive 6 = .ok (.getfield 10, 3) := by decide +kernel
theorem dX9_waive_9 : decode cX9_waive 9 = .ok (.getfield 130, 3) := by decide +kernel
theorem dX9_waive_12 : decode cX9_waive 12 = .ok (.iload_n 1, 1) := by decide +kernel
theorem dX9_waive_13 : decode cX9_waive 13 = .ok (.aload_n 0, 1) := by decide +kernel
theorem dX9_waive_14 : decode cX9_waive 14 = .ok (.getfield 10, 3) := by decide +kernel
theorem dX9_waive_17 : decode cX9_waive 17 = .ok (.getfield 88, 3) := by decide +kernel
theorem dX9_waive_20 : decode cX9_waive 20 = .ok (.invokevirtual 238, 3) := by decide +kernel
theorem dX9_waive_23 : decode cX9_waive 23 = .ok (.ifCond .ne 13, 3) := by decide +kernel
theorem dX9_waive_26 : decode cX9_waive 26 = .ok (.new 207, 3) := by decide +kernel
theorem dX9_waive_29 : decode cX9_waive 29 = .ok (.dup, 1) := by decide +kernel
theorem dX9_waive_30 : decode cX9_waive 30 = .ok (.ldc 242, 2) := by decide +kernel
theorem dX9_waive_32 : decode cX9_waive 32 = .ok (.invokespecial 211, 3) := by decide +kernel
theorem dX9_waive_35 : decode cX9_waive 35 = .ok (.athrow, 1) := by decide +kernel
theorem dX9_waive_36 : decode cX9_waive 36 = .ok (.aload_n 0, 1) := by decide +kernel
theorem dX9_waive_37 : decode cX9_waive 37 = .ok (.getfield 19, 3) := by decide +kernel
theorem dX9_waive_40 : decode cX9_waive 40 = .ok (.aload_n 0, 1) := by decide +kernel
theorem dX9_waive_41 : decode cX9_waive 41 = .ok (.getfield 10, 3) := by decide +kernel
theorem dX9_waive_44 : decode cX9_waive 44 = .ok (.invokevirtual 78, 3) := by decide +kernel
theorem dX9_waive_47 : decode cX9_waive 47 = .ok (.aload_n 0, 1) := by decide +kernel
theorem dX9_waive_48 : decode cX9_waive 48 = .ok (.getfield 10, 3) := by decide +kernel
theorem dX9_waive_51 : decode cX9_waive 51 = .ok (.getfield 130, 3) := by decide +kernel
theorem dX9_waive_54 : decode cX9_waive 54 = .ok (.iload_n 1, 1) := by decide +kernel
theorem dX9_waive_55 : decode cX9_waive 55 = .ok (.invokevirtual 244, 3) := by decide +kernel
theorem dX9_waive_58 : decode cX9_waive 58 = .ok (.ireturn, 1) := by decide +kernel
theorem dX9_undo_0 : decode cX9_undo 0 = .ok (.aload_n 0, 1) := by decide +kernel
theorem dX9_undo_1 : decode cX9_undo 1 = .ok (.getfield 19, 3) := by decide +kernel
theorem dX9_undo_4 : decode cX9_undo 4 = .ok (.aload_n 0, 1) := by decide +kernel
theorem dX9_undo_5 : decode cX9_undo 5 = .ok (.getfield 10, 3) := by decide +kernel
theorem dX9_undo_8 : decode cX9_undo 8 = .ok (.invokevirtual 247, 3) := by decide +kernel
theorem dX9_undo_11 : decode cX9_undo 11 = .ok (.ireturn, 1) := by decide +kernel
theorem dX9_checksum_0 : decode cX9_checksum 0 = .ok (.aload_n 0, 1) := by decide +kernel
theorem dX9_checksum_1 : decode cX9_checksum 1 = .ok (.getfield 10, 3) := by decide +kernel
theorem dX9_checksum_4 : decode cX9_checksum 4 = .ok (.getfield 97, 3) := by decide +kernel
theorem dX9_checksum_7 : decode cX9_checksum 7 = .ok (.getfield 100, 3) := by decide +kernel
theorem dX9_checksum_10 : decode cX9_checksum 10 = .ok (.i2l, 1) := by decide +kernel
theorem dX9_checksum_11 : decode cX9_checksum 11 = .ok (.lstore_n 1, 1) := by decide +kernel
theorem dX9_checksum_12 : decode cX9_checksum 12 = .ok (.ldc2_w 251, 3) := by decide +kernel
theorem dX9_checksum_15 : decode cX9_checksum 15 = .ok (.lload_n 1, 1) := by decide +kernel
theorem dX9_checksum_16 : decode cX9_checksum 16 = .ok (.lmul, 1) := by decide +kernel
theorem dX9_checksum_17 : decode cX9_checksum 17 = .ok (.aload_n 0, 1) := by decide +kernel
theorem dX9_checksum_18 : decode cX9_checksum 18 = .ok (.invokevirtual 253, 3) := by decide +kernel
theorem dX9_checksum_21 : decode cX9_checksum 21 = .ok (.ladd, 1) := by decide +kernel
theorem dX9_checksum_22 : decode cX9_checksum 22 = .ok (.lstore_n 1, 1) := by decide +kernel
theorem dX9_checksum_23 : decode cX9_checksum 23 = .ok (.ldc2_w 251, 3) := by decide +kernel
theorem dX9_checksum_26 : decode cX9_checksum 26 = .ok (.lload_n 1, 1) := by decide +kernel
theorem dX9_checksum_27 : decode cX9_checksum 27 = .ok (.lmul, 1) := by decide +kernel
theorem dX9_checksum_28 : decode cX9_checksum 28 = .ok (.aload_n 0, 1) := by decide +kernel
theorem dX9_checksum_29 : decode cX9_checksum 29 = .ok (.getfield 10, 3) := by decide +kernel
theorem dX9_checksum_32 : decode cX9_checksum 32 = .ok (.getfield 130, 3) := by decide +kernel
theorem dX9_checksum_35 : decode cX9_checksum 35 = .ok (.getfield 162, 3) := by decide +kernel
theorem dX9_checksum_38 : decode cX9_checksum 38 = .ok (.i2l, 1) := by decide +kernel
theorem dX9_checksum_39 : decode cX9_checksum 39 = .ok (.ladd, 1) := by decide +kernel
theorem dX9_checksum_40 : decode cX9_checksum 40 = .ok (.lstore_n 1, 1) := by decide +kernel
theorem dX9_checksum_41 : decode cX9_checksum 41 = .ok (.aload_n 0, 1) := by decide +kernel
theorem dX9_checksum_42 : decode cX9_checksum 42 = .ok (.getfield 10, 3) := by decide +kernel
theorem dX9_checksum_45 : decode cX9_checksum 45 = .ok (.getfield 97, 3) := by decide +kernel
theorem dX9_checksum_48 : decode cX9_checksum 48 = .ok (.lload_n 1, 1) := by decide +kernel
theorem dX9_checksum_49 : decode cX9_checksum 49 = .ok (.aload_n 0, 1) := by decide +kernel
theorem dX9_checksum_50 : decode cX9_checksum 50 = .ok (.getfield 10, 3) := by decide +kernel
theorem dX9_checksum_53 : decode cX9_checksum 53 = .ok (.getfield 88, 3) := by decide +kernel
theorem dX9_checksum_56 : decode cX9_checksum 56 = .ok (.getfield 92, 3) := by decide +kernel
theorem dX9_checksum_59 : decode cX9_checksum 59 = .ok (.invokevirtual 256, 3) := by decide +kernel
theorem dX9_checksum_62 : decode cX9_checksum 62 = .ok (.lstore_n 1, 1) := by decide +kernel
theorem dX9_checksum_63 : decode cX9_checksum 63 = .ok (.aload_n 0, 1) := by decide +kernel
theorem dX9_checksum_64 : decode cX9_checksum 64 = .ok (.getfield 10, 3) := by decide +kernel
theorem dX9_checksum_67 : decode cX9_checksum 67 = .ok (.getfield 130, 3) := by decide +kernel
theorem dX9_checksum_70 : decode cX9_checksum 70 = .ok (.lload_n 1, 1) := by decide +kernel
theorem dX9_checksum_71 : decode cX9_checksum 71 = .ok (.invokevirtual 260, 3) := by decide +kernel
theorem dX9_checksum_74 : decode cX9_checksum 74 = .ok (.lreturn, 1) := by decide +kernel
theorem dX9_checkPeriod_0 : decode cX9_checkPeriod 0 = .ok (.iload_n 1, 1) := by decide +kernel
theorem dX9_checkPeriod_1 : decode cX9_checkPeriod 1 = .ok (.ifCond .lt 17, 3) := by decide +kernel
theorem dX9_checkPeriod_4 : decode cX9_checkPeriod 4 = .ok (.iload_n 1, 1) := by decide +kernel
theorem dX9_checkPeriod_5 : decode cX9_checkPeriod 5 = .ok (.aload_n 0, 1) := by decide +kernel
theorem dX9_checkPeriod_6 : decode cX9_checkPeriod 6 = .ok (.getfield 10, 3) := by decide +kernel
theorem dX9_checkPeriod_9 : decode cX9_checkPeriod 9 = .ok (.getfield 88, 3) := by decide +kernel
theorem dX9_checkPeriod_12 : decode cX9_checkPeriod 12 = .ok (.getfield 92, 3) := by decide +kernel
theorem dX9_checkPeriod_15 : decode cX9_checkPeriod 15 = .ok (.if_icmp .lt 14, 3) := by decide +kernel
theorem dX9_checkPeriod_18 : decode cX9_checkPeriod 18 = .ok (.new 263, 3) := by decide +kernel
theorem dX9_checkPeriod_21 : decode cX9_checkPeriod 21 = .ok (.dup, 1) := by decide +kernel
theorem dX9_checkPeriod_22 : decode cX9_checkPeriod 22 = .ok (.ldc_w 265, 3) := by decide +kernel
theorem dX9_checkPeriod_25 : decode cX9_checkPeriod 25 = .ok (.invokespecial 267, 3) := by decide +kernel
theorem dX9_checkPeriod_28 : decode cX9_checkPeriod 28 = .ok (.athrow, 1) := by decide +kernel
theorem dX9_checkPeriod_29 : decode cX9_checkPeriod 29 = .ok (.return_, 1) := by decide +kernel
theorem dX9_checkBreach_0 : decode cX9_checkBreach 0 = .ok (.iload_n 1, 1) := by decide +kernel
theorem dX9_checkBreach_1 : decode cX9_checkBreach 1 = .ok (.ifCond .lt 17, 3) := by decide +kernel
theorem dX9_checkBreach_4 : decode cX9_checkBreach 4 = .ok (.iload_n 1, 1) := by decide +kernel
theorem dX9_checkBreach_5 : decode cX9_checkBreach 5 = .ok (.aload_n 0, 1) := by decide +kernel
theorem dX9_checkBreach_6 : decode cX9_checkBreach 6 = .ok (.getfield 10, 3) := by decide +kernel
theorem dX9_checkBreach_9 : decode cX9_checkBreach 9 = .ok (.getfield 130, 3) := by decide +kernel
theorem dX9_checkBreach_12 : decode cX9_checkBreach 12 = .ok (.getfield 159, 3) := by decide +kernel
theorem dX9_checkBreach_15 : decode cX9_checkBreach 15 = .ok (.if_icmp .lt 14, 3) := by decide +kernel
theorem dX9_checkBreach_18 : decode cX9_checkBreach 18 = .ok (.new 263, 3) := by decide +kernel
theorem dX9_checkBreach_21 : decode cX9_checkBreach 21 = .ok (.dup, 1) := by decide +kernel
theorem dX9_checkBreach_22 : decode cX9_checkBreach 22 = .ok (.ldc_w 268, 3) := by decide +kernel
theorem dX9_checkBreach_25 : decode cX9_checkBreach 25 = .ok (.invokespecial 267, 3) := by decide +kernel
theorem dX9_checkBreach_28 : decode cX9_checkBreach 28 = .ok (.athrow, 1) := by decide +kernel
theorem dX9_checkBreach_29 : decode cX9_checkBreach 29 = .ok (.return_, 1) := by decide +kernel
theorem dX9_checkLead_0 : decode cX9_checkLead 0 = .ok (.iload_n 1, 1) := by decide +kernel
theorem dX9_checkLead_1 : decode cX9_checkLead 1 = .ok (.ifCond .lt 9, 3) := by decide +kernel
theorem dX9_checkLead_4 : decode cX9_checkLead 4 = .ok (.iload_n 1, 1) := by decide +kernel
theorem dX9_checkLead_5 : decode cX9_checkLead 5 = .ok (.bipush 40, 2) := by decide +kernel
theorem dX9_checkLead_7 : decode cX9_checkLead 7 = .ok (.if_icmp .lt 14, 3) := by decide +kernel
theorem dX9_checkLead_10 : decode cX9_checkLead 10 = .ok (.new 64, 3) := by decide +kernel
theorem dX9_checkLead_13 : decode cX9_checkLead 13 = .ok (.dup, 1) := by decide +kernel
theorem dX9_checkLead_14 : decode cX9_checkLead 14 = .ok (.ldc_w 270, 3) := by decide +kernel
theorem dX9_checkLead_17 : decode cX9_checkLead 17 = .ok (.invokespecial 68, 3) := by decide +kernel
theorem dX9_checkLead_20 : decode cX9_checkLead 20 = .ok (.athrow, 1) := by decide +kernel
theorem dX9_checkLead_21 : decode cX9_checkLead 21 = .ok (.return_, 1) := by decide +kernel
theorem dX9_checkUnits_0 : decode cX9_checkUnits 0 = .ok (.iload_n 1, 1) := by decide +kernel
theorem dX9_checkUnits_1 : decode cX9_checkUnits 1 = .ok (.ifCond .lt 10, 3) := by decide +kernel
theorem dX9_checkUnits_4 : decode cX9_checkUnits 4 = .ok (.iload_n 1, 1) := by decide +kernel
theorem dX9_checkUnits_5 : decode cX9_checkUnits 5 = .ok (.sipush 9999, 3) := by decide +kernel
theorem dX9_checkUnits_8 : decode cX9_checkUnits 8 = .ok (.if_icmp .le 14, 3) := by decide +kernel
theorem dX9_checkUnits_11 : decode cX9_checkUnits 11 = .ok (.new 64, 3) := by decide +kernel
theorem dX9_checkUnits_14 : decode cX9_checkUnits 14 = .ok (.dup, 1) := by decide +kernel
theorem dX9_checkUnits_15 : decode cX9_checkUnits 15 = .ok (.ldc_w 272, 3) := by decide +kernel
theorem dX9_checkUnits_18 : decode cX9_checkUnits 18 = .ok (.invokespecial 68, 3) := by decide +kernel
theorem dX9_checkUnits_21 : decode cX9_checkUnits 21 = .ok (.athrow, 1) := by decide +kernel
theorem dX9_checkUnits_22 : decode cX9_checkUnits 22 = .ok (.return_, 1) := by decide +kernel
theorem dX9_checkRunning_0 : decode cX9_checkRunning 0 = .ok (.aload_n 0, 1) := by decide +kernel
theorem dX9_checkRunning_1 : decode cX9_checkRunning 1 = .ok (.getfield 10, 3) := by decide +kernel
theorem dX9_checkRunning_4 : decode cX9_checkRunning 4 = .ok (.getfield 97, 3) := by decide +kernel
theorem dX9_checkRunning_7 : decode cX9_checkRunning 7 = .ok (.getfield 100, 3) := by decide +kernel
theorem dX9_checkRunning_10 : decode cX9_checkRunning 10 = .ok (.aload_n 0, 1) := by decide +kernel
theorem dX9_checkRunning_11 : decode cX9_checkRunning 11 = .ok (.getfield 10, 3) := by decide +kernel
theorem dX9_checkRunning_14 : decode cX9_checkRunning 14 = .ok (.getfield 88, 3) := by decide +kernel
theorem dX9_checkRunning_17 : decode cX9_checkRunning 17 = .ok (.getfield 92, 3) := by decide +kernel
theorem dX9_checkRunning_20 : decode cX9_checkRunning 20 = .ok (.if_icmp .lt 14, 3) := by decide +kernel
theorem dX9_checkRunning_23 : decode cX9_checkRunning 23 = .ok (.new 207, 3) := by decide +kernel
theorem dX9_checkRunning_26 : decode cX9_checkRunning 26 = .ok (.dup, 1) := by decide +kernel
theorem dX9_checkRunning_27 : decode cX9_checkRunning 27 = .ok (.ldc_w 274, 3) := by decide +kernel
theorem dX9_checkRunning_30 : decode cX9_checkRunning 30 = .ok (.invokespecial 211, 3) := by decide +kernel
theorem dX9_checkRunning_33 : decode cX9_checkRunning 33 = .ok (.athrow, 1) := by decide +kernel
theorem dX9_checkRunning_34 : decode cX9_checkRunning 34 = .ok (.return_, 1) := by decide +kernel
theorem dX9_checkLaterPeriod_0 : decode cX9_checkLaterPeriod 0 = .ok (.aload_n 0, 1) := by decide +kernel
theorem dX9_checkLaterPeriod_1 : decode cX9_checkLaterPeriod 1 = .ok (.iload_n 1, 1) := by decide +kernel
theorem dX9_checkLaterPeriod_2 : decode cX9_checkLaterPeriod 2 = .ok (.invokevirtual 103, 3) := by decide +kernel
theorem dX9_checkLaterPeriod_5 : decode cX9_checkLaterPeriod 5 = .ok (.aload_n 0, 1) := by decide +kernel
theorem dX9_checkLaterPeriod_6 : decode cX9_checkLaterPeriod 6 = .ok (.iload_n 2, 1) := by decide +kernel
theorem dX9_checkLaterPeriod_7 : decode cX9_checkLaterPeriod 7 = .ok (.invokevirtual 146, 3) := by decide +kernel
theorem dX9_checkLaterPeriod_10 : decode cX9_checkLaterPeriod 10 = .ok (.iload_n 1, 1) := by decide +kernel
theorem dX9_checkLaterPeriod_11 : decode cX9_checkLaterPeriod 11 = .ok (.aload_n 0, 1) := by decide +kernel
theorem dX9_checkLaterPeriod_12 : decode cX9_checkLaterPeriod 12 = .ok (.getfield 10, 3) := by decide +kernel
theorem dX9_checkLaterPeriod_15 : decode cX9_checkLaterPeriod 15 = .ok (.getfield 97, 3) := by decide +kernel
theorem dX9_checkLaterPeriod_18 : decode cX9_checkLaterPeriod 18 = .ok (.getfield 100, 3) := by decide +kernel
theorem dX9_checkLaterPeriod_21 : decode cX9_checkLaterPeriod 21 = .ok (.if_icmp .gt 14, 3) := by decide +kernel
theorem dX9_checkLaterPeriod_24 : decode cX9_checkLaterPeriod 24 = .ok (.new 207, 3) := by decide +kernel
theorem dX9_checkLaterPeriod_27 : decode cX9_checkLaterPeriod 27 = .ok (.dup, 1) := by decide +kernel
theorem dX9_checkLaterPeriod_28 : decode cX9_checkLaterPeriod 28 = .ok (.ldc_w 276, 3) := by decide +kernel
theorem dX9_checkLaterPeriod_31 : decode cX9_checkLaterPeriod 31 = .ok (.invokespecial 211, 3) := by decide +kernel
theorem dX9_checkLaterPeriod_34 : decode cX9_checkLaterPeriod 34 = .ok (.athrow, 1) := by decide +kernel
theorem dX9_checkLaterPeriod_35 : decode cX9_checkLaterPeriod 35 = .ok (.return_, 1) := by decide +kernel
theorem dX9_recordIfBreach_0 : decode cX9_recordIfBreach 0 = .ok (.aload_n 0, 1) := by decide +kernel
theorem dX9_recordIfBreach_1 : decode cX9_recordIfBreach 1 = .ok (.getfield 10, 3) := by decide +kernel
theorem dX9_recordIfBreach_4 : decode cX9_recordIfBreach 4 = .ok (.getfield 97, 3) := by decide +kernel
theorem dX9_recordIfBreach_7 : decode cX9_recordIfBreach 7 = .ok (.getfield 110, 3) := by decide +kernel
theorem dX9_recordIfBreach_10 : decode cX9_recordIfBreach 10 = .ok (.iload_n 1, 1) := by decide +kernel
theorem dX9_recordIfBreach_11 : decode cX9_recordIfBreach 11 = .ok (.iaload, 1) := by decide +kernel
theorem dX9_recordIfBreach_12 : decode cX9_recordIfBreach 12 = .ok (.istore 5, 2) := by decide +kernel
theorem dX9_recordIfBreach_14 : decode cX9_recordIfBreach 14 = .ok (.aload_n 0, 1) := by decide +kernel
theorem dX9_recordIfBreach_15 : decode cX9_recordIfBreach 15 = .ok (.getfield 10, 3) := by decide +kernel
theorem dX9_recordIfBreach_18 : decode cX9_recordIfBreach 18 = .ok (.getfield 88, 3) := by decide +kernel
theorem dX9_recordIfBreach_21 : decode cX9_recordIfBreach 21 = .ok (.iload_n 3, 1) := by decide +kernel
theorem dX9_recordIfBreach_22 : decode cX9_recordIfBreach 22 = .ok (.iload 5, 2) := by decide +kernel
theorem dX9_recordIfBreach_24 : decode cX9_recordIfBreach 24 = .ok (.iload 4, 2) := by decide +kernel
theorem dX9_recordIfBreach_26 : decode cX9_recordIfBreach 26 = .ok (.invokevirtual 278, 3) := by decide +kernel
theorem dX9_recordIfBreach_29 : decode cX9_recordIfBreach 29 = .ok (.istore 6, 2) := by decide +kernel
theorem dX9_recordIfBreach_31 : decode cX9_recordIfBreach 31 = .ok (.iload 6, 2) := by decide +kernel
theorem dX9_recordIfBreach_33 : decode cX9_recordIfBreach 33 = .ok (.ifCond .ne 5, 3) := by decide +kernel
theorem dX9_recordIfBreach_36 : decode cX9_recordIfBreach 36 = .ok (.iconst 0, 1) := by decide +kernel
theorem dX9_recordIfBreach_37 : decode cX9_recordIfBreach 37 = .ok (.ireturn, 1) := by decide +kernel
theorem dX9_recordIfBreach_38 : decode cX9_recordIfBreach 38 = .ok (.aload_n 0, 1) := by decide +kernel
theorem dX9_recordIfBreach_39 : decode cX9_recordIfBreach 39 = .ok (.getfield 10, 3) := by decide +kernel
theorem dX9_recordIfBreach_42 : decode cX9_recordIfBreach 42 = .ok (.getfield 130, 3) := by decide +kernel
theorem dX9_recordIfBreach_45 : decode cX9_recordIfBreach 45 = .ok (.iload_n 1, 1) := by decide +kernel
theorem dX9_recordIfBreach_46 : decode cX9_recordIfBreach 46 = .ok (.iload_n 2, 1) := by decide +kernel
theorem dX9_recordIfBreach_47 : decode cX9_recordIfBreach 47 = .ok (.aload_n 0, 1) := by decide +kernel
theorem dX9_recordIfBreach_48 : decode cX9_recordIfBreach 48 = .ok (.getfield 10, 3) := by decide +kernel
theorem dX9_recordIfBreach_51 : decode cX9_recordIfBreach 51 = .ok (.getfield 88, 3) := by decide +kernel
theorem dX9_recordIfBreach_54 : decode cX9_recordIfBreach 54 = .ok (.iload 6, 2) := by decide +kernel
theorem dX9_recordIfBreach_56 : decode cX9_recordIfBreach 56 = .ok (.iload 5, 2) := by decide +kernel
theorem dX9_recordIfBreach_58 : decode cX9_recordIfBreach 58 = .ok (.invokevirtual 156, 3) := by decide +kernel
theorem dX9_recordIfBreach_61 : decode cX9_recordIfBreach 61 = .ok (.invokevirtual 281, 3) := by decide +kernel
theorem dX9_recordIfBreach_64 : decode cX9_recordIfBreach 64 = .ok (.ireturn, 1) := by decide +kernel
theorem dX9_cheapestLevel_0 : decode cX9_cheapestLevel 0 = .ok (.aload_n 0, 1) := by decide +kernel
theorem dX9_cheapestLevel_1 : decode cX9_cheapestLevel 1 = .ok (.getfield 44, 3) := by decide +kernel
theorem dX9_cheapestLevel_4 : decode cX9_cheapestLevel 4 = .ok (.aload_n 0, 1) := by decide +kernel
theorem dX9_cheapestLevel_5 : decode cX9_cheapestLevel 5 = .ok (.getfield 10, 3) := by decide +kernel
theorem dX9_cheapestLevel_8 : decode cX9_cheapestLevel 8 = .ok (.getfield 97, 3) := by decide +kernel
theorem dX9_cheapestLevel_11 : decode cX9_cheapestLevel 11 = .ok (.invokevirtual 198, 3) := by decide +kernel
theorem dX9_cheapestLevel_14 : decode cX9_cheapestLevel 14 = .ok (.aload_n 0, 1) := by decide +kernel
theorem dX9_cheapestLevel_15 : decode cX9_cheapestLevel 15 = .ok (.getfield 44, 3) := by decide +kernel
theorem dX9_cheapestLevel_18 : decode cX9_cheapestLevel 18 = .ok (.aload_n 0, 1) := by decide +kernel
theorem dX9_cheapestLevel_19 : decode cX9_cheapestLevel 19 = .ok (.getfield 10, 3) := by decide +kernel
theorem dX9_cheapestLevel_22 : decode cX9_cheapestLevel 22 = .ok (.getfield 88, 3) := by decide +kernel
theorem dX9_cheapestLevel_25 : decode cX9_cheapestLevel 25 = .ok (.invokevirtual 231, 3) := by decide +kernel
theorem dX9_cheapestLevel_28 : decode cX9_cheapestLevel 28 = .ok (.pop2, 1) := by decide +kernel
theorem dX9_cheapestLevel_29 : decode cX9_cheapestLevel 29 = .ok (.iconst 0, 1) := by decide +kernel
theorem dX9_cheapestLevel_30 : decode cX9_cheapestLevel 30 = .ok (.istore_n 2, 1) := by decide +kernel
theorem dX9_cheapestLevel_31 : decode cX9_cheapestLevel 31 = .ok (.aload_n 0, 1) := by decide +kernel
theorem dX9_cheapestLevel_32 : decode cX9_cheapestLevel 32 = .ok (.iconst 0, 1) := by decide +kernel
theorem dX9_cheapestLevel_33 : decode cX9_cheapestLevel 33 = .ok (.invokevirtual 284, 3) := by decide +kernel
theorem dX9_cheapestLevel_36 : decode cX9_cheapestLevel 36 = .ok (.lstore_n 3, 1) := by decide +kernel
theorem dX9_cheapestLevel_37 : decode cX9_cheapestLevel 37 = .ok (.iconst 1, 1) := by decide +kernel
theorem dX9_cheapestLevel_38 : decode cX9_cheapestLevel 38 = .ok (.istore 5, 2) := by decide +kernel
theorem dX9_cheapestLevel_40 : decode cX9_cheapestLevel 40 = .ok (.iload 5, 2) := by decide +kernel
theorem dX9_cheapestLevel_42 : decode cX9_cheapestLevel 42 = .ok (.iload_n 1, 1) := by decide +kernel
theorem dX9_cheapestLevel_43 : decode cX9_cheapestLevel 43 = .ok (.if_icmp .gt 30, 3) := by decide +kernel
theorem dX9_cheapestLevel_46 : decode cX9_cheapestLevel 46 = .ok (.aload_n 0, 1) := by decide +kernel
theorem dX9_cheapestLevel_47 : decode cX9_cheapestLevel 47 = .ok (.iload 5, 2) := by decide +kernel
theorem dX9_cheapestLevel_49 : decode cX9_cheapestLevel 49 = .ok (.invokevirtual 284, 3) := by decide +kernel
theorem dX9_cheapestLevel_52 : decode cX9_cheapestLevel 52 = .ok (.lstore 6, 2) := by decide +kernel
theorem dX9_cheapestLevel_54 : decode cX9_cheapestLevel 54 = .ok (.lload 6, 2) := by decide +kernel
theorem dX9_cheapestLevel_56 : decode cX9_cheapestLevel 56 = .ok (.lload_n 3, 1) := by decide +kernel
theorem dX9_cheapestLevel_57 : decode cX9_cheapestLevel 57 = .ok (.lcmp, 1) := by decide +kernel
theorem dX9_cheapestLevel_58 : decode cX9_cheapestLevel 58 = .ok (.ifCond .ge 9, 3) := by decide +kernel
theorem dX9_cheapestLevel_61 : decode cX9_cheapestLevel 61 = .ok (.lload 6, 2) := by decide +kernel
theorem dX9_cheapestLevel_63 : decode cX9_cheapestLevel 63 = .ok (.lstore_n 3, 1) := by decide +kernel
theorem dX9_cheapestLevel_64 : decode cX9_cheapestLevel 64 = .ok (.iload 5, 2) := by decide +kernel
theorem dX9_cheapestLevel_66 : decode cX9_cheapestLevel 66 = .ok (.istore_n 2, 1) := by decide +kernel
theorem dX9_cheapestLevel_67 : decode cX9_cheapestLevel 67 = .ok (.iinc 5 1, 3) := by decide +kernel
theorem dX9_cheapestLevel_70 : decode cX9_cheapestLevel 70 = .ok (.goto (-30), 3) := by decide +kernel
theorem dX9_cheapestLevel_73 : decode cX9_cheapestLevel 73 = .ok (.iload_n 2, 1) := by decide +kernel
theorem dX9_cheapestLevel_74 : decode cX9_cheapestLevel 74 = .ok (.ireturn, 1) := by decide +kernel
theorem dX9_costsAtLevel_0 : decode cX9_costsAtLevel 0 = .ok (.aload_n 0, 1) := by decide +kernel
theorem dX9_costsAtLevel_1 : decode cX9_costsAtLevel 1 = .ok (.getfield 48, 3) := by decide +kernel
theorem dX9_costsAtLevel_4 : decode cX9_costsAtLevel 4 = .ok (.aload_n 0, 1) := by decide +kernel
theorem dX9_costsAtLevel_5 : decode cX9_costsAtLevel 5 = .ok (.getfield 44, 3) := by decide +kernel
theorem dX9_costsAtLevel_8 : decode cX9_costsAtLevel 8 = .ok (.invokevirtual 198, 3) := by decide +kernel
theorem dX9_costsAtLevel_11 : decode cX9_costsAtLevel 11 = .ok (.aload_n 0, 1) := by decide +kernel
theorem dX9_costsAtLevel_12 : decode cX9_costsAtLevel 12 = .ok (.getfield 48, 3) := by decide +kernel
theorem dX9_costsAtLevel_15 : decode cX9_costsAtLevel 15 = .ok (.aload_n 0, 1) := by decide +kernel
theorem dX9_costsAtLevel_16 : decode cX9_costsAtLevel 16 = .ok (.getfield 48, 3) := by decide +kernel
theorem dX9_costsAtLevel_19 : decode cX9_costsAtLevel 19 = .ok (.getfield 100, 3) := by decide +kernel
theorem dX9_costsAtLevel_22 : decode cX9_costsAtLevel 22 = .ok (.aload_n 0, 1) := by decide +kernel
theorem dX9_costsAtLevel_23 : decode cX9_costsAtLevel 23 = .ok (.getfield 10, 3) := by decide +kernel
theorem dX9_costsAtLevel_26 : decode cX9_costsAtLevel 26 = .ok (.getfield 88, 3) := by decide +kernel
theorem dX9_costsAtLevel_29 : decode cX9_costsAtLevel 29 = .ok (.getfield 92, 3) := by decide +kernel
theorem dX9_costsAtLevel_32 : decode cX9_costsAtLevel 32 = .ok (.iload_n 1, 1) := by decide +kernel
theorem dX9_costsAtLevel_33 : decode cX9_costsAtLevel 33 = .ok (.invokevirtual 234, 3) := by decide +kernel
theorem dX9_costsAtLevel_36 : decode cX9_costsAtLevel 36 = .ok (.pop, 1) := by decide +kernel
theorem dX9_costsAtLevel_37 : decode cX9_costsAtLevel 37 = .ok (.aload_n 0, 1) := by decide +kernel
theorem dX9_costsAtLevel_38 : decode cX9_costsAtLevel 38 = .ok (.getfield 48, 3) := by decide +kernel
theorem dX9_costsAtLevel_41 : decode cX9_costsAtLevel 41 = .ok (.aload_n 0, 1) := by decide +kernel
theorem dX9_costsAtLevel_42 : decode cX9_costsAtLevel 42 = .ok (.getfield 10, 3) := by decide +kernel
theorem dX9_costsAtLevel_45 : decode cX9_costsAtLevel 45 = .ok (.getfield 88, 3) := by decide +kernel
theorem dX9_costsAtLevel_48 : decode cX9_costsAtLevel 48 = .ok (.invokevirtual 201, 3) := by decide +kernel
theorem dX9_costsAtLevel_51 : decode cX9_costsAtLevel 51 = .ok (.lreturn, 1) := by decide +kernel
theorem dX10_init_0 : decode cX10_init 0 = .ok (.aload_n 0, 1) := by decide +kernel
theorem dX10_init_1 : decode cX10_init 1 = .ok (.invokespecial 3, 3) := by decide +kernel
theorem dX10_init_4 : decode cX10_init 4 = .ok (.aload_n 0, 1) := by decide +kernel
theorem dX10_init_5 : decode cX10_init 5 = .ok (.sipush 800, 3) := by decide +kernel
theorem dX10_init_8 : decode cX10_init 8 = .ok (.newarray .int, 2) := by decide +kernel
theorem dX10_init_10 : decode cX10_init 10 = .ok (.putfield 9, 3) := by decide +kernel
theorem dX10_init_13 : decode cX10_init 13 = .ok (.aload_n 0, 1) := by decide +kernel
theorem dX10_init_14 : decode cX10_init 14 = .ok (.iconst (-1), 1) := by decide +kernel
theorem dX10_init_15 : decode cX10_init 15 = .ok (.putfield 13, 3) := by decide +kernel
theorem dX10_init_18 : decode cX10_init 18 = .ok (.aload_n 0, 1) := by decide +kernel
theorem dX10_init_19 : decode cX10_init 19 = .ok (.sipush 1728, 3) := by decide +kernel
theorem dX10_init_22 : decode cX10_init 22 = .ok (.newarray .int, 2) := by decide +kernel
theorem dX10_init_24 : decode cX10_init 24 = .ok (.putfield 17, 3) := by decide +kernel
theorem dX10_init_27 : decode cX10_init 27 = .ok (.aload_n 0, 1) := by decide +kernel
theorem dX10_init_28 : decode cX10_init 28 = .ok (.sipush 1728, 3) := by decide +kernel
theorem dX10_init_31 : decode cX10_init 31 = .ok (.newarray .int, 2) := by decide +kernel
theorem dX10_init_33 : decode cX10_init 33 = .ok (.putfield 20, 3) := by decide +kernel
theorem dX10_init_36 : decode cX10_init 36 = .ok (.aload_n 0, 1) := by decide +kernel
theorem dX10_init_37 : decode cX10_init 37 = .ok (.sipush 1728, 3) := by decide +kernel
theorem dX10_init_40 : decode cX10_init 40 = .ok (.newarray .int, 2) := by decide +kernel
theorem dX10_init_42 : decode cX10_init 42 = .ok (.putfield 23, 3) := by decide +kernel
theorem dX10_init_45 : decode cX10_init 45 = .ok (.aload_n 0, 1) := by decide +kernel
theorem dX10_init_46 : decode cX10_init 46 = .ok (.bipush 8, 2) := by decide +kernel
theorem dX10_init_48 : decode cX10_init 48 = .ok (.sipush 1728, 3) := by decide +kernel
theorem dX10_init_51 : decode cX10_init 51 = .ok (.multianewarray 26 2, 4) := by decide +kernel
theorem dX10_init_55 : decode cX10_init 55 = .ok (.putfield 28, 3) := by decide +kernel
theorem dX10_init_58 : decode cX10_init 58 = .ok (.aload_n 0, 1) := by decide +kernel
theorem dX10_init_59 : decode cX10_init 59 = .ok (.bipush 40, 2) := by decide +kernel
theorem dX10_init_61 : decode cX10_init 61 = .ok (.newarray .long, 2) := by decide +kernel
theorem dX10_init_63 : decode cX10_init 63 = .ok (.putfield 31, 3) := by decide +kernel
theorem dX10_init_66 : decode cX10_init 66 = .ok (.aload_n 0, 1) := by decide +kernel
theorem dX10_init_67 : decode cX10_init 67 = .ok (.bipush 40, 2) := by decide +kernel
theorem dX10_init_69 : decode cX10_init 69 = .ok (.newarray .long, 2) := by decide +kernel
theorem dX10_init_71 : decode cX10_init 71 = .ok (.putfield 35, 3) := by decide +kernel
theorem dX10_init_74 : decode cX10_init 74 = .ok (.aload_n 0, 1) := by decide +kernel
theorem dX10_init_75 : decode cX10_init 75 = .ok (.bipush 8, 2) := by decide +kernel
theorem dX10_init_77 : decode cX10_init 77 = .ok (.bipush 40, 2) := by decide +kernel
theorem dX10_init_79 : decode cX10_init 79 = .ok (.multianewarray 38 2, 4) := by decide +kernel
theorem dX10_init_83 : decode cX10_init 83 = .ok (.putfield 40, 3) := by decide +kernel
theorem dX10_init_86 : decode cX10_init 86 = .ok (.aload_n 0, 1) := by decide +kernel
theorem dX10_init_87 : decode cX10_init 87 = .ok (.sipush 1300, 3) := by decide +kernel
theorem dX10_init_90 : decode cX10_init 90 = .ok (.newarray .long, 2) := by decide +kernel
theorem dX10_init_92 : decode cX10_init 92 = .ok (.putfield 43, 3) := by decide +kernel
theorem dX10_init_95 : decode cX10_init 95 = .ok (.aload_n 0, 1) := by decide +kernel
theorem dX10_init_96 : decode cX10_init 96 = .ok (.bipush 20, 2) := by decide +kernel
theorem dX10_init_98 : decode cX10_init 98 = .ok (.newarray .int, 2) := by decide +kernel
theorem dX10_init_100 : decode cX10_init 100 = .ok (.putfield 46, 3) := by decide +kernel
theorem dX10_init_103 : decode cX10_init 103 = .ok (.aload_n 0, 1) := by decide +kernel
theorem dX10_init_104 : decode cX10_init 104 = .ok (.bipush 20, 2) := by decide +kernel
theorem dX10_init_106 : decode cX10_init 106 = .ok (.newarray .int, 2) := by decide +kernel
theorem dX10_init_108 : decode cX10_init 108 = .ok (.putfield 49, 3) := by decide +kernel
theorem dX10_init_111 : decode cX10_init 111 = .ok (.return_, 1) := by decide +kernel
theorem dX10_thrown_0 : decode cX10_thrown 0 = .ok (.aload_n 0, 1) := by decide +kernel
theorem dX10_thrown_1 : decode cX10_thrown 1 = .ok (.getfield 52, 3) := by decide +kernel
theorem dX10_thrown_4 : decode cX10_thrown 4 = .ok (.ireturn, 1) := by decide +kernel
theorem dX10_fails_0 : decode cX10_fails 0 = .ok (.iload_n 1, 1) := by decide +kernel
theorem dX10_fails_1 : decode cX10_fails 1 = .ok (.ifCond .eq 15, 3) := by decide +kernel
theorem dX10_fails_4 : decode cX10_fails 4 = .ok (.aload_n 0, 1) := by decide +kernel
theorem dX10_fails_5 : decode cX10_fails 5 = .ok (.getfield 52, 3) := by decide +kernel
theorem dX10_fails_8 : decode cX10_fails 8 = .ok (.ifCond .ne 8, 3) := by decide +kernel
theorem dX10_fails_11 : decode cX10_fails 11 = .ok (.aload_n 0, 1) := by decide +kernel
theorem dX10_fails_12 : decode cX10_fails 12 = .ok (.iload_n 2, 1) := by decide +kernel
theorem dX10_fails_13 : decode cX10_fails 13 = .ok (.putfield 52, 3) := by decide +kernel
theorem dX10_fails_16 : decode cX10_fails 16 = .ok (.aload_n 0, 1) := by decide +kernel
theorem dX10_fails_17 : decode cX10_fails 17 = .ok (.getfield 52, 3) := by decide +kernel
theorem dX10_fails_20 : decode cX10_fails 20 = .ok (.ifCond .eq 7, 3) := by decide +kernel
theorem dX10_fails_23 : decode cX10_fails 23 = .ok (.iconst 1, 1) := by decide +kernel
theorem dX10_fails_24 : decode cX10_fails 24 = .ok (.goto 4, 3) := by decide +kernel
theorem dX10_fails_27 : decode cX10_fails 27 = .ok (.iconst 0, 1) := by decide +kernel
theorem dX10_fails_28 : decode cX10_fails 28 = .ok (.ireturn, 1) := by decide +kernel
theorem dX10_in_0 : decode cX10_in 0 = .ok (.iload_n 0, 1) := by decide +kernel
theorem dX10_in_1 : decode cX10_in 1 = .ok (.iload_n 1, 1) := by decide +kernel
theorem dX10_in_2 : decode cX10_in 2 = .ok (.if_icmp .lt 12, 3) := by decide +kernel
theorem dX10_in_5 : decode cX10_in 5 = .ok (.iload_n 0, 1) := by decide +kernel
theorem dX10_in_6 : decode cX10_in 6 = .ok (.iload_n 2, 1) := by decide +kernel
theorem dX10_in_7 : decode cX10_in 7 = .ok (.if_icmp .gt 7, 3) := by decide +kernel
theorem dX10_in_10 : decode cX10_in 10 = .ok (.iconst 1, 1) := by decide +kernel
theorem dX10_in_11 : decode cX10_in 11 = .ok (.goto 4, 3) := by decide +kernel
theorem dX10_in_14 : decode cX10_in 14 = .ok (.iconst 0, 1) := by decide +kernel
theorem dX10_in_15 : decode cX10_in 15 = .ok (.ireturn, 1) := by decide +kernel
theorem dX10_min_0 : decode cX10_min 0 = .ok (.iload_n 0, 1) := by decide +kernel
theorem dX10_min_1 : decode cX10_min 1 = .ok (.iload_n 1, 1) := by decide +kernel
theorem dX10_min_2 : decode cX10_min 2 = .ok (.if_icmp .ge 7, 3) := by decide +kernel
theorem dX10_min_5 : decode cX10_min 5 = .ok (.iload_n 0, 1) := by decide +kernel
theorem dX10_min_6 : decode cX10_min 6 = .ok (.goto 4, 3) := by decide +kernel
theorem dX10_min_9 : decode cX10_min 9 = .ok (.iload_n 1, 1) := by decide +kernel
theorem dX10_min_10 : decode cX10_min 10 = .ok (.ireturn, 1) := by decide +kernel
theorem dX10_max_0 : decode cX10_max 0 = .ok (.iload_n 0, 1) := by decide +kernel
theorem dX10_max_1 : decode cX10_max 1 = .ok (.iload_n 1, 1) := by decide +kernel
theorem dX10_max_2 : decode cX10_max 2 = .ok (.if_icmp .le 7, 3) := by decide +kernel
theorem dX10_max_5 : decode cX10_max 5 = .ok (.iload_n 0, 1) := by decide +kernel
theorem dX10_max_6 : decode cX10_max 6 = .ok (.goto 4, 3) := by decide +kernel
theorem dX10_max_9 : decode cX10_max 9 = .ok (.iload_n 1, 1) := by decide +kernel
theorem dX10_max_10 : decode cX10_max 10 = .ok (.ireturn, 1) := by decide +kernel
theorem dX10_size_0 : decode cX10_size 0 = .ok (.iload_n 0, 1) := by decide +kernel
theorem dX10_size_1 : decode cX10_size 1 = .ok (.ifCond .ge 8, 3) := by decide +kernel
theorem dX10_size_4 : decode cX10_size 4 = .ok (.iload_n 0, 1) := by decide +kernel
theorem dX10_size_5 : decode cX10_size 5 = .ok (.ineg, 1) := by decide +kernel
theorem dX10_size_6 : decode cX10_size 6 = .ok (.goto 4, 3) := by decide +kernel
theorem dX10_size_9 : decode cX10_size 9 = .ok (.iload_n 0, 1) := by decide +kernel
theorem dX10_size_10 : decode cX10_size 10 = .ok (.ireturn, 1) := by decide +kernel
theorem dX10_copy_0 : decode cX10_copy 0 = .ok (.iconst 0, 1) := by decide +kernel
theorem dX10_copy_1 : decode cX10_copy 1 = .ok (.istore_n 2, 1) := by decide +kernel
theorem dX10_copy_2 : decode cX10_copy 2 = .ok (.iload_n 2, 1) := by decide +kernel
theorem dX10_copy_3 : decode cX10_copy 3 = .ok (.sipush 1728, 3) := by decide +kernel
theorem dX10_copy_6 : decode cX10_copy 6 = .ok (.if_icmp .ge 15, 3) := by decide +kernel
theorem dX10_copy_9 : decode cX10_copy 9 = .ok (.aload_n 1, 1) := by decide +kernel
theorem dX10_copy_10 : decode cX10_copy 10 = .ok (.iload_n 2, 1) := by decide +kernel
theorem dX10_copy_11 : decode cX10_copy 11 = .ok (.aload_n 0, 1) := by decide +kernel
theorem dX10_copy_12 : decode cX10_copy 12 = .ok (.iload_n 2, 1) := by decide +kernel
theorem dX10_copy_13 : decode cX10_copy 13 = .ok (.iaload, 1) := by decide +kernel
theorem dX10_copy_14 : decode cX10_copy 14 = .ok (.iastore, 1) := by decide +kernel
theorem dX10_copy_15 : decode cX10_copy 15 = .ok (.iinc 2 1, 3) := by decide +kernel
theorem dX10_copy_18 : decode cX10_copy 18 = .ok (.goto (-16), 3) := by decide +kernel
theorem dX10_copy_21 : decode cX10_copy 21 = .ok (.return_, 1) := by decide +kernel
theorem dX10_copyLongs_0 : decode cX10_copyLongs 0 = .ok (.iconst 0, 1) := by decide +kernel
theorem dX10_copyLongs_1 : decode cX10_copyLongs 1 = .ok (.istore_n 2, 1) := by decide +kernel
theorem dX10_copyLongs_2 : decode cX10_copyLongs 2 = .ok (.iload_n 2, 1) := by decide +kernel
theorem dX10_copyLongs_3 : decode cX10_copyLongs 3 = .ok (.bipush 40, 2) := by decide +kernel
theorem dX10_copyLongs_5 : decode cX10_copyLongs 5 = .ok (.if_icmp .ge 15, 3) := by decide +kernel
theorem dX10_copyLongs_8 : decode cX10_copyLongs 8 = .ok (.aload_n 1, 1) := by decide +kernel
theorem dX10_copyLongs_9 : decode cX10_copyLongs 9 = .ok (.iload_n 2, 1) := by decide +kernel
theorem dX10_copyLongs_10 : decode cX10_copyLongs 10 = .ok (.aload_n 0, 1) := by decide +kernel
theorem dX10_copyLongs_11 : decode cX10_copyLongs 11 = .ok (.iload_n 2, 1) := by decide +kernel
theorem dX10_copyLongs_12 : decode cX10_copyLongs 12 = .ok (.laload, 1) := by decide +kernel
theorem dX10_copyLongs_13 : decode cX10_copyLongs 13 = .ok (.lastore, 1) := by decide +kernel
theorem dX10_copyLongs_14 : decode cX10_copyLongs 14 = .ok (.iinc 2 1, 3) := by decide +kernel
theorem dX10_copyLongs_17 : decode cX10_copyLongs 17 = .ok (.goto (-15), 3) := by decide +kernel
theorem dX10_copyLongs_20 : decode cX10_copyLongs 20 = .ok (.return_, 1) := by decide +kernel
theorem dX10_period_0 : decode cX10_period 0 = .ok (.sipush 148, 3) := by decide +kernel
theorem dX10_period_3 : decode cX10_period 3 = .ok (.iconst 5, 1) := by decide +kernel
theorem dX10_period_4 : decode cX10_period 4 = .ok (.iload_n 0, 1) := by decide +kernel
theorem dX10_period_5 : decode cX10_period 5 = .ok (.imul, 1) := by decide +kernel
theorem dX10_period_6 : decode cX10_period 6 = .ok (.iadd, 1) := by decide +kernel
theorem dX10_period_7 : decode cX10_period 7 = .ok (.ireturn, 1) := by decide +kernel
theorem dX10_breach_0 : decode cX10_breach 0 = .ok (.sipush 348, 3) := by decide +kernel
theorem dX10_breach_3 : decode cX10_breach 3 = .ok (.iconst 4, 1) := by decide +kernel
theorem dX10_breach_4 : decode cX10_breach 4 = .ok (.iload_n 0, 1) := by decide +kernel
theorem dX10_breach_5 : decode cX10_breach 5 = .ok (.imul, 1) := by decide +kernel
theorem dX10_breach_6 : decode cX10_breach 6 = .ok (.iadd, 1) := by decide +kernel
theorem dX10_breach_7 : decode cX10_breach 7 = .ok (.ireturn, 1) := by decide +kernel
theorem dX10_band_0 : decode cX10_band 0 = .ok (.bipush 16, 2) := by decide +kernel
theorem dX10_band_2 : decode cX10_band 2 = .ok (.iconst 3, 1) := by decide +kernel
theorem dX10_band_3 : decode cX10_band 3 = .ok (.iload_n 0, 1) := by decide +kernel
theorem dX10_band_4 : decode cX10_band 4 = .ok (.imul, 1) := by decide +kernel
theorem dX10_band_5 : decode cX10_band 5 = .ok (.iadd, 1) := by decide +kernel
theorem dX10_band_6 : decode cX10_band 6 = .ok (.ireturn, 1) := by decide +kernel
theorem dX10_append_0 : decode cX10_append 0 = .ok (.aload_n 0, 1) := by decide +kernel
theorem dX10_append_1 : decode cX10_append 1 = .ok (.iconst 0, 1) := by decide +kernel
theorem dX10_append_2 : decode cX10_append 2 = .ok (.putfield 52, 3) := by decide +kernel
theorem dX10_append_5 : decode cX10_append 5 = .ok (.aload_n 0, 1) := by decide +kernel
theorem dX10_append_6 : decode cX10_append 6 = .ok (.getfield 55, 3) := by decide +kernel
theorem dX10_append_9 : decode cX10_append 9 = .ok (.bipush 20, 2) := by decide +kernel
theorem dX10_append_11 : decode cX10_append 11 = .ok (.iadd, 1) := by decide +kernel
theorem dX10_append_12 : decode cX10_append 12 = .ok (.sipush 800, 3) := by decide +kernel
theorem dX10_append_15 : decode cX10_append 15 = .ok (.if_icmp .le 5, 3) := by decide +kernel
theorem dX10_append_18 : decode cX10_append 18 = .ok (.iconst (-1), 1) := by decide +kernel
theorem dX10_append_19 : decode cX10_append 19 = .ok (.ireturn, 1) := by decide +kernel
theorem dX10_append_20 : decode cX10_append 20 = .ok (.iconst 0, 1) := by decide +kernel
theorem dX10_append_21 : decode cX10_append 21 = .ok (.istore 6, 2) := by decide +kernel
theorem dX10_append_23 : decode cX10_append 23 = .ok (.iload 6, 2) := by decide +kernel
theorem dX10_append_25 : decode cX10_append 25 = .ok (.bipush 20, 2) := by decide +kernel
theorem dX10_append_27 : decode cX10_append 27 = .ok (.if_icmp .ge 93, 3) := by decide +kernel
theorem dX10_append_30 : decode cX10_append 30 = .ok (.iload 6, 2) := by decide +kernel
theorem dX10_append_32 : decode cX10_append 32 = .ok (.iconst 4, 1) := by decide +kernel
theorem dX10_append_33 : decode cX10_append 33 = .ok (.if_icmp .ge 7, 3) := by decide +kernel
theorem dX10_append_36 : decode cX10_append 36 = .ok (.iload_n 1, 1) := by decide +kernel
theorem dX10_append_37 : decode cX10_append 37 = .ok (.goto 39, 3) := by decide +kernel
theorem dX10_append_40 : decode cX10_append 40 = .ok (.iload 6, 2) := by decide +kernel
theorem dX10_append_42 : decode cX10_append 42 = .ok (.bipush 8, 2) := by decide +kernel
theorem dX10_append_44 : decode cX10_append 44 = .ok (.if_icmp .ge 7, 3) := by decide +kernel
theorem dX10_append_47 : decode cX10_append 47 = .ok (.iload_n 2, 1) := by decide +kernel
theorem dX10_append_48 : decode cX10_append 48 = .ok (.goto 28, 3) := by decide +kernel
theorem dX10_append_51 : decode cX10_append 51 = .ok (.iload 6, 2) := by decide +kernel
theorem dX10_append_53 : decode cX10_append 53 = .ok (.bipush 12, 2) := by decide +kernel
theorem dX10_append_55 : decode cX10_append 55 = .ok (.if_icmp .ge 7, 3) := by decide +kernel
theorem dX10_append_58 : decode cX10_append 58 = .ok (.iload_n 3, 1) := by decide +kernel
theorem dX10_append_59 : decode cX10_append 59 = .ok (.goto 17, 3) := by decide +kernel
theorem dX10_append_62 : decode cX10_append 62 = .ok (.iload 6, 2) := by decide +kernel
theorem dX10_append_64 : decode cX10_append 64 = .ok (.bipush 16, 2) := by decide +kernel
theorem dX10_append_66 : decode cX10_append 66 = .ok (.if_icmp .ge 8, 3) := by decide +kernel
theorem dX10_append_69 : decode cX10_append 69 = .ok (.iload 4, 2) := by decide +kernel
theorem dX10_append_71 : decode cX10_append 71 = .ok (.goto 5, 3) := by decide +kernel
theorem dX10_append_74 : decode cX10_append 74 = .ok (.iload 5, 2) := by decide +kernel
theorem dX10_append_76 : decode cX10_append 76 = .ok (.istore 7, 2) := by decide +kernel
theorem dX10_append_78 : decode cX10_append 78 = .ok (.aload_n 0, 1) := by decide +kernel
theorem dX10_append_79 : decode cX10_append 79 = .ok (.getfield 9, 3) := by decide +kernel
theorem dX10_append_82 : decode cX10_append 82 = .ok (.aload_n 0, 1) := by decide +kernel
theorem dX10_append_83 : decode cX10_append 83 = .ok (.getfield 55, 3) := by decide +kernel
theorem dX10_append_86 : decode cX10_append 86 = .ok (.iload 7, 2) := by decide +kernel
theorem dX10_append_88 : decode cX10_append 88 = .ok (.bipush 24, 2) := by decide +kernel
theorem dX10_append_90 : decode cX10_append 90 = .ok (.bipush 8, 2) := by decide +kernel
theorem dX10_append_92 : decode cX10_append 92 = .ok (.iload 6, 2) := by decide +kernel
theorem dX10_append_94 : decode cX10_append 94 = .ok (.iconst 4, 1) := by decide +kernel
theorem dX10_append_95 : decode cX10_append 95 = .ok (.irem, 1) := by decide +kernel
theorem dX10_append_96 : decode cX10_append 96 = .ok (.imul, 1) := by decide +kernel
theorem dX10_append_97 : decode cX10_append 97 = .ok (.isub, 1) := by decide +kernel
theorem dX10_append_98 : decode cX10_append 98 = .ok (.ishr, 1) := by decide +kernel
theorem dX10_append_99 : decode cX10_append 99 = .ok (.sipush 255, 3) := by decide +kernel
theorem dX10_append_102 : decode cX10_append 102 = .ok (.iand, 1) := by decide +kernel
theorem dX10_append_103 : decode cX10_append 103 = .ok (.iastore, 1) := by decide +kernel
theorem dX10_append_104 : decode cX10_append 104 = .ok (.aload_n 0, 1) := by decide +kernel
theorem dX10_append_105 : decode cX10_append 105 = .ok (.dup, 1) := by decide +kernel
theorem dX10_append_106 : decode cX10_append 106 = .ok (.getfield 55, 3) := by decide +kernel
theorem dX10_append_109 : decode cX10_append 109 = .ok (.iconst 1, 1) := by decide +kernel
theorem dX10_append_110 : decode cX10_append 110 = .ok (.iadd, 1) := by decide +kernel
theorem dX10_append_111 : decode cX10_append 111 = .ok (.putfield 55, 3) := by decide +kernel
theorem dX10_append_114 : decode cX10_append 114 = .ok (.iinc 6 1, 3) := by decide +kernel
theorem dX10_append_117 : decode cX10_append 117 = .ok (.goto (-94), 3) := by decide +kernel
theorem dX10_append_120 : decode cX10_append 120 = .ok (.aload_n 0, 1) := by decide +kernel
theorem dX10_append_121 : decode cX10_append 121 = .ok (.getfield 55, 3) := by decide +kernel
theorem dX10_append_124 : decode cX10_append 124 = .ok (.ireturn, 1) := by decide +kernel
theorem dX10_byteAt_0 : decode cX10_byteAt 0 = .ok (.iload_n 1, 1) := by decide +kernel
theorem dX10_byteAt_1 : decode cX10_byteAt 1 = .ok (.aload_n 0, 1) := by decide +kernel
theorem dX10_byteAt_2 : decode cX10_byteAt 2 = .ok (.getfield 58, 3) := by decide +kernel
theorem dX10_byteAt_5 : decode cX10_byteAt 5 = .ok (.if_icmp .ge 12, 3) := by decide +kernel
theorem dX10_byteAt_8 : decode cX10_byteAt 8 = .ok (.aload_n 0, 1) := by decide +kernel
theorem dX10_byteAt_9 : decode cX10_byteAt 9 = .ok (.getfield 9, 3) := by decide +kernel
theorem dX10_byteAt_12 : decode cX10_byteAt 12 = .ok (.iload_n 1, 1) := by decide +kernel
theorem dX10_byteAt_13 : decode cX10_byteAt 13 = .ok (.iaload, 1) := by decide +kernel
theorem dX10_byteAt_14 : decode cX10_byteAt 14 = .ok (.goto 4, 3) := by decide +kernel
theorem dX10_byteAt_17 : decode cX10_byteAt 17 = .ok (.iconst (-1), 1) := by decide +kernel
theorem dX10_byteAt_18 : decode cX10_byteAt 18 = .ok (.ireturn, 1) := by decide +kernel
theorem dX10_next_0 : decode cX10_next 0 = .ok (.aload_n 0, 1) := by decide +kernel
theorem dX10_next_1 : decode cX10_next 1 = .ok (.aload_n 0, 1) := by decide +kernel
theorem dX10_next_2 : decode cX10_next 2 = .ok (.getfield 61, 3) := by decide +kernel
theorem dX10_next_5 : decode cX10_next 5 = .ok (.invokevirtual 64, 3) := by decide +kernel
theorem dX10_next_8 : decode cX10_next 8 = .ok (.bipush 32, 2) := by decide +kernel
theorem dX10_next_10 : decode cX10_next 10 = .ok (.if_icmp .ne 16, 3) := by decide +kernel
theorem dX10_next_13 : decode cX10_next 13 = .ok (.aload_n 0, 1) := by decide +kernel
theorem dX10_next_14 : decode cX10_next 14 = .ok (.dup, 1) := by decide +kernel
theorem dX10_next_15 : decode cX10_next 15 = .ok (.getfield 61, 3) := by decide +kernel
theorem dX10_next_18 : decode cX10_next 18 = .ok (.iconst 1, 1) := by decide +kernel
theorem dX10_next_19 : decode cX10_next 19 = .ok (.iadd, 1) := by decide +kernel
theorem dX10_next_20 : decode cX10_next 20 = .ok (.putfield 61, 3) := by decide +kernel
theorem dX10_next_23 : decode cX10_next 23 = .ok (.goto (-23), 3) := by decide +kernel
theorem dX10_next_26 : decode cX10_next 26 = .ok (.aload_n 0, 1) := by decide +kernel
theorem dX10_next_27 : decode cX10_next 27 = .ok (.aload_n 0, 1) := by decide +kernel
theorem dX10_next_28 : decode cX10_next 28 = .ok (.getfield 61, 3) := by decide +kernel
theorem dX10_next_31 : decode cX10_next 31 = .ok (.invokevirtual 64, 3) := by decide +kernel
theorem dX10_next_34 : decode cX10_next 34 = .ok (.ireturn, 1) := by decide +kernel
theorem dX10_isGood_0 : decode cX10_isGood 0 = .ok (.aload_n 0, 1) := by decide +kernel
theorem dX10_isGood_1 : decode cX10_isGood 1 = .ok (.getfield 68, 3) := by decide +kernel
theorem dX10_isGood_4 : decode cX10_isGood 4 = .ok (.ifCond .ne 7, 3) := by decide +kernel
theorem dX10_isGood_7 : decode cX10_isGood 7 = .ok (.iconst 1, 1) := by decide +kernel
theorem dX10_isGood_8 : decode cX10_isGood 8 = .ok (.goto 4, 3) := by decide +kernel
theorem dX10_isGood_11 : decode cX10_isGood 11 = .ok (.iconst 0, 1) := by decide +kernel
theorem dX10_isGood_12 : decode cX10_isGood 12 = .ok (.ireturn, 1) := by decide +kernel
theorem dX10_report_0 : decode cX10_report 0 = .ok (.aload_n 0, 1) := by decide +kernel
theorem dX10_report_1 : decode cX10_report 1 = .ok (.getfield 68, 3) := by decide +kernel
theorem dX10_report_4 : decode cX10_report 4 = .ok (.ifCond .eq 4, 3) := by decide +kernel
theorem dX10_report_7 : decode cX10_report 7 = .ok (.return_, 1) := by decide +kernel
theorem dX10_report_8 : decode cX10_report 8 = .ok (.aload_n 0, 1) := by decide +kernel
theorem dX10_report_9 : decode cX10_report 9 = .ok (.iload_n 1, 1) := by decide +kernel
theorem dX10_report_10 : decode cX10_report 10 = .ok (.putfield 68, 3) := by decide +kernel
theorem dX10_report_13 : decode cX10_report 13 = .ok (.aload_n 0, 1) := by decide +kernel
theorem dX10_report_14 : decode cX10_report 14 = .ok (.iload_n 2, 1) := by decide +kernel
theorem dX10_report_15 : decode cX10_report 15 = .ok (.putfield 71, 3) := by decide +kernel
theorem dX10_report_18 : decode cX10_report 18 = .ok (.return_, 1) := by decide +kernel
theorem dX10_isDigit_0 : decode cX10_isDigit 0 = .ok (.iload_n 0, 1) := by decide +kernel
theorem dX10_isDigit_1 : decode cX10_isDigit 1 = .ok (.bipush 48, 2) := by decide +kernel
theorem dX10_isDigit_3 : decode cX10_isDigit 3 = .ok (.bipush 57, 2) := by decide +kernel
theorem dX10_isDigit_5 : decode cX10_isDigit 5 = .ok (.invokestatic 74, 3) := by decide +kernel
theorem dX10_isDigit_8 : decode cX10_isDigit 8 = .ok (.ireturn, 1) := by decide +kernel
theorem dX10_takeWord_0 : decode cX10_takeWord 0 = .ok (.aload_n 0, 1) := by decide +kernel
theorem dX10_takeWord_1 : decode cX10_takeWord 1 = .ok (.invokevirtual 78, 3) := by decide +kernel
theorem dX10_takeWord_4 : decode cX10_takeWord 4 = .ok (.ifCond .ne 5, 3) := by decide +kernel
theorem dX10_takeWord_7 : decode cX10_takeWord 7 = .ok (.iconst 0, 1) := by decide +kernel
theorem dX10_takeWord_8 : decode cX10_takeWord 8 = .ok (.ireturn, 1) := by decide +kernel
theorem dX10_takeWord_9 : decode cX10_takeWord 9 = .ok (.aload_n 0, 1) := by decide +kernel
theorem dX10_takeWord_10 : decode cX10_takeWord 10 = .ok (.invokevirtual 82, 3) := by decide +kernel
theorem dX10_takeWord_13 : decode cX10_takeWord 13 = .ok (.pop, 1) := by decide +kernel
theorem dX10_takeWord_14 : decode cX10_takeWord 14 = .ok (.iconst 0, 1) := by decide +kernel
theorem dX10_takeWord_15 : decode cX10_takeWord 15 = .ok (.istore_n 2, 1) := by decide +kernel
theorem dX10_takeWord_16 : decode cX10_takeWord 16 = .ok (.iload_n 2, 1) := by decide +kernel
theorem dX10_takeWord_17 : decode cX10_takeWord 17 = .ok (.aload_n 1, 1) := by decide +kernel
theorem dX10_takeWord_18 : decode cX10_takeWord 18 = .ok (.invokevirtual 86, 3) := by decide +kernel
theorem dX10_takeWord_21 : decode cX10_takeWord 21 = .ok (.if_icmp .ge 27, 3) := by decide +kernel
theorem dX10_takeWord_24 : decode cX10_takeWord 24 = .ok (.aload_n 0, 1) := by decide +kernel
theorem dX10_takeWord_25 : decode cX10_takeWord 25 = .ok (.aload_n 0, 1) := by decide +kernel
theorem dX10_takeWord_26 : decode cX10_takeWord 26 = .ok (.getfield 61, 3) := by decide +kernel
theorem dX10_takeWord_29 : decode cX10_takeWord 29 = .ok (.iload_n 2, 1) := by decide +kernel
theorem dX10_takeWord_30 : decode cX10_takeWord 30 = .ok (.iadd, 1) := by decide +kernel
theorem dX10_takeWord_31 : decode cX10_takeWord 31 = .ok (.invokevirtual 64, 3) := by decide +kernel
theorem dX10_takeWord_34 : decode cX10_takeWord 34 = .ok (.aload_n 1, 1) := by decide +kernel
theorem dX10_takeWord_35 : decode cX10_takeWord 35 = .ok (.iload_n 2, 1) := by decide +kernel
theorem dX10_takeWord_36 : decode cX10_takeWord 36 = .ok (.invokevirtual 91, 3) := by decide +kernel
theorem dX10_takeWord_39 : decode cX10_takeWord 39 = .ok (.if_icmp .ne 9, 3) := by decide +kernel
theorem dX10_takeWord_42 : decode cX10_takeWord 42 = .ok (.iinc 2 1, 3) := by decide +kernel
theorem dX10_takeWord_45 : decode cX10_takeWord 45 = .ok (.goto (-29), 3) := by decide +kernel
theorem dX10_takeWord_48 : decode cX10_takeWord 48 = .ok (.iload_n 2, 1) := by decide +kernel
theorem dX10_takeWord_49 : decode cX10_takeWord 49 = .ok (.aload_n 1, 1) := by decide +kernel
theorem dX10_takeWord_50 : decode cX10_takeWord 50 = .ok (.invokevirtual 86, 3) := by decide +kernel
theorem dX10_takeWord_53 : decode cX10_takeWord 53 = .ok (.if_icmp .lt 23, 3) := by decide +kernel
theorem dX10_takeWord_56 : decode cX10_takeWord 56 = .ok (.aload_n 0, 1) := by decide +kernel
theorem dX10_takeWord_57 : decode cX10_takeWord 57 = .ok (.aload_n 0, 1) := by decide +kernel
theorem dX10_takeWord_58 : decode cX10_takeWord 58 = .ok (.getfield 61, 3) := by decide +kernel
theorem dX10_takeWord_61 : decode cX10_takeWord 61 = .ok (.iload_n 2, 1) := by decide +kernel
theorem dX10_takeWord_62 : decode cX10_takeWord 62 = .ok (.iadd, 1) := by decide +kernel
theorem dX10_takeWord_63 : decode cX10_takeWord 63 = .ok (.invokevirtual 64, 3) := by decide +kernel
theorem dX10_takeWord_66 : decode cX10_takeWord 66 = .ok (.bipush 97, 2) := by decide +kernel
theorem dX10_takeWord_68 : decode cX10_takeWord 68 = .ok (.bipush 122, 2) := by decide +kernel
theorem dX10_takeWord_70 : decode cX10_takeWord 70 = .ok (.invokestatic 74, 3) := by decide +kernel
theorem dX10_takeWord_73 : decode cX10_takeWord 73 = .ok (.ifCond .eq 5, 3) := by decide +kernel
theorem dX10_takeWord_76 : decode cX10_takeWord 76 = .ok (.iconst 0, 1) := by decide +kernel
theorem dX10_takeWord_77 : decode cX10_takeWord 77 = .ok (.ireturn, 1) := by decide +kernel
theorem dX10_takeWord_78 : decode cX10_takeWord 78 = .ok (.aload_n 0, 1) := by decide +kernel
theorem dX10_takeWord_79 : decode cX10_takeWord 79 = .ok (.dup, 1) := by decide +kernel
theorem dX10_takeWord_80 : decode cX10_takeWord 80 = .ok (.getfield 61, 3) := by decide +kernel
theorem dX10_takeWord_83 : decode cX10_takeWord 83 = .ok (.iload_n 2, 1) := by decide +kernel
theorem dX10_takeWord_84 : decode cX10_takeWord 84 = .ok (.iadd, 1) := by decide +kernel
theorem dX10_takeWord_85 : decode cX10_takeWord 85 = .ok (.putfield 61, 3) := by decide +kernel
theorem dX10_takeWord_88 : decode cX10_takeWord 88 = .ok (.iconst 1, 1) := by decide +kernel
theorem dX10_takeWord_89 : decode cX10_takeWord 89 = .ok (.ireturn, 1) := by decide +kernel
theorem dX10_expect_0 : decode cX10_expect 0 = .ok (.aload_n 0, 1) := by decide +kernel
theorem dX10_expect_1 : decode cX10_expect 1 = .ok (.invokevirtual 78, 3) := by decide +kernel
theorem dX10_expect_4 : decode cX10_expect 4 = .ok (.ifCond .ne 4, 3) := by decide +kernel
theorem dX10_expect_7 : decode cX10_expect 7 = .ok (.return_, 1) := by decide +kernel
theorem dX10_expect_8 : decode cX10_expect 8 = .ok (.aload_n 0, 1) := by decide +kernel
theorem dX10_expect_9 : decode cX10_expect 9 = .ok (.invokevirtual 82, 3) := by decide +kernel
theorem dX10_expect_12 : decode cX10_expect 12 = .ok (.iload_n 1, 1) := by decide +kernel
theorem dX10_expect_13 : decode cX10_expect 13 = .ok (.if_icmp .ne 16, 3) := by decide +kernel
theorem dX10_expect_16 : decode cX10_expect 16 = .ok (.aload_n 0, 1) := by decide +kernel
theorem dX10_expect_17 : decode cX10_expect 17 = .ok (.dup, 1) := by decide +kernel
theorem dX10_expect_18 : decode cX10_expect 18 = .ok (.getfield 61, 3) := by decide +kernel
theorem dX10_expect_21 : decode cX10_expect 21 = .ok (.iconst 1, 1) := by decide +kernel
theorem dX10_expect_22 : decode cX10_expect 22 = .ok (.iadd, 1) := by decide +kernel
theorem dX10_expect_23 : decode cX10_expect 23 = .ok (.putfield 61, 3) := by decide +kernel
theorem dX10_expect_26 : decode cX10_expect 26 = .ok (.goto 13, 3) := by decide +kernel
theorem dX10_expect_29 : decode cX10_expect 29 = .ok (.aload_n 0, 1) := by decide +kernel
theorem dX10_expect_30 : decode cX10_expect 30 = .ok (.bipush (-2), 2) := by decide +kernel
theorem dX10_expect_32 : decode cX10_expect 32 = .ok (.aload_n 0, 1) := by decide +kernel
theorem dX10_expect_33 : decode cX10_expect 33 = .ok (.getfield 61, 3) := by decide +kernel
theorem dX10_expect_36 : decode cX10_expect 36 = .ok (.invokevirtual 95, 3) := by decide +kernel
theorem dX10_expect_39 : decode cX10_expect 39 = .ok (.return_, 1) := by decide +kernel
theorem dX10_number_0 : decode cX10_number 0 = .ok (.aload_n 0, 1) := by decide +kernel
theorem dX10_number_1 : decode cX10_number 1 = .ok (.invokevirtual 78, 3) := by decide +kernel
theorem dX10_number_4 : decode cX10_number 4 = .ok (.ifCond .ne 5, 3) := by decide +kernel
theorem dX10_number_7 : decode cX10_number 7 = .ok (.iconst 0, 1) := by decide +kernel
theorem dX10_number_8 : decode cX10_number 8 = .ok (.ireturn, 1) := by decide +kernel
theorem dX10_number_9 : decode cX10_number 9 = .ok (.aload_n 0, 1) := by decide +kernel
theorem dX10_number_10 : decode cX10_number 10 = .ok (.invokevirtual 82, 3) := by decide +kernel
theorem dX10_number_13 : decode cX10_number 13 = .ok (.invokestatic 99, 3) := by decide +kernel
theorem dX10_number_16 : decode cX10_number 16 = .ok (.ifCond .ne 15, 3) := by decide +kernel
theorem dX10_number_19 : decode cX10_number 19 = .ok (.aload_n 0, 1) := by decide +kernel
theorem dX10_number_20 : decode cX10_number 20 = .ok (.bipush (-2), 2) := by decide +kernel
theorem dX10_number_22 : decode cX10_number 22 = .ok (.aload_n 0, 1) := by decide +kernel
theorem dX10_number_23 : decode cX10_number 23 = .ok (.getfield 61, 3) := by decide +kernel
theorem dX10_number_26 : decode cX10_number 26 = .ok (.invokevirtual 95, 3) := by decide +kernel
theorem dX10_number_29 : decode cX10_number 29 = .ok (.iconst 0, 1) := by decide +kernel
theorem dX10_number_30 : decode cX10_number 30 = .ok (.ireturn, 1) := by decide +kernel
theorem dX10_number_31 : decode cX10_number 31 = .ok (.aload_n 0, 1) := by decide +kernel
theorem dX10_number_32 : decode cX10_number 32 = .ok (.aload_n 0, 1) := by decide +kernel
theorem dX10_number_33 : decode cX10_number 33 = .ok (.getfield 61, 3) := by decide +kernel
theorem dX10_number_36 : decode cX10_number 36 = .ok (.putfield 103, 3) := by decide +kernel
theorem dX10_number_39 : decode cX10_number 39 = .ok (.iconst 0, 1) := by decide +kernel
theorem dX10_number_40 : decode cX10_number 40 = .ok (.istore_n 3, 1) := by decide +kernel
theorem dX10_number_41 : decode cX10_number 41 = .ok (.aload_n 0, 1) := by decide +kernel
theorem dX10_number_42 : decode cX10_number 42 = .ok (.aload_n 0, 1) := by decide +kernel
theorem dX10_number_43 : decode cX10_number 43 = .ok (.getfield 61, 3) := by decide +kernel
theorem dX10_number_46 : decode cX10_number 46 = .ok (.invokevirtual 64, 3) := by decide +kernel
theorem dX10_number_49 : decode cX10_number 49 = .ok (.invokestatic 99, 3) := by decide +kernel
theorem dX10_number_52 : decode cX10_number 52 = .ok (.ifCond .eq 38, 3) := by decide +kernel
theorem dX10_number_55 : decode cX10_number 55 = .ok (.ldc 106, 2) := by decide +kernel
theorem dX10_number_57 : decode cX10_number 57 = .ok (.bipush 10, 2) := by decide +kernel
theorem dX10_number_59 : decode cX10_number 59 = .ok (.iload_n 3, 1) := by decide +kernel
theorem dX10_number_60 : decode cX10_number 60 = .ok (.imul, 1) := by decide +kernel
theorem dX10_number_61 : decode cX10_number 61 = .ok (.aload_n 0, 1) := by decide +kernel
theorem dX10_number_62 : decode cX10_number 62 = .ok (.aload_n 0, 1) := by decide +kernel
theorem dX10_number_63 : decode cX10_number 63 = .ok (.getfield 61, 3) := by decide +kernel
theorem dX10_number_66 : decode cX10_number 66 = .ok (.invokevirtual 64, 3) := by decide +kernel
theorem dX10_number_69 : decode cX10_number 69 = .ok (.iadd, 1) := by decide +kernel
theorem dX10_number_70 : decode cX10_number 70 = .ok (.bipush 48, 2) := by decide +kernel
theorem dX10_number_72 : decode cX10_number 72 = .ok (.isub, 1) := by decide +kernel
theorem dX10_number_73 : decode cX10_number 73 = .ok (.invokestatic 107, 3) := by decide +kernel
theorem dX10_number_76 : decode cX10_number 76 = .ok (.istore_n 3, 1) := by decide +kernel
theorem dX10_number_77 : decode cX10_number 77 = .ok (.aload_n 0, 1) := by decide +kernel
theorem dX10_number_78 : decode cX10_number 78 = .ok (.dup, 1) := by decide +kernel
theorem dX10_number_79 : decode cX10_number 79 = .ok (.getfield 61, 3) := by decide +kernel
theorem dX10_number_82 : decode cX10_number 82 = .ok (.iconst 1, 1) := by decide +kernel
theorem dX10_number_83 : decode cX10_number 83 = .ok (.iadd, 1) := by decide +kernel
theorem dX10_number_84 : decode cX10_number 84 = .ok (.putfield 61, 3) := by decide +kernel
theorem dX10_number_87 : decode cX10_number 87 = .ok (.goto (-46), 3) := by decide +kernel
theorem dX10_number_90 : decode cX10_number 90 = .ok (.iload_n 3, 1) := by decide +kernel
theorem dX10_number_91 : decode cX10_number 91 = .ok (.iload_n 1, 1) := by decide +kernel
theorem dX10_number_92 : decode cX10_number 92 = .ok (.iload_n 2, 1) := by decide +kernel
theorem dX10_number_93 : decode cX10_number 93 = .ok (.invokestatic 74, 3) := by decide +kernel
theorem dX10_number_96 : decode cX10_number 96 = .ok (.ifCond .ne 13, 3) := by decide +kernel
theorem dX10_number_99 : decode cX10_number 99 = .ok (.aload_n 0, 1) := by decide +kernel
theorem dX10_number_100 : decode cX10_number 100 = .ok (.bipush (-3), 2) := by decide +kernel
theorem dX10_number_102 : decode cX10_number 102 = .ok (.aload_n 0, 1) := by decide +kernel
theorem dX10_number_103 : decode cX10_number 103 = .ok (.getfield 103, 3) := by decide +kernel
theorem dX10_number_106 : decode cX10_number 106 = .ok (.invokevirtual 95, 3) := by decide +kernel
theorem dX10_number_109 : decode cX10_number 109 = .ok (.iload_n 3, 1) := by decide +kernel
theorem dX10_number_110 : decode cX10_number 110 = .ok (.ireturn, 1) := by decide +kernel
theorem dX10_emit_0 : decode cX10_emit 0 = .ok (.aload_n 0, 1) := by decide +kernel
theorem dX10_emit_1 : decode cX10_emit 1 = .ok (.invokevirtual 78, 3) := by decide +kernel
theorem dX10_emit_4 : decode cX10_emit 4 = .ok (.ifCond .ne 4, 3) := by decide +kernel
theorem dX10_emit_7 : decode cX10_emit 7 = .ok (.return_, 1) := by decide +kernel
theorem dX10_emit_8 : decode cX10_emit 8 = .ok (.aload_n 0, 1) := by decide +kernel
theorem dX10_emit_9 : decode cX10_emit 9 = .ok (.getfield 20, 3) := by decide +kernel
theorem dX10_emit_12 : decode cX10_emit 12 = .ok (.sipush 428, 3) := by decide +kernel
theorem dX10_emit_15 : decode cX10_emit 15 = .ok (.aload_n 0, 1) := by decide +kernel
theorem dX10_emit_16 : decode cX10_emit 16 = .ok (.getfield 20, 3) := by decide +kernel
theorem dX10_emit_19 : decode cX10_emit 19 = .ok (.bipush 14, 2) := by decide +kernel
theorem dX10_emit_21 : decode cX10_emit 21 = .ok (.iaload, 1) := by decide +kernel
theorem dX10_emit_22 : decode cX10_emit 22 = .ok (.iadd, 1) := by decide +kernel
theorem dX10_emit_23 : decode cX10_emit 23 = .ok (.iload_n 1, 1) := by decide +kernel
theorem dX10_emit_24 : decode cX10_emit 24 = .ok (.iastore, 1) := by decide +kernel
theorem dX10_emit_25 : decode cX10_emit 25 = .ok (.aload_n 0, 1) := by decide +kernel
theorem dX10_emit_26 : decode cX10_emit 26 = .ok (.getfield 20, 3) := by decide +kernel
theorem dX10_emit_29 : decode cX10_emit 29 = .ok (.bipush 14, 2) := by decide +kernel
theorem dX10_emit_31 : decode cX10_emit 31 = .ok (.dup2, 1) := by decide +kernel
theorem dX10_emit_32 : decode cX10_emit 32 = .ok (.iaload, 1) := by decide +kernel
theorem dX10_emit_33 : decode cX10_emit 33 = .ok (.iconst 1, 1) := by decide +kernel
theorem dX10_emit_34 : decode cX10_emit 34 = .ok (.iadd, 1) := by decide +kernel
theorem dX10_emit_35 : decode cX10_emit 35 = .ok (.iastore, 1) := by decide +kernel
theorem dX10_emit_36 : decode cX10_emit 36 = .ok (.return_, 1) := by decide +kernel
theorem dX10_factor_0 : decode cX10_factor 0 = .ok (.aload_n 0, 1) := by decide +kernel
theorem dX10_factor_1 : decode cX10_factor 1 = .ok (.invokevirtual 78, 3) := by decide +kernel
theorem dX10_factor_4 : decode cX10_factor 4 = .ok (.ifCond .ne 4, 3) := by decide +kernel
theorem dX10_factor_7 : decode cX10_factor 7 = .ok (.return_, 1) := by decide +kernel
theorem dX10_factor_8 : decode cX10_factor 8 = .ok (.aload_n 0, 1) := by decide +kernel
theorem dX10_factor_9 : decode cX10_factor 9 = .ok (.invokevirtual 82, 3) := by decide +kernel
theorem dX10_factor_12 : decode cX10_factor 12 = .ok (.istore_n 1, 1) := by decide +kernel
theorem dX10_factor_13 : decode cX10_factor 13 = .ok (.iload_n 1, 1) := by decide +kernel
theorem dX10_factor_14 : decode cX10_factor 14 = .ok (.bipush 40, 2) := by decide +kernel
theorem dX10_factor_16 : decode cX10_factor 16 = .ok (.if_icmp .ne 62, 3) := by decide +kernel
theorem dX10_factor_19 : decode cX10_factor 19 = .ok (.aload_n 0, 1) := by decide +kernel
theorem dX10_factor_20 : decode cX10_factor 20 = .ok (.getfield 111, 3) := by decide +kernel
theorem dX10_factor_23 : decode cX10_factor 23 = .ok (.iconst 4, 1) := by decide +kernel
theorem dX10_factor_24 : decode cX10_factor 24 = .ok (.if_icmp .ne 13, 3) := by decide +kernel
theorem dX10_factor_27 : decode cX10_factor 27 = .ok (.aload_n 0, 1) := by decide +kernel
theorem dX10_factor_28 : decode cX10_factor 28 = .ok (.bipush (-5), 2) := by decide +kernel
theorem dX10_factor_30 : decode cX10_factor 30 = .ok (.aload_n 0, 1) := by decide +kernel
theorem dX10_factor_31 : decode cX10_factor 31 = .ok (.getfield 61, 3) := by decide +kernel
theorem dX10_factor_34 : decode cX10_factor 34 = .ok (.invokevirtual 95, 3) := by decide +kernel
theorem dX10_factor_37 : decode cX10_factor 37 = .ok (.aload_n 0, 1) := by decide +kernel
theorem dX10_factor_38 : decode cX10_factor 38 = .ok (.dup, 1) := by decide +kernel
theorem dX10_factor_39 : decode cX10_factor 39 = .ok (.getfield 61, 3) := by decide +kernel
theorem dX10_factor_42 : decode cX10_factor 42 = .ok (.iconst 1, 1) := by decide +kernel
theorem dX10_factor_43 : decode cX10_factor 43 = .ok (.iadd, 1) := by decide +kernel
theorem dX10_factor_44 : decode cX10_factor 44 = .ok (.putfield 61, 3) := by decide +kernel
theorem dX10_factor_47 : decode cX10_factor 47 = .ok (.aload_n 0, 1) := by decide +kernel
theorem dX10_factor_48 : decode cX10_factor 48 = .ok (.dup, 1) := by decide +kernel
theorem dX10_factor_49 : decode cX10_factor 49 = .ok (.getfield 111, 3) := by decide +kernel
theorem dX10_factor_52 : decode cX10_factor 52 = .ok (.iconst 1, 1) := by decide +kernel
theorem dX10_factor_53 : decode cX10_factor 53 = .ok (.iadd, 1) := by decide +kernel
theorem dX10_factor_54 : decode cX10_factor 54 = .ok (.putfield 111, 3) := by decide +kernel
theorem dX10_factor_57 : decode cX10_factor 57 = .ok (.aload_n 0, 1) := by decide +kernel
theorem dX10_factor_58 : decode cX10_factor 58 = .ok (.invokevirtual 114, 3) := by decide +kernel
theorem dX10_factor_61 : decode cX10_factor 61 = .ok (.aload_n 0, 1) := by decide +kernel
theorem dX10_factor_62 : decode cX10_factor 62 = .ok (.bipush 41, 2) := by decide +kernel
theorem dX10_factor_64 : decode cX10_factor 64 = .ok (.invokevirtual 117, 3) := by decide +kernel
theorem dX10_factor_67 : decode cX10_factor 67 = .ok (.aload_n 0, 1) := by decide +kernel
theorem dX10_factor_68 : decode cX10_factor 68 = .ok (.dup, 1) := by decide +kernel
theorem dX10_factor_69 : decode cX10_factor 69 = .ok (.getfield 111, 3) := by decide +kernel
theorem dX10_factor_72 : decode cX10_factor 72 = .ok (.iconst 1, 1) := by decide +kernel
theorem dX10_factor_73 : decode cX10_factor 73 = .ok (.isub, 1) := by decide +kernel
theorem dX10_factor_74 : decode cX10_factor 74 = .ok (.putfield 111, 3) := by decide +kernel
theorem dX10_factor_77 : decode cX10_factor 77 = .ok (.return_, 1) := by decide +kernel
theorem dX10_factor_78 : decode cX10_factor 78 = .ok (.iload_n 1, 1) := by decide +kernel
theorem dX10_factor_79 : decode cX10_factor 79 = .ok (.invokestatic 99, 3) := by decide +kernel
theorem dX10_factor_82 : decode cX10_factor 82 = .ok (.ifCond .eq 7, 3) := by decide +kernel
theorem dX10_factor_85 : decode cX10_factor 85 = .ok (.iconst (-1), 1) := by decide +kernel
theorem dX10_factor_86 : decode cX10_factor 86 = .ok (.goto 43, 3) := by decide +kernel
theorem dX10_factor_89 : decode cX10_factor 89 = .ok (.aload_n 0, 1) := by decide +kernel
theorem dX10_factor_90 : decode cX10_factor 90 = .ok (.ldc 121, 2) := by decide +kernel
theorem dX10_factor_92 : decode cX10_factor 92 = .ok (.invokevirtual 123, 3) := by decide +kernel
theorem dX10_factor_95 : decode cX10_factor 95 = .ok (.ifCond .eq 7, 3) := by decide +kernel
theorem dX10_factor_98 : decode cX10_factor 98 = .ok (.iconst 0, 1) := by decide +kernel
theorem dX10_factor_99 : decode cX10_factor 99 = .ok (.goto 30, 3) := by decide +kernel
theorem dX10_factor_102 : decode cX10_factor 102 = .ok (.aload_n 0, 1) := by decide +kernel
theorem dX10_factor_103 : decode cX10_factor 103 = .ok (.ldc 127, 2) := by decide +kernel
theorem dX10_factor_105 : decode cX10_factor 105 = .ok (.invokevirtual 123, 3) := by decide +kernel
theorem dX10_factor_108 : decode cX10_factor 108 = .ok (.ifCond .eq 7, 3) := by decide +kernel
theorem dX10_factor_111 : decode cX10_factor 111 = .ok (.iconst 1, 1) := by decide +kernel
theorem dX10_factor_112 : decode cX10_factor 112 = .ok (.goto 17, 3) := by decide +kernel
theorem dX10_factor_115 : decode cX10_factor 115 = .ok (.aload_n 0, 1) := by decide +kernel
theorem dX10_factor_116 : decode cX10_factor 116 = .ok (.ldc 129, 2) := by decide +kernel
theorem dX10_factor_118 : decode cX10_factor 118 = .ok (.invokevirtual 123, 3) := by decide +kernel
theorem dX10_factor_121 : decode cX10_factor 121 = .ok (.ifCond .eq 7, 3) := by decide +kernel
theorem dX10_factor_124 : decode cX10_factor 124 = .ok (.iconst 2, 1) := by decide +kernel
theorem dX10_factor_125 : decode cX10_factor 125 = .ok (.goto 4, 3) := by decide +kernel
theorem dX10_factor_128 : decode cX10_factor 128 = .ok (.iconst (-1), 1) := by decide +kernel
theorem dX10_factor_129 : decode cX10_factor 129 = .ok (.istore_n 2, 1) := by decide +kernel
theorem dX10_factor_130 : decode cX10_factor 130 = .ok (.iload_n 2, 1) := by decide +kernel
theorem dX10_factor_131 : decode cX10_factor 131 = .ok (.ifCond .ge 14, 3) := by decide +kernel
theorem dX10_factor_134 : decode cX10_factor 134 = .ok (.aload_n 0, 1) := by decide +kernel
theorem dX10_factor_135 : decode cX10_factor 135 = .ok (.iconst 0, 1) := by decide +kernel
theorem dX10_factor_136 : decode cX10_factor 136 = .ok (.sipush 9999, 3) := by decide +kernel
theorem dX10_factor_139 : decode cX10_factor 139 = .ok (.invokevirtual 131, 3) := by decide +kernel
theorem dX10_factor_142 : decode cX10_factor 142 = .ok (.goto 4, 3) := by decide +kernel
theorem dX10_factor_145 : decode cX10_factor 145 = .ok (.iload_n 2, 1) := by decide +kernel
theorem dX10_factor_146 : decode cX10_factor 146 = .ok (.istore_n 3, 1) := by decide +kernel
theorem dX10_factor_147 : decode cX10_factor 147 = .ok (.aload_n 0, 1) := by decide +kernel
theorem dX10_factor_148 : decode cX10_factor 148 = .ok (.iload_n 2, 1) := by decide +kernel
theorem dX10_factor_149 : decode cX10_factor 149 = .ok (.ifCond .ge 7, 3) := by decide +kernel
theorem dX10_factor_152 : decode cX10_factor 152 = .ok (.iconst 0, 1) := by decide +kernel
theorem dX10_factor_153 : decode cX10_factor 153 = .ok (.goto 4, 3) := by decide +kernel
theorem dX10_factor_156 : decode cX10_factor 156 = .ok (.iconst 1, 1) := by decide +kernel
theorem dX10_factor_157 : decode cX10_factor 157 = .ok (.invokevirtual 134, 3) := by decide +kernel
theorem dX10_factor_160 : decode cX10_factor 160 = .ok (.aload_n 0, 1) := by decide +kernel
theorem dX10_factor_161 : decode cX10_factor 161 = .ok (.iload_n 3, 1) := by decide +kernel
theorem dX10_factor_162 : decode cX10_factor 162 = .ok (.invokevirtual 134, 3) := by decide +kernel
theorem dX10_factor_165 : decode cX10_factor 165 = .ok (.return_, 1) := by decide +kernel
theorem dX10_term_0 : decode cX10_term 0 = .ok (.aload_n 0, 1) := by decide +kernel
theorem dX10_term_1 : decode cX10_term 1 = .ok (.invokevirtual 137, 3) := by decide +kernel
theorem dX10_term_4 : decode cX10_term 4 = .ok (.aload_n 0, 1) := by decide +kernel
theorem dX10_term_5 : decode cX10_term 5 = .ok (.invokevirtual 78, 3) := by decide +kernel
theorem dX10_term_8 : decode cX10_term 8 = .ok (.ifCond .eq 66, 3) := by decide +kernel
theorem dX10_term_11 : decode cX10_term 11 = .ok (.aload_n 0, 1) := by decide +kernel
theorem dX10_term_12 : decode cX10_term 12 = .ok (.invokevirtual 82, 3) := by decide +kernel
theorem dX10_term_15 : decode cX10_term 15 = .ok (.bipush 42, 2) := by decide +kernel
theorem dX10_term_17 : decode cX10_term 17 = .ok (.if_icmp .eq 12, 3) := by decide +kernel
theorem dX10_term_20 : decode cX10_term 20 = .ok (.aload_n 0, 1) := by decide +kernel
theorem dX10_term_21 : decode cX10_term 21 = .ok (.invokevirtual 82, 3) := by decide +kernel
theorem dX10_term_24 : decode cX10_term 24 = .ok (.bipush 47, 2) := by decide +kernel
theorem dX10_term_26 : decode cX10_term 26 = .ok (.if_icmp .ne 48, 3) := by decide +kernel
theorem dX10_term_29 : decode cX10_term 29 = .ok (.aload_n 0, 1) := by decide +kernel
theorem dX10_term_30 : decode cX10_term 30 = .ok (.invokevirtual 82, 3) := by decide +kernel
theorem dX10_term_33 : decode cX10_term 33 = .ok (.bipush 42, 2) := by decide +kernel
theorem dX10_term_35 : decode cX10_term 35 = .ok (.if_icmp .ne 7, 3) := by decide +kernel
theorem dX10_term_38 : decode cX10_term 38 = .ok (.iconst 1, 1) := by decide +kernel
theorem dX10_term_39 : decode cX10_term 39 = .ok (.goto 4, 3) := by decide +kernel
theorem dX10_term_42 : decode cX10_term 42 = .ok (.iconst 0, 1) := by decide +kernel
theorem dX10_term_43 : decode cX10_term 43 = .ok (.istore_n 1, 1) := by decide +kernel
theorem dX10_term_44 : decode cX10_term 44 = .ok (.aload_n 0, 1) := by decide +kernel
theorem dX10_term_45 : decode cX10_term 45 = .ok (.dup, 1) := by decide +kernel
theorem dX10_term_46 : decode cX10_term 46 = .ok (.getfield 61, 3) := by decide +kernel
theorem dX10_term_49 : decode cX10_term 49 = .ok (.iconst 1, 1) := by decide +kernel
theorem dX10_term_50 : decode cX10_term 50 = .ok (.iadd, 1) := by decide +kernel
theorem dX10_term_51 : decode cX10_term 51 = .ok (.putfield 61, 3) := by decide +kernel
theorem dX10_term_54 : decode cX10_term 54 = .ok (.aload_n 0, 1) := by decide +kernel
theorem dX10_term_55 : decode cX10_term 55 = .ok (.invokevirtual 137, 3) := by decide +kernel
theorem dX10_term_58 : decode cX10_term 58 = .ok (.aload_n 0, 1) := by decide +kernel
theorem dX10_term_59 : decode cX10_term 59 = .ok (.iload_n 1, 1) := by decide +kernel
theorem dX10_term_60 : decode cX10_term 60 = .ok (.ifCond .eq 7, 3) := by decide +kernel
theorem dX10_term_63 : decode cX10_term 63 = .ok (.iconst 4, 1) := by decide +kernel
theorem dX10_term_64 : decode cX10_term 64 = .ok (.goto 4, 3) := by decide +kernel
theorem dX10_term_67 : decode cX10_term 67 = .ok (.iconst 5, 1) := by decide +kernel
theorem dX10_term_68 : decode cX10_term 68 = .ok (.invokevirtual 134, 3) := by decide +kernel
theorem dX10_term_71 : decode cX10_term 71 = .ok (.goto (-67), 3) := by decide +kernel
theorem dX10_term_74 : decode cX10_term 74 = .ok (.return_, 1) := by decide +kernel
theorem dX10_sum_0 : decode cX10_sum 0 = .ok (.aload_n 0, 1) := by decide +kernel
theorem dX10_sum_1 : decode cX10_sum 1 = .ok (.invokevirtual 140, 3) := by decide +kernel
theorem dX10_sum_4 : decode cX10_sum 4 = .ok (.aload_n 0, 1) := by decide +kernel
theorem dX10_sum_5 : decode cX10_sum 5 = .ok (.invokevirtual 78, 3) := by decide +kernel
theorem dX10_sum_8 : decode cX10_sum 8 = .ok (.ifCond .eq 66, 3) := by decide +kernel
theorem dX10_sum_11 : decode cX10_sum 11 = .ok (.aload_n 0, 1) := by decide +kernel
theorem dX10_sum_12 : decode cX10_sum 12 = .ok (.invokevirtual 82, 3) := by decide +kernel
theorem dX10_sum_15 : decode cX10_sum 15 = .ok (.bipush 43, 2) := by decide +kernel
theorem dX10_sum_17 : decode cX10_sum 17 = .ok (.if_icmp .eq 12, 3) := by decide +kernel
theorem dX10_sum_20 : decode cX10_sum 20 = .ok (.aload_n 0, 1) := by decide +kernel
theorem dX10_sum_21 : decode cX10_sum 21 = .ok (.invokevirtual 82, 3) := by decide +kernel
theorem dX10_sum_24 : decode cX10_sum 24 = .ok (.bipush 45, 2) := by decide +kernel
theorem dX10_sum_26 : decode cX10_sum 26 = .ok (.if_icmp .ne 48, 3) := by decide +kernel
theorem dX10_sum_29 : decode cX10_sum 29 = .ok (.aload_n 0, 1) := by decide +kernel
theorem dX10_sum_30 : decode cX10_sum 30 = .ok (.invokevirtual 82, 3) := by decide +kernel
theorem dX10_sum_33 : decode cX10_sum 33 = .ok (.bipush 43, 2) := by decide +kernel
theorem dX10_sum_35 : decode cX10_sum 35 = .ok (.if_icmp .ne 7, 3) := by decide +kernel
theorem dX10_sum_38 : decode cX10_sum 38 = .ok (.iconst 1, 1) := by decide +kernel
theorem dX10_sum_39 : decode cX10_sum 39 = .ok (.goto 4, 3) := by decide +kernel
theorem dX10_sum_42 : decode cX10_sum 42 = .ok (.iconst 0, 1) := by decide +kernel
theorem dX10_sum_43 : decode cX10_sum 43 = .ok (.istore_n 1, 1) := by decide +kernel
theorem dX10_sum_44 : decode cX10_sum 44 = .ok (.aload_n 0, 1) := by decide +kernel
theorem dX10_sum_45 : decode cX10_sum 45 = .ok (.dup, 1) := by decide +kernel
theorem dX10_sum_46 : decode cX10_sum 46 = .ok (.getfield 61, 3) := by decide +kernel
theorem dX10_sum_49 : decode cX10_sum 49 = .ok (.iconst 1, 1) := by decide +kernel
theorem dX10_sum_50 : decode cX10_sum 50 = .ok (.iadd, 1) := by decide +kernel
theorem dX10_sum_51 : decode cX10_sum 51 = .ok (.putfield 61, 3) := by decide +kernel
theorem dX10_sum_54 : decode cX10_sum 54 = .ok (.aload_n 0, 1) := by decide +kernel
theorem dX10_sum_55 : decode cX10_sum 55 = .ok (.invokevirtual 140, 3) := by decide +kernel
theorem dX10_sum_58 : decode cX10_sum 58 = .ok (.aload_n 0, 1) := by decide +kernel
theorem dX10_sum_59 : decode cX10_sum 59 = .ok (.iload_n 1, 1) := by decide +kernel
theorem dX10_sum_60 : decode cX10_sum 60 = .ok (.ifCond .eq 7, 3) := by decide +kernel
theorem dX10_sum_63 : decode cX10_sum 63 = .ok (.iconst 2, 1) := by decide +kernel
theorem dX10_sum_64 : decode cX10_sum 64 = .ok (.goto 4, 3) := by decide +kernel
theorem dX10_sum_67 : decode cX10_sum 67 = .ok (.iconst 3, 1) := by decide +kernel
theorem dX10_sum_68 : decode cX10_sum 68 = .ok (.invokevirtual 134, 3) := by decide +kernel
theorem dX10_sum_71 : decode cX10_sum 71 = .ok (.goto (-67), 3) := by decide +kernel
theorem dX10_sum_74 : decode cX10_sum 74 = .ok (.return_, 1) := by decide +kernel
theorem dX10_once_0 : decode cX10_once 0 = .ok (.aload_n 0, 1) := by decide +kernel
theorem dX10_once_1 : decode cX10_once 1 = .ok (.getfield 143, 3) := by decide +kernel
theorem dX10_once_4 : decode cX10_once 4 = .ok (.iload_n 1, 1) := by decide +kernel
theorem dX10_once_5 : decode cX10_once 5 = .ok (.ishr, 1) := by decide +kernel
theorem dX10_once_6 : decode cX10_once 6 = .ok (.iconst 1, 1) := by decide +kernel
theorem dX10_once_7 : decode cX10_once 7 = .ok (.iand, 1) := by decide +kernel
theorem dX10_once_8 : decode cX10_once 8 = .ok (.iconst 1, 1) := by decide +kernel
theorem dX10_once_9 : decode cX10_once 9 = .ok (.if_icmp .ne 10, 3) := by decide +kernel
theorem dX10_once_12 : decode cX10_once 12 = .ok (.aload_n 0, 1) := by decide +kernel
theorem dX10_once_13 : decode cX10_once 13 = .ok (.bipush (-2), 2) := by decide +kernel
theorem dX10_once_15 : decode cX10_once 15 = .ok (.iload_n 2, 1) := by decide +kernel
theorem dX10_once_16 : decode cX10_once 16 = .ok (.invokevirtual 95, 3) := by decide +kernel
theorem dX10_once_19 : decode cX10_once 19 = .ok (.aload_n 0, 1) := by decide +kernel
theorem dX10_once_20 : decode cX10_once 20 = .ok (.dup, 1) := by decide +kernel
theorem dX10_once_21 : decode cX10_once 21 = .ok (.getfield 143, 3) := by decide +kernel
theorem dX10_once_24 : decode cX10_once 24 = .ok (.iconst 1, 1) := by decide +kernel
theorem dX10_once_25 : decode cX10_once 25 = .ok (.iload_n 1, 1) := by decide +kernel
theorem dX10_once_26 : decode cX10_once 26 = .ok (.ishl, 1) := by decide +kernel
theorem dX10_once_27 : decode cX10_once 27 = .ok (.ior, 1) := by decide +kernel
theorem dX10_once_28 : decode cX10_once 28 = .ok (.putfield 143, 3) := by decide +kernel
theorem dX10_once_31 : decode cX10_once 31 = .ok (.return_, 1) := by decide +kernel
theorem dX10_readContract_0 : decode cX10_readContract 0 = .ok (.aload_n 0, 1) := by decide +kernel
theorem dX10_readContract_1 : decode cX10_readContract 1 = .ok (.ldc 146, 2) := by decide +kernel
theorem dX10_readContract_3 : decode cX10_readContract 3 = .ok (.invokevirtual 123, 3) := by decide +kernel
theorem dX10_readContract_6 : decode cX10_readContract 6 = .ok (.ifCond .ne 13, 3) := by decide +kernel
theorem dX10_readContract_9 : decode cX10_readContract 9 = .ok (.aload_n 0, 1) := by decide +kernel
theorem dX10_readContract_10 : decode cX10_readContract 10 = .ok (.bipush (-2), 2) := by decide +kernel
theorem dX10_readContract_12 : decode cX10_readContract 12 = .ok (.aload_n 0, 1) := by decide +kernel
theorem dX10_readContract_13 : decode cX10_readContract 13 = .ok (.getfield 61, 3) := by decide +kernel
theorem dX10_readContract_16 : decode cX10_readContract 16 = .ok (.invokevirtual 95, 3) := by decide +kernel
theorem dX10_readContract_19 : decode cX10_readContract 19 = .ok (.aload_n 0, 1) := by decide +kernel
theorem dX10_readContract_20 : decode cX10_readContract 20 = .ok (.getfield 20, 3) := by decide +kernel
theorem dX10_readContract_23 : decode cX10_readContract 23 = .ok (.iconst 0, 1) := by decide +kernel
theorem dX10_readContract_24 : decode cX10_readContract 24 = .ok (.aload_n 0, 1) := by decide +kernel
theorem dX10_readContract_25 : decode cX10_readContract 25 = .ok (.iconst 2, 1) := by decide +kernel
theorem dX10_readContract_26 : decode cX10_readContract 26 = .ok (.bipush 40, 2) := by decide +kernel
theorem dX10_readContract_28 : decode cX10_readContract 28 = .ok (.invokevirtual 131, 3) := by decide +kernel
theorem dX10_readContract_31 : decode cX10_readContract 31 = .ok (.iastore, 1) := by decide +kernel
theorem dX10_readContract_32 : decode cX10_readContract 32 = .ok (.aload_n 0, 1) := by decide +kernel
theorem dX10_readContract_33 : decode cX10_readContract 33 = .ok (.iconst 0, 1) := by decide +kernel
theorem dX10_readContract_34 : decode cX10_readContract 34 = .ok (.sipush 9999, 3) := by decide +kernel
theorem dX10_readContract_37 : decode cX10_readContract 37 = .ok (.invokevirtual 131, 3) := by decide +kernel
theorem dX10_readContract_40 : decode cX10_readContract 40 = .ok (.istore_n 1, 1) := by decide +kernel
theorem dX10_readContract_41 : decode cX10_readContract 41 = .ok (.aload_n 0, 1) := by decide +kernel
theorem dX10_readContract_42 : decode cX10_readContract 42 = .ok (.getfield 20, 3) := by decide +kernel
theorem dX10_readContract_45 : decode cX10_readContract 45 = .ok (.iconst 2, 1) := by decide +kernel
theorem dX10_readContract_46 : decode cX10_readContract 46 = .ok (.aload_n 0, 1) := by decide +kernel
theorem dX10_readContract_47 : decode cX10_readContract 47 = .ok (.iconst 0, 1) := by decide +kernel
theorem dX10_readContract_48 : decode cX10_readContract 48 = .ok (.sipush 999, 3) := by decide +kernel
theorem dX10_readContract_51 : decode cX10_readContract 51 = .ok (.invokevirtual 131, 3) := by decide +kernel
theorem dX10_readContract_54 : decode cX10_readContract 54 = .ok (.iastore, 1) := by decide +kernel
theorem dX10_readContract_55 : decode cX10_readContract 55 = .ok (.aload_n 0, 1) := by decide +kernel
theorem dX10_readContract_56 : decode cX10_readContract 56 = .ok (.getfield 20, 3) := by decide +kernel
theorem dX10_readContract_59 : decode cX10_readContract 59 = .ok (.iconst 3, 1) := by decide +kernel
theorem dX10_readContract_60 : decode cX10_readContract 60 = .ok (.aload_n 0, 1) := by decide +kernel
theorem dX10_readContract_61 : decode cX10_readContract 61 = .ok (.iconst 0, 1) := by decide +kernel
theorem dX10_readContract_62 : decode cX10_readContract 62 = .ok (.bipush 99, 2) := by decide +kernel
theorem dX10_readContract_64 : decode cX10_readContract 64 = .ok (.invokevirtual 131, 3) := by decide +kernel
theorem dX10_readContract_67 : decode cX10_readContract 67 = .ok (.iastore, 1) := by decide +kernel
theorem dX10_readContract_68 : decode cX10_readContract 68 = .ok (.aload_n 0, 1) := by decide +kernel
theorem dX10_readContract_69 : decode cX10_readContract 69 = .ok (.bipush 59, 2) := by decide +kernel
theorem dX10_readContract_71 : decode cX10_readContract 71 = .ok (.invokevirtual 117, 3) := by decide +kernel
theorem dX10_readContract_74 : decode cX10_readContract 74 = .ok (.aload_n 0, 1) := by decide +kernel
theorem dX10_readContract_75 : decode cX10_readContract 75 = .ok (.invokevirtual 78, 3) := by decide +kernel
theorem dX10_readContract_78 : decode cX10_readContract 78 = .ok (.ifCond .ne 4, 3) := by decide +kernel
theorem dX10_readContract_81 : decode cX10_readContract 81 = .ok (.return_, 1) := by decide +kernel
theorem dX10_readContract_82 : decode cX10_readContract 82 = .ok (.iconst 0, 1) := by decide +kernel
theorem dX10_readContract_83 : decode cX10_readContract 83 = .ok (.istore_n 2, 1) := by decide +kernel
theorem dX10_readContract_84 : decode cX10_readContract 84 = .ok (.iload_n 2, 1) := by decide +kernel
theorem dX10_readContract_85 : decode cX10_readContract 85 = .ok (.aload_n 0, 1) := by decide +kernel
theorem dX10_readContract_86 : decode cX10_readContract 86 = .ok (.getfield 20, 3) := by decide +kernel
theorem dX10_readContract_89 : decode cX10_readContract 89 = .ok (.iconst 0, 1) := by decide +kernel
theorem dX10_readContract_90 : decode cX10_readContract 90 = .ok (.iaload, 1) := by decide +kernel
theorem dX10_readContract_91 : decode cX10_readContract 91 = .ok (.if_icmp .ge 31, 3) := by decide +kernel
theorem dX10_readContract_94 : decode cX10_readContract 94 = .ok (.aload_n 0, 1) := by decide +kernel
theorem dX10_readContract_95 : decode cX10_readContract 95 = .ok (.getfield 20, 3) := by decide +kernel
theorem dX10_readContract_98 : decode cX10_readContract 98 = .ok (.iload_n 2, 1) := by decide +kernel
theorem dX10_readContract_99 : decode cX10_readContract 99 = .ok (.invokestatic 148, 3) := by decide +kernel
theorem dX10_readContract_102 : decode cX10_readContract 102 = .ok (.iload_n 1, 1) := by decide +kernel
theorem dX10_readContract_103 : decode cX10_readContract 103 = .ok (.iastore, 1) := by decide +kernel
theorem dX10_readContract_104 : decode cX10_readContract 104 = .ok (.aload_n 0, 1) := by decide +kernel
theorem dX10_readContract_105 : decode cX10_readContract 105 = .ok (.getfield 20, 3) := by decide +kernel
theorem dX10_readContract_108 : decode cX10_readContract 108 = .ok (.iload_n 2, 1) := by decide +kernel
theorem dX10_readContract_109 : decode cX10_readContract 109 = .ok (.invokestatic 148, 3) := by decide +kernel
theorem dX10_readContract_112 : decode cX10_readContract 112 = .ok (.iconst 2, 1) := by decide +kernel
theorem dX10_readContract_113 : decode cX10_readContract 113 = .ok (.iadd, 1) := by decide +kernel
theorem dX10_readContract_114 : decode cX10_readContract 114 = .ok (.iconst (-1), 1) := by decide +kernel
theorem dX10_readContract_115 : decode cX10_readContract 115 = .ok (.iastore, 1) := by decide +kernel
theorem dX10_readContract_116 : decode cX10_readContract 116 = .ok (.iinc 2 1, 3) := by decide +kernel
theorem dX10_readContract_119 : decode cX10_readContract 119 = .ok (.goto (-35), 3) := by decide +kernel
theorem dX10_readContract_122 : decode cX10_readContract 122 = .ok (.return_, 1) := by decide +kernel
theorem dX10_readBand_0 : decode cX10_readBand 0 = .ok (.aload_n 0, 1) := by decide +kernel
theorem dX10_readBand_1 : decode cX10_readBand 1 = .ok (.iconst 0, 1) := by decide +kernel
theorem dX10_readBand_2 : decode cX10_readBand 2 = .ok (.bipush 39, 2) := by decide +kernel
theorem dX10_readBand_4 : decode cX10_readBand 4 = .ok (.invokevirtual 131, 3) := by decide +kernel
theorem dX10_readBand_7 : decode cX10_readBand 7 = .ok (.istore_n 1, 1) := by decide +kernel
theorem dX10_readBand_8 : decode cX10_readBand 8 = .ok (.aload_n 0, 1) := by decide +kernel
theorem dX10_readBand_9 : decode cX10_readBand 9 = .ok (.invokevirtual 78, 3) := by decide +kernel
theorem dX10_readBand_12 : decode cX10_readBand 12 = .ok (.ifCond .eq 26, 3) := by decide +kernel
theorem dX10_readBand_15 : decode cX10_readBand 15 = .ok (.aload_n 0, 1) := by decide +kernel
theorem dX10_readBand_16 : decode cX10_readBand 16 = .ok (.getfield 20, 3) := by decide +kernel
theorem dX10_readBand_19 : decode cX10_readBand 19 = .ok (.iload_n 1, 1) := by decide +kernel
theorem dX10_readBand_20 : decode cX10_readBand 20 = .ok (.invokestatic 150, 3) := by decide +kernel
theorem dX10_readBand_23 : decode cX10_readBand 23 = .ok (.iaload, 1) := by decide +kernel
theorem dX10_readBand_24 : decode cX10_readBand 24 = .ok (.iconst 1, 1) := by decide +kernel
theorem dX10_readBand_25 : decode cX10_readBand 25 = .ok (.if_icmp .ne 13, 3) := by decide +kernel
theorem dX10_readBand_28 : decode cX10_readBand 28 = .ok (.aload_n 0, 1) := by decide +kernel
theorem dX10_readBand_29 : decode cX10_readBand 29 = .ok (.bipush (-3), 2) := by decide +kernel
theorem dX10_readBand_31 : decode cX10_readBand 31 = .ok (.aload_n 0, 1) := by decide +kernel
theorem dX10_readBand_32 : decode cX10_readBand 32 = .ok (.getfield 103, 3) := by decide +kernel
theorem dX10_readBand_35 : decode cX10_readBand 35 = .ok (.invokevirtual 95, 3) := by decide +kernel
theorem dX10_readBand_38 : decode cX10_readBand 38 = .ok (.aload_n 0, 1) := by decide +kernel
theorem dX10_readBand_39 : decode cX10_readBand 39 = .ok (.iconst 0, 1) := by decide +kernel
theorem dX10_readBand_40 : decode cX10_readBand 40 = .ok (.bipush 100, 2) := by decide +kernel
theorem dX10_readBand_42 : decode cX10_readBand 42 = .ok (.invokevirtual 131, 3) := by decide +kernel
theorem dX10_readBand_45 : decode cX10_readBand 45 = .ok (.istore_n 2, 1) := by decide +kernel
theorem dX10_readBand_46 : decode cX10_readBand 46 = .ok (.aload_n 0, 1) := by decide +kernel
theorem dX10_readBand_47 : decode cX10_readBand 47 = .ok (.iconst 0, 1) := by decide +kernel
theorem dX10_readBand_48 : decode cX10_readBand 48 = .ok (.bipush 100, 2) := by decide +kernel
theorem dX10_readBand_50 : decode cX10_readBand 50 = .ok (.invokevirtual 131, 3) := by decide +kernel
theorem dX10_readBand_53 : decode cX10_readBand 53 = .ok (.istore_n 3, 1) := by decide +kernel
theorem dX10_readBand_54 : decode cX10_readBand 54 = .ok (.aload_n 0, 1) := by decide +kernel
theorem dX10_readBand_55 : decode cX10_readBand 55 = .ok (.invokevirtual 78, 3) := by decide +kernel
theorem dX10_readBand_58 : decode cX10_readBand 58 = .ok (.ifCond .ne 4, 3) := by decide +kernel
theorem dX10_readBand_61 : decode cX10_readBand 61 = .ok (.return_, 1) := by decide +kernel
theorem dX10_readBand_62 : decode cX10_readBand 62 = .ok (.aload_n 0, 1) := by decide +kernel
theorem dX10_readBand_63 : decode cX10_readBand 63 = .ok (.getfield 20, 3) := by decide +kernel
theorem dX10_readBand_66 : decode cX10_readBand 66 = .ok (.iload_n 1, 1) := by decide +kernel
theorem dX10_readBand_67 : decode cX10_readBand 67 = .ok (.invokestatic 150, 3) := by decide +kernel
theorem dX10_readBand_70 : decode cX10_readBand 70 = .ok (.iconst 1, 1) := by decide +kernel
theorem dX10_readBand_71 : decode cX10_readBand 71 = .ok (.iastore, 1) := by decide +kernel
theorem dX10_readBand_72 : decode cX10_readBand 72 = .ok (.aload_n 0, 1) := by decide +kernel
theorem dX10_readBand_73 : decode cX10_readBand 73 = .ok (.getfield 20, 3) := by decide +kernel
theorem dX10_readBand_76 : decode cX10_readBand 76 = .ok (.iload_n 1, 1) := by decide +kernel
theorem dX10_readBand_77 : decode cX10_readBand 77 = .ok (.invokestatic 150, 3) := by decide +kernel
theorem dX10_readBand_80 : decode cX10_readBand 80 = .ok (.iconst 1, 1) := by decide +kernel
theorem dX10_readBand_81 : decode cX10_readBand 81 = .ok (.iadd, 1) := by decide +kernel
theorem dX10_readBand_82 : decode cX10_readBand 82 = .ok (.iload_n 2, 1) := by decide +kernel
theorem dX10_readBand_83 : decode cX10_readBand 83 = .ok (.iastore, 1) := by decide +kernel
theorem dX10_readBand_84 : decode cX10_readBand 84 = .ok (.aload_n 0, 1) := by decide +kernel
theorem dX10_readBand_85 : decode cX10_readBand 85 = .ok (.getfield 20, 3) := by decide +kernel
theorem dX10_readBand_88 : decode cX10_readBand 88 = .ok (.iload_n 1, 1) := by decide +kernel
theorem dX10_readBand_89 : decode cX10_readBand 89 = .ok (.invokestatic 150, 3) := by decide +kernel
theorem dX10_readBand_92 : decode cX10_readBand 92 = .ok (.iconst 2, 1) := by decide +kernel
theorem dX10_readBand_93 : decode cX10_readBand 93 = .ok (.iadd, 1) := by decide +kernel
theorem dX10_readBand_94 : decode cX10_readBand 94 = .ok (.iload_n 3, 1) := by decide +kernel
theorem dX10_readBand_95 : decode cX10_readBand 95 = .ok (.iastore, 1) := by decide +kernel
theorem dX10_readBand_96 : decode cX10_readBand 96 = .ok (.return_, 1) := by decide +kernel
theorem dX10_readLadder_0 : decode cX10_readLadder 0 = .ok (.iconst (-1), 1) := by decide +kernel
theorem dX10_readLadder_1 : decode cX10_readLadder 1 = .ok (.istore_n 1, 1) := by decide +kernel
theorem dX10_readLadder_2 : decode cX10_readLadder 2 = .ok (.aload_n 0, 1) := by decide +kernel
theorem dX10_readLadder_3 : decode cX10_readLadder 3 = .ok (.iconst 0, 1) := by decide +kernel
theorem dX10_readLadder_4 : decode cX10_readLadder 4 = .ok (.sipush 999, 3) := by decide +kernel
theorem dX10_readLadder_7 : decode cX10_readLadder 7 = .ok (.invokevirtual 131, 3) := by decide +kernel
theorem dX10_readLadder_10 : decode cX10_readLadder 10 = .ok (.istore_n 2, 1) := by decide +kernel
theorem dX10_readLadder_11 : decode cX10_readLadder 11 = .ok (.aload_n 0, 1) := by decide +kernel
theorem dX10_readLadder_12 : decode cX10_readLadder 12 = .ok (.invokevirtual 78, 3) := by decide +kernel
theorem dX10_readLadder_15 : decode cX10_readLadder 15 = .ok (.ifCond .eq 18, 3) := by decide +kernel
theorem dX10_readLadder_18 : decode cX10_readLadder 18 = .ok (.iload_n 2, 1) := by decide +kernel
theorem dX10_readLadder_19 : decode cX10_readLadder 19 = .ok (.iload_n 1, 1) := by decide +kernel
theorem dX10_readLadder_20 : decode cX10_readLadder 20 = .ok (.if_icmp .gt 13, 3) := by decide +kernel
theorem dX10_readLadder_23 : decode cX10_readLadder 23 = .ok (.aload_n 0, 1) := by decide +kernel
theorem dX10_readLadder_24 : decode cX10_readLadder 24 = .ok (.bipush (-3), 2) := by decide +kernel
theorem dX10_readLadder_26 : decode cX10_readLadder 26 = .ok (.aload_n 0, 1) := by decide +kernel
theorem dX10_readLadder_27 : decode cX10_readLadder 27 = .ok (.getfield 103, 3) := by decide +kernel
theorem dX10_readLadder_30 : decode cX10_readLadder 30 = .ok (.invokevirtual 95, 3) := by decide +kernel
theorem dX10_readLadder_33 : decode cX10_readLadder 33 = .ok (.aload_n 0, 1) := by decide +kernel
theorem dX10_readLadder_34 : decode cX10_readLadder 34 = .ok (.getfield 20, 3) := by decide +kernel
theorem dX10_readLadder_37 : decode cX10_readLadder 37 = .ok (.bipush 11, 2) := by decide +kernel
theorem dX10_readLadder_39 : decode cX10_readLadder 39 = .ok (.iaload, 1) := by decide +kernel
theorem dX10_readLadder_40 : decode cX10_readLadder 40 = .ok (.bipush 6, 2) := by decide +kernel
theorem dX10_readLadder_42 : decode cX10_readLadder 42 = .ok (.if_icmp .ne 13, 3) := by decide +kernel
theorem dX10_readLadder_45 : decode cX10_readLadder 45 = .ok (.aload_n 0, 1) := by decide +kernel
theorem dX10_readLadder_46 : decode cX10_readLadder 46 = .ok (.bipush (-4), 2) := by decide +kernel
theorem dX10_readLadder_48 : decode cX10_readLadder 48 = .ok (.aload_n 0, 1) := by decide +kernel
theorem dX10_readLadder_49 : decode cX10_readLadder 49 = .ok (.getfield 103, 3) := by decide +kernel
theorem dX10_readLadder_52 : decode cX10_readLadder 52 = .ok (.invokevirtual 95, 3) := by decide +kernel
theorem dX10_readLadder_55 : decode cX10_readLadder 55 = .ok (.aload_n 0, 1) := by decide +kernel
theorem dX10_readLadder_56 : decode cX10_readLadder 56 = .ok (.iconst 0, 1) := by decide +kernel
theorem dX10_readLadder_57 : decode cX10_readLadder 57 = .ok (.sipush 999, 3) := by decide +kernel
theorem dX10_readLadder_60 : decode cX10_readLadder 60 = .ok (.invokevirtual 131, 3) := by decide +kernel
theorem dX10_readLadder_63 : decode cX10_readLadder 63 = .ok (.istore_n 3, 1) := by decide +kernel
theorem dX10_readLadder_64 : decode cX10_readLadder 64 = .ok (.aload_n 0, 1) := by decide +kernel
theorem dX10_readLadder_65 : decode cX10_readLadder 65 = .ok (.invokevirtual 78, 3) := by decide +kernel
theorem dX10_readLadder_68 : decode cX10_readLadder 68 = .ok (.ifCond .ne 4, 3) := by decide +kernel
theorem dX10_readLadder_71 : decode cX10_readLadder 71 = .ok (.return_, 1) := by decide +kernel
theorem dX10_readLadder_72 : decode cX10_readLadder 72 = .ok (.aload_n 0, 1) := by decide +kernel
theorem dX10_readLadder_73 : decode cX10_readLadder 73 = .ok (.getfield 20, 3) := by decide +kernel
theorem dX10_readLadder_76 : decode cX10_readLadder 76 = .ok (.sipush 136, 3) := by decide +kernel
theorem dX10_readLadder_79 : decode cX10_readLadder 79 = .ok (.iconst 2, 1) := by decide +kernel
theorem dX10_readLadder_80 : decode cX10_readLadder 80 = .ok (.aload_n 0, 1) := by decide +kernel
theorem dX10_readLadder_81 : decode cX10_readLadder 81 = .ok (.getfield 20, 3) := by decide +kernel
theorem dX10_readLadder_84 : decode cX10_readLadder 84 = .ok (.bipush 11, 2) := by decide +kernel
theorem dX10_readLadder_86 : decode cX10_readLadder 86 = .ok (.iaload, 1) := by decide +kernel
theorem dX10_readLadder_87 : decode cX10_readLadder 87 = .ok (.imul, 1) := by decide +kernel
theorem dX10_readLadder_88 : decode cX10_readLadder 88 = .ok (.iadd, 1) := by decide +kernel
theorem dX10_readLadder_89 : decode cX10_readLadder 89 = .ok (.iload_n 2, 1) := by decide +kernel
theorem dX10_readLadder_90 : decode cX10_readLadder 90 = .ok (.iastore, 1) := by decide +kernel
theorem dX10_readLadder_91 : decode cX10_readLadder 91 = .ok (.aload_n 0, 1) := by decide +kernel
theorem dX10_readLadder_92 : decode cX10_readLadder 92 = .ok (.getfield 20, 3) := by decide +kernel
theorem dX10_readLadder_95 : decode cX10_readLadder 95 = .ok (.sipush 136, 3) := by decide +kernel
theorem dX10_readLadder_98 : decode cX10_readLadder 98 = .ok (.iconst 2, 1) := by decide +kernel
theorem dX10_readLadder_99 : decode cX10_readLadder 99 = .ok (.aload_n 0, 1) := by decide +kernel
theorem dX10_readLadder_100 : decode cX10_readLadder 100 = .ok (.getfield 20, 3) := by decide +kernel
theorem dX10_readLadder_103 : decode cX10_readLadder 103 = .ok (.bipush 11, 2) := by decide +kernel
theorem dX10_readLadder_105 : decode cX10_readLadder 105 = .ok (.iaload, 1) := by decide +kernel
theorem dX10_readLadder_106 : decode cX10_readLadder 106 = .ok (.imul, 1) := by decide +kernel
theorem dX10_readLadder_107 : decode cX10_readLadder 107 = .ok (.iadd, 1) := by decide +kernel
theorem dX10_readLadder_108 : decode cX10_readLadder 108 = .ok (.iconst 1, 1) := by decide +kernel
theorem dX10_readLadder_109 : decode cX10_readLadder 109 = .ok (.iadd, 1) := by decide +kernel
theorem dX10_readLadder_110 : decode cX10_readLadder 110 = .ok (.iload_n 3, 1) := by decide +kernel
theorem dX10_readLadder_111 : decode cX10_readLadder 111 = .ok (.iastore, 1) := by decide +kernel
theorem dX10_readLadder_112 : decode cX10_readLadder 112 = .ok (.aload_n 0, 1) := by decide +kernel
theorem dX10_readLadder_113 : decode cX10_readLadder 113 = .ok (.getfield 20, 3) := by decide +kernel
theorem dX10_readLadder_116 : decode cX10_readLadder 116 = .ok (.bipush 11, 2) := by decide +kernel
theorem dX10_readLadder_118 : decode cX10_readLadder 118 = .ok (.dup2, 1) := by decide +kernel
theorem dX10_readLadder_119 : decode cX10_readLadder 119 = .ok (.iaload, 1) := by decide +kernel
theorem dX10_readLadder_120 : decode cX10_readLadder 120 = .ok (.iconst 1, 1) := by decide +kernel
theorem dX10_readLadder_121 : decode cX10_readLadder 121 = .ok (.iadd, 1) := by decide +kernel
theorem dX10_readLadder_122 : decode cX10_readLadder 122 = .ok (.iastore, 1) := by decide +kernel
theorem dX10_readLadder_123 : decode cX10_readLadder 123 = .ok (.iload_n 2, 1) := by decide +kernel
theorem dX10_readLadder_124 : decode cX10_readLadder 124 = .ok (.istore_n 1, 1) := by decide +kernel
theorem dX10_readLadder_125 : decode cX10_readLadder 125 = .ok (.aload_n 0, 1) := by decide +kernel
theorem dX10_readLadder_126 : decode cX10_readLadder 126 = .ok (.invokevirtual 82, 3) := by decide +kernel
theorem dX10_readLadder_129 : decode cX10_readLadder 129 = .ok (.invokestatic 99, 3) := by decide +kernel
theorem dX10_readLadder_132 : decode cX10_readLadder 132 = .ok (.ifCond .ne (-130), 3) := by decide +kernel
theorem dX10_readLadder_135 : decode cX10_readLadder 135 = .ok (.return_, 1) := by decide +kernel
theorem dX10_statement_0 : decode cX10_statement 0 = .ok (.aload_n 0, 1) := by decide +kernel
theorem dX10_statement_1 : decode cX10_statement 1 = .ok (.invokevirtual 82, 3) := by decide +kernel
theorem dX10_statement_4 : decode cX10_statement 4 = .ok (.pop, 1) := by decide +kernel
theorem dX10_statement_5 : decode cX10_statement 5 = .ok (.aload_n 0, 1) := by decide +kernel
theorem dX10_statement_6 : decode cX10_statement 6 = .ok (.getfield 61, 3) := by decide +kernel
theorem dX10_statement_9 : decode cX10_statement 9 = .ok (.istore_n 1, 1) := by decide +kernel
theorem dX10_statement_10 : decode cX10_statement 10 = .ok (.aload_n 0, 1) := by decide +kernel
theorem dX10_statement_11 : decode cX10_statement 11 = .ok (.ldc 153, 2) := by decide +kernel
theorem dX10_statement_13 : decode cX10_statement 13 = .ok (.invokevirtual 123, 3) := by decide +kernel
theorem dX10_statement_16 : decode cX10_statement 16 = .ok (.ifCond .eq 40, 3) := by decide +kernel
theorem dX10_statement_19 : decode cX10_statement 19 = .ok (.aload_n 0, 1) := by decide +kernel
theorem dX10_statement_20 : decode cX10_statement 20 = .ok (.iconst 0, 1) := by decide +kernel
theorem dX10_statement_21 : decode cX10_statement 21 = .ok (.iload_n 1, 1) := by decide +kernel
theorem dX10_statement_22 : decode cX10_statement 22 = .ok (.invokevirtual 155, 3) := by decide +kernel
theorem dX10_statement_25 : decode cX10_statement 25 = .ok (.aload_n 0, 1) := by decide +kernel
theorem dX10_statement_26 : decode cX10_statement 26 = .ok (.getfield 20, 3) := by decide +kernel
theorem dX10_statement_29 : decode cX10_statement 29 = .ok (.iconst 4, 1) := by decide +kernel
theorem dX10_statement_30 : decode cX10_statement 30 = .ok (.aload_n 0, 1) := by decide +kernel
theorem dX10_statement_31 : decode cX10_statement 31 = .ok (.iconst 0, 1) := by decide +kernel
theorem dX10_statement_32 : decode cX10_statement 32 = .ok (.sipush 9999, 3) := by decide +kernel
theorem dX10_statement_35 : decode cX10_statement 35 = .ok (.invokevirtual 131, 3) := by decide +kernel
theorem dX10_statement_38 : decode cX10_statement 38 = .ok (.iastore, 1) := by decide +kernel
theorem dX10_statement_39 : decode cX10_statement 39 = .ok (.aload_n 0, 1) := by decide +kernel
theorem dX10_statement_40 : decode cX10_statement 40 = .ok (.getfield 20, 3) := by decide +kernel
theorem dX10_statement_43 : decode cX10_statement 43 = .ok (.iconst 5, 1) := by decide +kernel
theorem dX10_statement_44 : decode cX10_statement 44 = .ok (.aload_n 0, 1) := by decide +kernel
theorem dX10_statement_45 : decode cX10_statement 45 = .ok (.iconst 0, 1) := by decide +kernel
theorem dX10_statement_46 : decode cX10_statement 46 = .ok (.sipush 999, 3) := by decide +kernel
theorem dX10_statement_49 : decode cX10_statement 49 = .ok (.invokevirtual 131, 3) := by decide +kernel
theorem dX10_statement_52 : decode cX10_statement 52 = .ok (.iastore, 1) := by decide +kernel
theorem dX10_statement_53 : decode cX10_statement 53 = .ok (.goto 221, 3) := by decide +kernel
theorem dX10_statement_56 : decode cX10_statement 56 = .ok (.aload_n 0, 1) := by decide +kernel
theorem dX10_statement_57 : decode cX10_statement 57 = .ok (.ldc 158, 2) := by decide +kernel
theorem dX10_statement_59 : decode cX10_statement 59 = .ok (.invokevirtual 123, 3) := by decide +kernel
theorem dX10_statement_62 : decode cX10_statement 62 = .ok (.ifCond .eq 10, 3) := by decide +kernel
theorem dX10_statement_65 : decode cX10_statement 65 = .ok (.aload_n 0, 1) := by decide +kernel
theorem dX10_statement_66 : decode cX10_statement 66 = .ok (.invokevirtual 159, 3) := by decide +kernel
theorem dX10_statement_69 : decode cX10_statement 69 = .ok (.goto 205, 3) := by decide +kernel
theorem dX10_statement_72 : decode cX10_statement 72 = .ok (.aload_n 0, 1) := by decide +kernel
theorem dX10_statement_73 : decode cX10_statement 73 = .ok (.ldc 162, 2) := by decide +kernel
theorem dX10_statement_75 : decode cX10_statement 75 = .ok (.invokevirtual 123, 3) := by decide +kernel
theorem dX10_statement_78 : decode cX10_statement 78 = .ok (.ifCond .eq 16, 3) := by decide +kernel
theorem dX10_statement_81 : decode cX10_statement 81 = .ok (.aload_n 0, 1) := by decide +kernel
theorem dX10_statement_82 : decode cX10_statement 82 = .ok (.iconst 1, 1) := by decide +kernel
theorem dX10_statement_83 : decode cX10_statement 83 = .ok (.iload_n 1, 1) := by decide +kernel
theorem dX10_statement_84 : decode cX10_statement 84 = .ok (.invokevirtual 155, 3) := by decide +kernel
theorem dX10_statement_87 : decode cX10_statement 87 = .ok (.aload_n 0, 1) := by decide +kernel
theorem dX10_statement_88 : decode cX10_statement 88 = .ok (.invokevirtual 164, 3) := by decide +kernel
theorem dX10_statement_91 : decode cX10_statement 91 = .ok (.goto 183, 3) := by decide +kernel
theorem dX10_statement_94 : decode cX10_statement 94 = .ok (.aload_n 0, 1) := by decide +kernel
theorem dX10_statement_95 : decode cX10_statement 95 = .ok (.ldc 167, 2) := by decide +kernel
theorem dX10_statement_97 : decode cX10_statement 97 = .ok (.invokevirtual 123, 3) := by decide +kernel
theorem dX10_statement_100 : decode cX10_statement 100 = .ok (.ifCond .eq 26, 3) := by decide +kernel
theorem dX10_statement_103 : decode cX10_statement 103 = .ok (.aload_n 0, 1) := by decide +kernel
theorem dX10_statement_104 : decode cX10_statement 104 = .ok (.iconst 2, 1) := by decide +kernel
theorem dX10_statement_105 : decode cX10_statement 105 = .ok (.iload_n 1, 1) := by decide +kernel
theorem dX10_statement_106 : decode cX10_statement 106 = .ok (.invokevirtual 155, 3) := by decide +kernel
theorem dX10_statement_109 : decode cX10_statement 109 = .ok (.aload_n 0, 1) := by decide +kernel
theorem dX10_statement_110 : decode cX10_statement 110 = .ok (.getfield 20, 3) := by decide +kernel
theorem dX10_statement_113 : decode cX10_statement 113 = .ok (.bipush 6, 2) := by decide +kernel
theorem dX10_statement_115 : decode cX10_statement 115 = .ok (.aload_n 0, 1) := by decide +kernel
theorem dX10_statement_116 : decode cX10_statement 116 = .ok (.iconst 0, 1) := by decide +kernel
theorem dX10_statement_117 : decode cX10_statement 117 = .ok (.bipush 6, 2) := by decide +kernel
theorem dX10_statement_119 : decode cX10_statement 119 = .ok (.invokevirtual 131, 3) := by decide +kernel
theorem dX10_statement_122 : decode cX10_statement 122 = .ok (.iastore, 1) := by decide +kernel
theorem dX10_statement_123 : decode cX10_statement 123 = .ok (.goto 151, 3) := by decide +kernel
theorem dX10_statement_126 : decode cX10_statement 126 = .ok (.aload_n 0, 1) := by decide +kernel
theorem dX10_statement_127 : decode cX10_statement 127 = .ok (.ldc 169, 2) := by decide +kernel
theorem dX10_statement_129 : decode cX10_statement 129 = .ok (.invokevirtual 123, 3) := by decide +kernel
theorem dX10_statement_132 : decode cX10_statement 132 = .ok (.ifCond .eq 26, 3) := by decide +kernel
theorem dX10_statement_135 : decode cX10_statement 135 = .ok (.aload_n 0, 1) := by decide +kernel
theorem dX10_statement_136 : decode cX10_statement 136 = .ok (.iconst 3, 1) := by decide +kernel
theorem dX10_statement_137 : decode cX10_statement 137 = .ok (.iload_n 1, 1) := by decide +kernel
theorem dX10_statement_138 : decode cX10_statement 138 = .ok (.invokevirtual 155, 3) := by decide +kernel
theorem dX10_statement_141 : decode cX10_statement 141 = .ok (.aload_n 0, 1) := by decide +kernel
theorem dX10_statement_142 : decode cX10_statement 142 = .ok (.getfield 20, 3) := by decide +kernel
theorem dX10_statement_145 : decode cX10_statement 145 = .ok (.bipush 7, 2) := by decide +kernel
theorem dX10_statement_147 : decode cX10_statement 147 = .ok (.aload_n 0, 1) := by decide +kernel
theorem dX10_statement_148 : decode cX10_statement 148 = .ok (.iconst 0, 1) := by decide +kernel
theorem dX10_statement_149 : decode cX10_statement 149 = .ok (.bipush 100, 2) := by decide +kernel
theorem dX10_statement_151 : decode cX10_statement 151 = .ok (.invokevirtual 131, 3) := by decide +kernel
theorem dX10_statement_154 : decode cX10_statement 154 = .ok (.iastore, 1) := by decide +kernel
theorem dX10_statement_155 : decode cX10_statement 155 = .ok (.goto 119, 3) := by decide +kernel
theorem dX10_statement_158 : decode cX10_statement 158 = .ok (.aload_n 0, 1) := by decide +kernel
theorem dX10_statement_159 : decode cX10_statement 159 = .ok (.ldc 171, 2) := by decide +kernel
theorem dX10_statement_161 : decode cX10_statement 161 = .ok (.invokevirtual 123, 3) := by decide +kernel
theorem dX10_statement_164 : decode cX10_statement 164 = .ok (.ifCond .eq 27, 3) := by decide +kernel
theorem dX10_statement_167 : decode cX10_statement 167 = .ok (.aload_n 0, 1) := by decide +kernel
theorem dX10_statement_168 : decode cX10_statement 168 = .ok (.iconst 4, 1) := by decide +kernel
theorem dX10_statement_169 : decode cX10_statement 169 = .ok (.iload_n 1, 1) := by decide +kernel
theorem dX10_statement_170 : decode cX10_statement 170 = .ok (.invokevirtual 155, 3) := by decide +kernel
theorem dX10_statement_173 : decode cX10_statement 173 = .ok (.aload_n 0, 1) := by decide +kernel
theorem dX10_statement_174 : decode cX10_statement 174 = .ok (.getfield 20, 3) := by decide +kernel
theorem dX10_statement_177 : decode cX10_statement 177 = .ok (.bipush 8, 2) := by decide +kernel
theorem dX10_statement_179 : decode cX10_statement 179 = .ok (.aload_n 0, 1) := by decide +kernel
theorem dX10_statement_180 : decode cX10_statement 180 = .ok (.iconst 0, 1) := by decide +kernel
theorem dX10_statement_181 : decode cX10_statement 181 = .ok (.sipush 999, 3) := by decide +kernel
theorem dX10_statement_184 : decode cX10_statement 184 = .ok (.invokevirtual 131, 3) := by decide +kernel
theorem dX10_statement_187 : decode cX10_statement 187 = .ok (.iastore, 1) := by decide +kernel
theorem dX10_statement_188 : decode cX10_statement 188 = .ok (.goto 86, 3) := by decide +kernel
theorem dX10_statement_191 : decode cX10_statement 191 = .ok (.aload_n 0, 1) := by decide +kernel
theorem dX10_statement_192 : decode cX10_statement 192 = .ok (.ldc 173, 2) := by decide +kernel
theorem dX10_statement_194 : decode cX10_statement 194 = .ok (.invokevirtual 123, 3) := by decide +kernel
theorem dX10_statement_197 : decode cX10_statement 197 = .ok (.ifCond .eq 39, 3) := by decide +kernel
theorem dX10_statement_200 : decode cX10_statement 200 = .ok (.aload_n 0, 1) := by decide +kernel
theorem dX10_statement_201 : decode cX10_statement 201 = .ok (.iconst 5, 1) := by decide +kernel
theorem dX10_statement_202 : decode cX10_statement 202 = .ok (.iload_n 1, 1) := by decide +kernel
theorem dX10_statement_203 : decode cX10_statement 203 = .ok (.invokevirtual 155, 3) := by decide +kernel
theorem dX10_statement_206 : decode cX10_statement 206 = .ok (.aload_n 0, 1) := by decide +kernel
theorem dX10_statement_207 : decode cX10_statement 207 = .ok (.getfield 20, 3) := by decide +kernel
theorem dX10_statement_210 : decode cX10_statement 210 = .ok (.bipush 9, 2) := by decide +kernel
theorem dX10_statement_212 : decode cX10_statement 212 = .ok (.aload_n 0, 1) := by decide +kernel
theorem dX10_statement_213 : decode cX10_statement 213 = .ok (.iconst 0, 1) := by decide +kernel
theorem dX10_statement_214 : decode cX10_statement 214 = .ok (.iconst 4, 1) := by decide +kernel
theorem dX10_statement_215 : decode cX10_statement 215 = .ok (.invokevirtual 131, 3) := by decide +kernel
theorem dX10_statement_218 : decode cX10_statement 218 = .ok (.iastore, 1) := by decide +kernel
theorem dX10_statement_219 : decode cX10_statement 219 = .ok (.aload_n 0, 1) := by decide +kernel
theorem dX10_statement_220 : decode cX10_statement 220 = .ok (.getfield 20, 3) := by decide +kernel
theorem dX10_statement_223 : decode cX10_statement 223 = .ok (.bipush 10, 2) := by decide +kernel
theorem dX10_statement_225 : decode cX10_statement 225 = .ok (.aload_n 0, 1) := by decide +kernel
theorem dX10_statement_226 : decode cX10_statement 226 = .ok (.iconst 0, 1) := by decide +kernel
theorem dX10_statement_227 : decode cX10_statement 227 = .ok (.bipush 40, 2) := by decide +kernel
theorem dX10_statement_229 : decode cX10_statement 229 = .ok (.invokevirtual 131, 3) := by decide +kernel
theorem dX10_statement_232 : decode cX10_statement 232 = .ok (.iastore, 1) := by decide +kernel
theorem dX10_statement_233 : decode cX10_statement 233 = .ok (.goto 41, 3) := by decide +kernel
theorem dX10_statement_236 : decode cX10_statement 236 = .ok (.aload_n 0, 1) := by decide +kernel
theorem dX10_statement_237 : decode cX10_statement 237 = .ok (.ldc 175, 2) := by decide +kernel
theorem dX10_statement_239 : decode cX10_statement 239 = .ok (.invokevirtual 123, 3) := by decide +kernel
theorem dX10_statement_242 : decode cX10_statement 242 = .ok (.ifCond .eq 25, 3) := by decide +kernel
theorem dX10_statement_245 : decode cX10_statement 245 = .ok (.aload_n 0, 1) := by decide +kernel
theorem dX10_statement_246 : decode cX10_statement 246 = .ok (.bipush 6, 2) := by decide +kernel
theorem dX10_statement_248 : decode cX10_statement 248 = .ok (.iload_n 1, 1) := by decide +kernel
theorem dX10_statement_249 : decode cX10_statement 249 = .ok (.invokevirtual 155, 3) := by decide +kernel
theorem dX10_statement_252 : decode cX10_statement 252 = .ok (.aload_n 0, 1) := by decide +kernel
theorem dX10_statement_253 : decode cX10_statement 253 = .ok (.getfield 20, 3) := by decide +kernel
theorem dX10_statement_256 : decode cX10_statement 256 = .ok (.bipush 15, 2) := by decide +kernel
theorem dX10_statement_258 : decode cX10_statement 258 = .ok (.iconst 1, 1) := by decide +kernel
theorem dX10_statement_259 : decode cX10_statement 259 = .ok (.iastore, 1) := by decide +kernel
theorem dX10_statement_260 : decode cX10_statement 260 = .ok (.aload_n 0, 1) := by decide +kernel
theorem dX10_statement_261 : decode cX10_statement 261 = .ok (.invokevirtual 114, 3) := by decide +kernel
theorem dX10_statement_264 : decode cX10_statement 264 = .ok (.goto 10, 3) := by decide +kernel
theorem dX10_statement_267 : decode cX10_statement 267 = .ok (.aload_n 0, 1) := by decide +kernel
theorem dX10_statement_268 : decode cX10_statement 268 = .ok (.bipush (-2), 2) := by decide +kernel
theorem dX10_statement_270 : decode cX10_statement 270 = .ok (.iload_n 1, 1) := by decide +kernel
theorem dX10_statement_271 : decode cX10_statement 271 = .ok (.invokevirtual 95, 3) := by decide +kernel
theorem dX10_statement_274 : decode cX10_statement 274 = .ok (.aload_n 0, 1) := by decide +kernel
theorem dX10_statement_275 : decode cX10_statement 275 = .ok (.bipush 59, 2) := by decide +kernel
theorem dX10_statement_277 : decode cX10_statement 277 = .ok (.invokevirtual 117, 3) := by decide +kernel
theorem dX10_statement_280 : decode cX10_statement 280 = .ok (.return_, 1) := by decide +kernel
theorem dX10_load_0 : decode cX10_load 0 = .ok (.aload_n 0, 1) := by decide +kernel
theorem dX10_load_1 : decode cX10_load 1 = .ok (.iconst 0, 1) := by decide +kernel
theorem dX10_load_2 : decode cX10_load 2 = .ok (.putfield 52, 3) := by decide +kernel
theorem dX10_load_5 : decode cX10_load 5 = .ok (.aload_n 0, 1) := by decide +kernel
theorem dX10_load_6 : decode cX10_load 6 = .ok (.iload_n 1, 1) := by decide +kernel
theorem dX10_load_7 : decode cX10_load 7 = .ok (.iconst 0, 1) := by decide +kernel
theorem dX10_load_8 : decode cX10_load 8 = .ok (.aload_n 0, 1) := by decide +kernel
theorem dX10_load_9 : decode cX10_load 9 = .ok (.getfield 55, 3) := by decide +kernel
theorem dX10_load_12 : decode cX10_load 12 = .ok (.invokestatic 74, 3) := by decide +kernel
theorem dX10_load_15 : decode cX10_load 15 = .ok (.ifCond .ne 7, 3) := by decide +kernel
theorem dX10_load_18 : decode cX10_load 18 = .ok (.iconst 1, 1) := by decide +kernel
theorem dX10_load_19 : decode cX10_load 19 = .ok (.goto 4, 3) := by decide +kernel
theorem dX10_load_22 : decode cX10_load 22 = .ok (.iconst 0, 1) := by decide +kernel
theorem dX10_load_23 : decode cX10_load 23 = .ok (.iconst 1, 1) := by decide +kernel
theorem dX10_load_24 : decode cX10_load 24 = .ok (.invokevirtual 177, 3) := by decide +kernel
theorem dX10_load_27 : decode cX10_load 27 = .ok (.ifCond .eq 5, 3) := by decide +kernel
theorem dX10_load_30 : decode cX10_load 30 = .ok (.iconst 0, 1) := by decide +kernel
theorem dX10_load_31 : decode cX10_load 31 = .ok (.ireturn, 1) := by decide +kernel
theorem dX10_load_32 : decode cX10_load 32 = .ok (.aload_n 0, 1) := by decide +kernel
theorem dX10_load_33 : decode cX10_load 33 = .ok (.iconst 0, 1) := by decide +kernel
theorem dX10_load_34 : decode cX10_load 34 = .ok (.putfield 55, 3) := by decide +kernel
theorem dX10_load_37 : decode cX10_load 37 = .ok (.aload_n 0, 1) := by decide +kernel
theorem dX10_load_38 : decode cX10_load 38 = .ok (.iload_n 1, 1) := by decide +kernel
theorem dX10_load_39 : decode cX10_load 39 = .ok (.putfield 58, 3) := by decide +kernel
theorem dX10_load_42 : decode cX10_load 42 = .ok (.aload_n 0, 1) := by decide +kernel
theorem dX10_load_43 : decode cX10_load 43 = .ok (.iconst 0, 1) := by decide +kernel
theorem dX10_load_44 : decode cX10_load 44 = .ok (.putfield 61, 3) := by decide +kernel
theorem dX10_load_47 : decode cX10_load 47 = .ok (.aload_n 0, 1) := by decide +kernel
theorem dX10_load_48 : decode cX10_load 48 = .ok (.iconst 0, 1) := by decide +kernel
theorem dX10_load_49 : decode cX10_load 49 = .ok (.putfield 68, 3) := by decide +kernel
theorem dX10_load_52 : decode cX10_load 52 = .ok (.aload_n 0, 1) := by decide +kernel
theorem dX10_load_53 : decode cX10_load 53 = .ok (.iconst (-1), 1) := by decide +kernel
theorem dX10_load_54 : decode cX10_load 54 = .ok (.putfield 71, 3) := by decide +kernel
theorem dX10_load_57 : decode cX10_load 57 = .ok (.aload_n 0, 1) := by decide +kernel
theorem dX10_load_58 : decode cX10_load 58 = .ok (.iconst 0, 1) := by decide +kernel
theorem dX10_load_59 : decode cX10_load 59 = .ok (.putfield 111, 3) := by decide +kernel
theorem dX10_load_62 : decode cX10_load 62 = .ok (.aload_n 0, 1) := by decide +kernel
theorem dX10_load_63 : decode cX10_load 63 = .ok (.iconst 0, 1) := by decide +kernel
theorem dX10_load_64 : decode cX10_load 64 = .ok (.putfield 143, 3) := by decide +kernel
theorem dX10_load_67 : decode cX10_load 67 = .ok (.iconst 0, 1) := by decide +kernel
theorem dX10_load_68 : decode cX10_load 68 = .ok (.istore_n 2, 1) := by decide +kernel
theorem dX10_load_69 : decode cX10_load 69 = .ok (.iload_n 2, 1) := by decide +kernel
theorem dX10_load_70 : decode cX10_load 70 = .ok (.sipush 1728, 3) := by decide +kernel
theorem dX10_load_73 : decode cX10_load 73 = .ok (.if_icmp .ge 16, 3) := by decide +kernel
theorem dX10_load_76 : decode cX10_load 76 = .ok (.aload_n 0, 1) := by decide +kernel
theorem dX10_load_77 : decode cX10_load 77 = .ok (.getfield 20, 3) := by decide +kernel
theorem dX10_load_80 : decode cX10_load 80 = .ok (.iload_n 2, 1) := by decide +kernel
theorem dX10_load_81 : decode cX10_load 81 = .ok (.iconst 0, 1) := by decide +kernel
theorem dX10_load_82 : decode cX10_load 82 = .ok (.iastore, 1) := by decide +kernel
theorem dX10_load_83 : decode cX10_load 83 = .ok (.iinc 2 1, 3) := by decide +kernel
theorem dX10_load_86 : decode cX10_load 86 = .ok (.goto (-17), 3) := by decide +kernel
theorem dX10_load_89 : decode cX10_load 89 = .ok (.aload_n 0, 1) := by decide +kernel
theorem dX10_load_90 : decode cX10_load 90 = .ok (.invokevirtual 181, 3) := by decide +kernel
theorem dX10_load_93 : decode cX10_load 93 = .ok (.aload_n 0, 1) := by decide +kernel
theorem dX10_load_94 : decode cX10_load 94 = .ok (.invokevirtual 78, 3) := by decide +kernel
theorem dX10_load_97 : decode cX10_load 97 = .ok (.ifCond .eq 18, 3) := by decide +kernel
theorem dX10_load_100 : decode cX10_load 100 = .ok (.aload_n 0, 1) := by decide +kernel
theorem dX10_load_101 : decode cX10_load 101 = .ok (.invokevirtual 82, 3) := by decide +kernel
theorem dX10_load_104 : decode cX10_load 104 = .ok (.iconst (-1), 1) := by decide +kernel
theorem dX10_load_105 : decode cX10_load 105 = .ok (.if_icmp .eq 10, 3) := by decide +kernel
theorem dX10_load_108 : decode cX10_load 108 = .ok (.aload_n 0, 1) := by decide +kernel
theorem dX10_load_109 : decode cX10_load 109 = .ok (.invokevirtual 184, 3) := by decide +kernel
theorem dX10_load_112 : decode cX10_load 112 = .ok (.goto (-19), 3) := by decide +kernel
theorem dX10_load_115 : decode cX10_load 115 = .ok (.aload_n 0, 1) := by decide +kernel
theorem dX10_load_116 : decode cX10_load 116 = .ok (.aload_n 0, 1) := by decide +kernel
theorem dX10_load_117 : decode cX10_load 117 = .ok (.getfield 71, 3) := by decide +kernel
theorem dX10_load_120 : decode cX10_load 120 = .ok (.putfield 13, 3) := by decide +kernel
theorem dX10_load_123 : decode cX10_load 123 = .ok (.aload_n 0, 1) := by decide +kernel
theorem dX10_load_124 : decode cX10_load 124 = .ok (.invokevirtual 78, 3) := by decide +kernel
theorem dX10_load_127 : decode cX10_load 127 = .ok (.ifCond .ne 8, 3) := by decide +kernel
theorem dX10_load_130 : decode cX10_load 130 = .ok (.aload_n 0, 1) := by decide +kernel
theorem dX10_load_131 : decode cX10_load 131 = .ok (.getfield 68, 3) := by decide +kernel
theorem dX10_load_134 : decode cX10_load 134 = .ok (.ireturn, 1) := by decide +kernel
theorem dX10_load_135 : decode cX10_load 135 = .ok (.iconst 0, 1) := by decide +kernel
theorem dX10_load_136 : decode cX10_load 136 = .ok (.istore_n 2, 1) := by decide +kernel
theorem dX10_load_137 : decode cX10_load 137 = .ok (.iload_n 2, 1) := by decide +kernel
theorem dX10_load_138 : decode cX10_load 138 = .ok (.aload_n 0, 1) := by decide +kernel
theorem dX10_load_139 : decode cX10_load 139 = .ok (.getfield 20, 3) := by decide +kernel
theorem dX10_load_142 : decode cX10_load 142 = .ok (.iconst 0, 1) := by decide +kernel
theorem dX10_load_143 : decode cX10_load 143 = .ok (.iaload, 1) := by decide +kernel
theorem dX10_load_144 : decode cX10_load 144 = .ok (.if_icmp .ge 25, 3) := by decide +kernel
theorem dX10_load_147 : decode cX10_load 147 = .ok (.aload_n 0, 1) := by decide +kernel
theorem dX10_load_148 : decode cX10_load 148 = .ok (.getfield 20, 3) := by decide +kernel
theorem dX10_load_151 : decode cX10_load 151 = .ok (.iload_n 2, 1) := by decide +kernel
theorem dX10_load_152 : decode cX10_load 152 = .ok (.invokestatic 148, 3) := by decide +kernel
theorem dX10_load_155 : decode cX10_load 155 = .ok (.iconst 1, 1) := by decide +kernel
theorem dX10_load_156 : decode cX10_load 156 = .ok (.iadd, 1) := by decide +kernel
theorem dX10_load_157 : decode cX10_load 157 = .ok (.aload_n 0, 1) := by decide +kernel
theorem dX10_load_158 : decode cX10_load 158 = .ok (.iload_n 2, 1) := by decide +kernel
theorem dX10_load_159 : decode cX10_load 159 = .ok (.invokevirtual 187, 3) := by decide +kernel
theorem dX10_load_162 : decode cX10_load 162 = .ok (.iastore, 1) := by decide +kernel
theorem dX10_load_163 : decode cX10_load 163 = .ok (.iinc 2 1, 3) := by decide +kernel
theorem dX10_load_166 : decode cX10_load 166 = .ok (.goto (-29), 3) := by decide +kernel
theorem dX10_load_169 : decode cX10_load 169 = .ok (.aload_n 0, 1) := by decide +kernel
theorem dX10_load_170 : decode cX10_load 170 = .ok (.invokevirtual 189, 3) := by decide +kernel
theorem dX10_load_173 : decode cX10_load 173 = .ok (.aload_n 0, 1) := by decide +kernel
theorem dX10_load_174 : decode cX10_load 174 = .ok (.getfield 20, 3) := by decide +kernel
theorem dX10_load_177 : decode cX10_load 177 = .ok (.aload_n 0, 1) := by decide +kernel
theorem dX10_load_178 : decode cX10_load 178 = .ok (.getfield 17, 3) := by decide +kernel
theorem dX10_load_181 : decode cX10_load 181 = .ok (.invokestatic 192, 3) := by decide +kernel
theorem dX10_load_184 : decode cX10_load 184 = .ok (.iconst 0, 1) := by decide +kernel
theorem dX10_load_185 : decode cX10_load 185 = .ok (.istore_n 2, 1) := by decide +kernel
theorem dX10_load_186 : decode cX10_load 186 = .ok (.iload_n 2, 1) := by decide +kernel
theorem dX10_load_187 : decode cX10_load 187 = .ok (.bipush 40, 2) := by decide +kernel
theorem dX10_load_189 : decode cX10_load 189 = .ok (.if_icmp .ge 16, 3) := by decide +kernel
theorem dX10_load_192 : decode cX10_load 192 = .ok (.aload_n 0, 1) := by decide +kernel
theorem dX10_load_193 : decode cX10_load 193 = .ok (.getfield 31, 3) := by decide +kernel
theorem dX10_load_196 : decode cX10_load 196 = .ok (.iload_n 2, 1) := by decide +kernel
theorem dX10_load_197 : decode cX10_load 197 = .ok (.lconst 0, 1) := by decide +kernel
theorem dX10_load_198 : decode cX10_load 198 = .ok (.lastore, 1) := by decide +kernel
theorem dX10_load_199 : decode cX10_load 199 = .ok (.iinc 2 1, 3) := by decide +kernel
theorem dX10_load_202 : decode cX10_load 202 = .ok (.goto (-16), 3) := by decide +kernel
theorem dX10_load_205 : decode cX10_load 205 = .ok (.aload_n 0, 1) := by decide +kernel
theorem dX10_load_206 : decode cX10_load 206 = .ok (.getfield 17, 3) := by decide +kernel
theorem dX10_load_209 : decode cX10_load 209 = .ok (.iconst 0, 1) := by decide +kernel
theorem dX10_load_210 : decode cX10_load 210 = .ok (.iaload, 1) := by decide +kernel
theorem dX10_load_211 : decode cX10_load 211 = .ok (.ireturn, 1) := by decide +kernel
theorem dX10_errorOffset_0 : decode cX10_errorOffset 0 = .ok (.aload_n 0, 1) := by decide +kernel
theorem dX10_errorOffset_1 : decode cX10_errorOffset 1 = .ok (.iconst 0, 1) := by decide +kernel
theorem dX10_errorOffset_2 : decode cX10_errorOffset 2 = .ok (.putfield 52, 3) := by decide +kernel
theorem dX10_errorOffset_5 : decode cX10_errorOffset 5 = .ok (.aload_n 0, 1) := by decide +kernel
theorem dX10_errorOffset_6 : decode cX10_errorOffset 6 = .ok (.getfield 13, 3) := by decide +kernel
theorem dX10_errorOffset_9 : decode cX10_errorOffset 9 = .ok (.ireturn, 1) := by decide +kernel
theorem dX10_limited_0 : decode cX10_limited 0 = .ok (.lload_n 0, 1) := by decide +kernel
theorem dX10_limited_1 : decode cX10_limited 1 = .ok (.ldc2_w 196, 3) := by decide +kernel
theorem dX10_limited_4 : decode cX10_limited 4 = .ok (.lcmp, 1) := by decide +kernel
theorem dX10_limited_5 : decode cX10_limited 5 = .ok (.ifCond .le 9, 3) := by decide +kernel
theorem dX10_limited_8 : decode cX10_limited 8 = .ok (.ldc2_w 196, 3) := by decide +kernel
theorem dX10_limited_11 : decode cX10_limited 11 = .ok (.goto 18, 3) := by decide +kernel
theorem dX10_limited_14 : decode cX10_limited 14 = .ok (.lload_n 0, 1) := by decide +kernel
theorem dX10_limited_15 : decode cX10_limited 15 = .ok (.ldc2_w 198, 3) := by decide +kernel
theorem dX10_limited_18 : decode cX10_limited 18 = .ok (.lcmp, 1) := by decide +kernel
theorem dX10_limited_19 : decode cX10_limited 19 = .ok (.ifCond .ge 9, 3) := by decide +kernel
theorem dX10_limited_22 : decode cX10_limited 22 = .ok (.ldc2_w 198, 3) := by decide +kernel
theorem dX10_limited_25 : decode cX10_limited 25 = .ok (.goto 4, 3) := by decide +kernel
theorem dX10_limited_28 : decode cX10_limited 28 = .ok (.lload_n 0, 1) := by decide +kernel
theorem dX10_limited_29 : decode cX10_limited 29 = .ok (.lreturn, 1) := by decide +kernel
theorem dX10_operate_0 : decode cX10_operate 0 = .ok (.iload_n 0, 1) := by decide +kernel
theorem dX10_operate_1 : decode cX10_operate 1 = .ok (.iconst 5, 1) := by decide +kernel
theorem dX10_operate_2 : decode cX10_operate 2 = .ok (.if_icmp .ne 17, 3) := by decide +kernel
theorem dX10_operate_5 : decode cX10_operate 5 = .ok (.lload_n 3, 1) := by decide +kernel
theorem dX10_operate_6 : decode cX10_operate 6 = .ok (.lconst 0, 1) := by decide +kernel
theorem dX10_operate_7 : decode cX10_operate 7 = .ok (.lcmp, 1) := by decide +kernel
theorem dX10_operate_8 : decode cX10_operate 8 = .ok (.ifCond .ne 7, 3) := by decide +kernel
theorem dX10_operate_11 : decode cX10_operate 11 = .ok (.lconst 0, 1) := by decide +kernel
theorem dX10_operate_12 : decode cX10_operate 12 = .ok (.goto 6, 3) := by decide +kernel
theorem dX10_operate_15 : decode cX10_operate 15 = .ok (.lload_n 1, 1) := by decide +kernel
theorem dX10_operate_16 : decode cX10_operate 16 = .ok (.lload_n 3, 1) := by decide +kernel
theorem dX10_operate_17 : decode cX10_operate 17 = .ok (.ldiv, 1) := by decide +kernel
theorem dX10_operate_18 : decode cX10_operate 18 = .ok (.lreturn, 1) := by decide +kernel
theorem dX10_operate_19 : decode cX10_operate 19 = .ok (.iload_n 0, 1) := by decide +kernel
theorem dX10_operate_20 : decode cX10_operate 20 = .ok (.iconst 2, 1) := by decide +kernel
theorem dX10_operate_21 : decode cX10_operate 21 = .ok (.if_icmp .ne 9, 3) := by decide +kernel
theorem dX10_operate_24 : decode cX10_operate 24 = .ok (.lload_n 1, 1) := by decide +kernel
theorem dX10_operate_25 : decode cX10_operate 25 = .ok (.lload_n 3, 1) := by decide +kernel
theorem dX10_operate_26 : decode cX10_operate 26 = .ok (.ladd, 1) := by decide +kernel
theorem dX10_operate_27 : decode cX10_operate 27 = .ok (.goto 17, 3) := by decide +kernel
theorem dX10_operate_30 : decode cX10_operate 30 = .ok (.iload_n 0, 1) := by decide +kernel
theorem dX10_operate_31 : decode cX10_operate 31 = .ok (.iconst 3, 1) := by decide +kernel
theorem dX10_operate_32 : decode cX10_operate 32 = .ok (.if_icmp .ne 9, 3) := by decide +kernel
theorem dX10_operate_35 : decode cX10_operate 35 = .ok (.lload_n 1, 1) := by decide +kernel
theorem dX10_operate_36 : decode cX10_operate 36 = .ok (.lload_n 3, 1) := by decide +kernel
theorem dX10_operate_37 : decode cX10_operate 37 = .ok (.lsub, 1) := by decide +kernel
theorem dX10_operate_38 : decode cX10_operate 38 = .ok (.goto 6, 3) := by decide +kernel
theorem dX10_operate_41 : decode cX10_operate 41 = .ok (.lload_n 1, 1) := by decide +kernel
theorem dX10_operate_42 : decode cX10_operate 42 = .ok (.lload_n 3, 1) := by decide +kernel
theorem dX10_operate_43 : decode cX10_operate 43 = .ok (.lmul, 1) := by decide +kernel
theorem dX10_operate_44 : decode cX10_operate 44 = .ok (.invokestatic 200, 3) := by decide +kernel
theorem dX10_operate_47 : decode cX10_operate 47 = .ok (.lreturn, 1) := by decide +kernel
theorem dX10_demand_0 : decode cX10_demand 0 = .ok (.aload_n 0, 1) := by decide +kernel
theorem dX10_demand_1 : decode cX10_demand 1 = .ok (.getfield 20, 3) := by decide +kernel
theorem dX10_demand_4 : decode cX10_demand 4 = .ok (.iload_n 1, 1) := by decide +kernel
theorem dX10_demand_5 : decode cX10_demand 5 = .ok (.invokestatic 148, 3) := by decide +kernel
theorem dX10_demand_8 : decode cX10_demand 8 = .ok (.iaload, 1) := by decide +kernel
theorem dX10_demand_9 : decode cX10_demand 9 = .ok (.istore_n 2, 1) := by decide +kernel
theorem dX10_demand_10 : decode cX10_demand 10 = .ok (.aload_n 0, 1) := by decide +kernel
theorem dX10_demand_11 : decode cX10_demand 11 = .ok (.getfield 20, 3) := by decide +kernel
theorem dX10_demand_14 : decode cX10_demand 14 = .ok (.bipush 15, 2) := by decide +kernel
theorem dX10_demand_16 : decode cX10_demand 16 = .ok (.iaload, 1) := by decide +kernel
theorem dX10_demand_17 : decode cX10_demand 17 = .ok (.ifCond .ne 5, 3) := by decide +kernel
theorem dX10_demand_20 : decode cX10_demand 20 = .ok (.iload_n 2, 1) := by decide +kernel
theorem dX10_demand_21 : decode cX10_demand 21 = .ok (.ireturn, 1) := by decide +kernel
theorem dX10_demand_22 : decode cX10_demand 22 = .ok (.iconst 0, 1) := by decide +kernel
theorem dX10_demand_23 : decode cX10_demand 23 = .ok (.istore_n 3, 1) := by decide +kernel
theorem dX10_demand_24 : decode cX10_demand 24 = .ok (.iconst 0, 1) := by decide +kernel
theorem dX10_demand_25 : decode cX10_demand 25 = .ok (.istore 4, 2) := by decide +kernel
theorem dX10_demand_27 : decode cX10_demand 27 = .ok (.iload 4, 2) := by decide +kernel
theorem dX10_demand_29 : decode cX10_demand 29 = .ok (.aload_n 0, 1) := by decide +kernel
theorem dX10_demand_30 : decode cX10_demand 30 = .ok (.getfield 20, 3) := by decide +kernel
theorem dX10_demand_33 : decode cX10_demand 33 = .ok (.bipush 14, 2) := by decide +kernel
theorem dX10_demand_35 : decode cX10_demand 35 = .ok (.iaload, 1) := by decide +kernel
theorem dX10_demand_36 : decode cX10_demand 36 = .ok (.if_icmp .ge 122, 3) := by decide +kernel
theorem dX10_demand_39 : decode cX10_demand 39 = .ok (.aload_n 0, 1) := by decide +kernel
theorem dX10_demand_40 : decode cX10_demand 40 = .ok (.getfield 20, 3) := by decide +kernel
theorem dX10_demand_43 : decode cX10_demand 43 = .ok (.sipush 428, 3) := by decide +kernel
theorem dX10_demand_46 : decode cX10_demand 46 = .ok (.iload 4, 2) := by decide +kernel
theorem dX10_demand_48 : decode cX10_demand 48 = .ok (.iadd, 1) := by decide +kernel
theorem dX10_demand_49 : decode cX10_demand 49 = .ok (.iaload, 1) := by decide +kernel
theorem dX10_demand_50 : decode cX10_demand 50 = .ok (.istore 5, 2) := by decide +kernel
theorem dX10_demand_52 : decode cX10_demand 52 = .ok (.iload 5, 2) := by decide +kernel
theorem dX10_demand_54 : decode cX10_demand 54 = .ok (.iconst 1, 1) := by decide +kernel
theorem dX10_demand_55 : decode cX10_demand 55 = .ok (.if_icmp .gt 67, 3) := by decide +kernel
theorem dX10_demand_58 : decode cX10_demand 58 = .ok (.iinc 4 1, 3) := by decide +kernel
theorem dX10_demand_61 : decode cX10_demand 61 = .ok (.aload_n 0, 1) := by decide +kernel
theorem dX10_demand_62 : decode cX10_demand 62 = .ok (.getfield 20, 3) := by decide +kernel
theorem dX10_demand_65 : decode cX10_demand 65 = .ok (.sipush 428, 3) := by decide +kernel
theorem dX10_demand_68 : decode cX10_demand 68 = .ok (.iload 4, 2) := by decide +kernel
theorem dX10_demand_70 : decode cX10_demand 70 = .ok (.iadd, 1) := by decide +kernel
theorem dX10_demand_71 : decode cX10_demand 71 = .ok (.iaload, 1) := by decide +kernel
theorem dX10_demand_72 : decode cX10_demand 72 = .ok (.istore 6, 2) := by decide +kernel
theorem dX10_demand_74 : decode cX10_demand 74 = .ok (.aload_n 0, 1) := by decide +kernel
theorem dX10_demand_75 : decode cX10_demand 75 = .ok (.getfield 43, 3) := by decide +kernel
theorem dX10_demand_78 : decode cX10_demand 78 = .ok (.iload_n 3, 1) := by decide +kernel
theorem dX10_demand_79 : decode cX10_demand 79 = .ok (.iload 5, 2) := by decide +kernel
theorem dX10_demand_81 : decode cX10_demand 81 = .ok (.ifCond .ne 9, 3) := by decide +kernel
theorem dX10_demand_84 : decode cX10_demand 84 = .ok (.iload 6, 2) := by decide +kernel
theorem dX10_demand_86 : decode cX10_demand 86 = .ok (.i2l, 1) := by decide +kernel
theorem dX10_demand_87 : decode cX10_demand 87 = .ok (.goto 28, 3) := by decide +kernel
theorem dX10_demand_90 : decode cX10_demand 90 = .ok (.iload 6, 2) := by decide +kernel
theorem dX10_demand_92 : decode cX10_demand 92 = .ok (.ifCond .ne 8, 3) := by decide +kernel
theorem dX10_demand_95 : decode cX10_demand 95 = .ok (.iload_n 1, 1) := by decide +kernel
theorem dX10_demand_96 : decode cX10_demand 96 = .ok (.i2l, 1) := by decide +kernel
theorem dX10_demand_97 : decode cX10_demand 97 = .ok (.goto 18, 3) := by decide +kernel
theorem dX10_demand_100 : decode cX10_demand 100 = .ok (.iload 6, 2) := by decide +kernel
theorem dX10_demand_102 : decode cX10_demand 102 = .ok (.iconst 1, 1) := by decide +kernel
theorem dX10_demand_103 : decode cX10_demand 103 = .ok (.if_icmp .ne 10, 3) := by decide +kernel
theorem dX10_demand_106 : decode cX10_demand 106 = .ok (.iload_n 1, 1) := by decide +kernel
theorem dX10_demand_107 : decode cX10_demand 107 = .ok (.iconst 4, 1) := by decide +kernel
theorem dX10_demand_108 : decode cX10_demand 108 = .ok (.irem, 1) := by decide +kernel
theorem dX10_demand_109 : decode cX10_demand 109 = .ok (.i2l, 1) := by decide +kernel
theorem dX10_demand_110 : decode cX10_demand 110 = .ok (.goto 5, 3) := by decide +kernel
theorem dX10_demand_113 : decode cX10_demand 113 = .ok (.iload_n 2, 1) := by decide +kernel
theorem dX10_demand_114 : decode cX10_demand 114 = .ok (.i2l, 1) := by decide +kernel
theorem dX10_demand_115 : decode cX10_demand 115 = .ok (.lastore, 1) := by decide +kernel
theorem dX10_demand_116 : decode cX10_demand 116 = .ok (.iinc 3 1, 3) := by decide +kernel
theorem dX10_demand_119 : decode cX10_demand 119 = .ok (.goto 33, 3) := by decide +kernel
theorem dX10_demand_122 : decode cX10_demand 122 = .ok (.iinc 3 (-1), 3) := by decide +kernel
theorem dX10_demand_125 : decode cX10_demand 125 = .ok (.aload_n 0, 1) := by decide +kernel
theorem dX10_demand_126 : decode cX10_demand 126 = .ok (.getfield 43, 3) := by decide +kernel
theorem dX10_demand_129 : decode cX10_demand 129 = .ok (.iload_n 3, 1) := by decide +kernel
theorem dX10_demand_130 : decode cX10_demand 130 = .ok (.iconst 1, 1) := by decide +kernel
theorem dX10_demand_131 : decode cX10_demand 131 = .ok (.isub, 1) := by decide +kernel
theorem dX10_demand_132 : decode cX10_demand 132 = .ok (.iload 5, 2) := by decide +kernel
theorem dX10_demand_134 : decode cX10_demand 134 = .ok (.aload_n 0, 1) := by decide +kernel
theorem dX10_demand_135 : decode cX10_demand 135 = .ok (.getfield 43, 3) := by decide +kernel
theorem dX10_demand_138 : decode cX10_demand 138 = .ok (.iload_n 3, 1) := by decide +kernel
theorem dX10_demand_139 : decode cX10_demand 139 = .ok (.iconst 1, 1) := by decide +kernel
theorem dX10_demand_140 : decode cX10_demand 140 = .ok (.isub, 1) := by decide +kernel
theorem dX10_demand_141 : decode cX10_demand 141 = .ok (.laload, 1) := by decide +kernel
theorem dX10_demand_142 : decode cX10_demand 142 = .ok (.aload_n 0, 1) := by decide +kernel
theorem dX10_demand_143 : decode cX10_demand 143 = .ok (.getfield 43, 3) := by decide +kernel
theorem dX10_demand_146 : decode cX10_demand 146 = .ok (.iload_n 3, 1) := by decide +kernel
theorem dX10_demand_147 : decode cX10_demand 147 = .ok (.laload, 1) := by decide +kernel
theorem dX10_demand_148 : decode cX10_demand 148 = .ok (.invokestatic 204, 3) := by decide +kernel
theorem dX10_demand_151 : decode cX10_demand 151 = .ok (.lastore, 1) := by decide +kernel
theorem dX10_demand_152 : decode cX10_demand 152 = .ok (.iinc 4 1, 3) := by decide +kernel
theorem dX10_demand_155 : decode cX10_demand 155 = .ok (.goto (-128), 3) := by decide +kernel
theorem dX10_demand_158 : decode cX10_demand 158 = .ok (.aload_n 0, 1) := by decide +kernel
theorem dX10_demand_159 : decode cX10_demand 159 = .ok (.getfield 43, 3) := by decide +kernel
theorem dX10_demand_162 : decode cX10_demand 162 = .ok (.iconst 0, 1) := by decide +kernel
theorem dX10_demand_163 : decode cX10_demand 163 = .ok (.laload, 1) := by decide +kernel
theorem dX10_demand_164 : decode cX10_demand 164 = .ok (.lconst 0, 1) := by decide +kernel
theorem dX10_demand_165 : decode cX10_demand 165 = .ok (.lcmp, 1) := by decide +kernel
theorem dX10_demand_166 : decode cX10_demand 166 = .ok (.ifCond .ge 7, 3) := by decide +kernel
theorem dX10_demand_169 : decode cX10_demand 169 = .ok (.iconst 0, 1) := by decide +kernel
theorem dX10_demand_170 : decode cX10_demand 170 = .ok (.goto 29, 3) := by decide +kernel
theorem dX10_demand_173 : decode cX10_demand 173 = .ok (.aload_n 0, 1) := by decide +kernel
theorem dX10_demand_174 : decode cX10_demand 174 = .ok (.getfield 43, 3) := by decide +kernel
theorem dX10_demand_177 : decode cX10_demand 177 = .ok (.iconst 0, 1) := by decide +kernel
theorem dX10_demand_178 : decode cX10_demand 178 = .ok (.laload, 1) := by decide +kernel
theorem dX10_demand_179 : decode cX10_demand 179 = .ok (.ldc2_w 208, 3) := by decide +kernel
theorem dX10_demand_182 : decode cX10_demand 182 = .ok (.lcmp, 1) := by decide +kernel
theorem dX10_demand_183 : decode cX10_demand 183 = .ok (.ifCond .le 9, 3) := by decide +kernel
theorem dX10_demand_186 : decode cX10_demand 186 = .ok (.sipush 9999, 3) := by decide +kernel
theorem dX10_demand_189 : decode cX10_demand 189 = .ok (.goto 10, 3) := by decide +kernel
theorem dX10_demand_192 : decode cX10_demand 192 = .ok (.aload_n 0, 1) := by decide +kernel
theorem dX10_demand_193 : decode cX10_demand 193 = .ok (.getfield 43, 3) := by decide +kernel
theorem dX10_demand_196 : decode cX10_demand 196 = .ok (.iconst 0, 1) := by decide +kernel
theorem dX10_demand_197 : decode cX10_demand 197 = .ok (.laload, 1) := by decide +kernel
theorem dX10_demand_198 : decode cX10_demand 198 = .ok (.l2i, 1) := by decide +kernel
theorem dX10_demand_199 : decode cX10_demand 199 = .ok (.ireturn, 1) := by decide +kernel
theorem dX10_bandOf_0 : decode cX10_bandOf 0 = .ok (.iload_n 1, 1) := by decide +kernel
theorem dX10_bandOf_1 : decode cX10_bandOf 1 = .ok (.istore_n 2, 1) := by decide +kernel
theorem dX10_bandOf_2 : decode cX10_bandOf 2 = .ok (.iload_n 2, 1) := by decide +kernel
theorem dX10_bandOf_3 : decode cX10_bandOf 3 = .ok (.ifCond .lt 24, 3) := by decide +kernel
theorem dX10_bandOf_6 : decode cX10_bandOf 6 = .ok (.aload_n 0, 1) := by decide +kernel
theorem dX10_bandOf_7 : decode cX10_bandOf 7 = .ok (.getfield 17, 3) := by decide +kernel
theorem dX10_bandOf_10 : decode cX10_bandOf 10 = .ok (.iload_n 2, 1) := by decide +kernel
theorem dX10_bandOf_11 : decode cX10_bandOf 11 = .ok (.invokestatic 150, 3) := by decide +kernel
theorem dX10_bandOf_14 : decode cX10_bandOf 14 = .ok (.iaload, 1) := by decide +kernel
theorem dX10_bandOf_15 : decode cX10_bandOf 15 = .ok (.iconst 1, 1) := by decide +kernel
theorem dX10_bandOf_16 : decode cX10_bandOf 16 = .ok (.if_icmp .ne 5, 3) := by decide +kernel
theorem dX10_bandOf_19 : decode cX10_bandOf 19 = .ok (.iload_n 2, 1) := by decide +kernel
theorem dX10_bandOf_20 : decode cX10_bandOf 20 = .ok (.ireturn, 1) := by decide +kernel
theorem dX10_bandOf_21 : decode cX10_bandOf 21 = .ok (.iinc 2 (-1), 3) := by decide +kernel
theorem dX10_bandOf_24 : decode cX10_bandOf 24 = .ok (.goto (-22), 3) := by decide +kernel
theorem dX10_bandOf_27 : decode cX10_bandOf 27 = .ok (.iconst (-1), 1) := by decide +kernel
theorem dX10_bandOf_28 : decode cX10_bandOf 28 = .ok (.ireturn, 1) := by decide +kernel
theorem dX10_bound_0 : decode cX10_bound 0 = .ok (.aload_n 0, 1) := by decide +kernel
theorem dX10_bound_1 : decode cX10_bound 1 = .ok (.iload_n 1, 1) := by decide +kernel
theorem dX10_bound_2 : decode cX10_bound 2 = .ok (.invokevirtual 210, 3) := by decide +kernel
theorem dX10_bound_5 : decode cX10_bound 5 = .ok (.istore 4, 2) := by decide +kernel
theorem dX10_bound_7 : decode cX10_bound 7 = .ok (.iload 4, 2) := by decide +kernel
theorem dX10_bound_9 : decode cX10_bound 9 = .ok (.ifCond .ge 15, 3) := by decide +kernel
theorem dX10_bound_12 : decode cX10_bound 12 = .ok (.iload_n 3, 1) := by decide +kernel
theorem dX10_bound_13 : decode cX10_bound 13 = .ok (.ifCond .eq 9, 3) := by decide +kernel
theorem dX10_bound_16 : decode cX10_bound 16 = .ok (.sipush 9999, 3) := by decide +kernel
theorem dX10_bound_19 : decode cX10_bound 19 = .ok (.goto 4, 3) := by decide +kernel
theorem dX10_bound_22 : decode cX10_bound 22 = .ok (.iconst 0, 1) := by decide +kernel
theorem dX10_bound_23 : decode cX10_bound 23 = .ok (.ireturn, 1) := by decide +kernel
theorem dX10_bound_24 : decode cX10_bound 24 = .ok (.iload_n 3, 1) := by decide +kernel
theorem dX10_bound_25 : decode cX10_bound 25 = .ok (.ifCond .eq 25, 3) := by decide +kernel
theorem dX10_bound_28 : decode cX10_bound 28 = .ok (.iload_n 2, 1) := by decide +kernel
theorem dX10_bound_29 : decode cX10_bound 29 = .ok (.iload_n 2, 1) := by decide +kernel
theorem dX10_bound_30 : decode cX10_bound 30 = .ok (.aload_n 0, 1) := by decide +kernel
theorem dX10_bound_31 : decode cX10_bound 31 = .ok (.getfield 17, 3) := by decide +kernel
theorem dX10_bound_34 : decode cX10_bound 34 = .ok (.iload 4, 2) := by decide +kernel
theorem dX10_bound_36 : decode cX10_bound 36 = .ok (.invokestatic 150, 3) := by decide +kernel
theorem dX10_bound_39 : decode cX10_bound 39 = .ok (.iconst 2, 1) := by decide +kernel
theorem dX10_bound_40 : decode cX10_bound 40 = .ok (.iadd, 1) := by decide +kernel
theorem dX10_bound_41 : decode cX10_bound 41 = .ok (.iaload, 1) := by decide +kernel
theorem dX10_bound_42 : decode cX10_bound 42 = .ok (.imul, 1) := by decide +kernel
theorem dX10_bound_43 : decode cX10_bound 43 = .ok (.bipush 100, 2) := by decide +kernel
theorem dX10_bound_45 : decode cX10_bound 45 = .ok (.idiv, 1) := by decide +kernel
theorem dX10_bound_46 : decode cX10_bound 46 = .ok (.iadd, 1) := by decide +kernel
theorem dX10_bound_47 : decode cX10_bound 47 = .ok (.goto 22, 3) := by decide +kernel
theorem dX10_bound_50 : decode cX10_bound 50 = .ok (.iload_n 2, 1) := by decide +kernel
theorem dX10_bound_51 : decode cX10_bound 51 = .ok (.iload_n 2, 1) := by decide +kernel
theorem dX10_bound_52 : decode cX10_bound 52 = .ok (.aload_n 0, 1) := by decide +kernel
theorem dX10_bound_53 : decode cX10_bound 53 = .ok (.getfield 17, 3) := by decide +kernel
theorem dX10_bound_56 : decode cX10_bound 56 = .ok (.iload 4, 2) := by decide +kernel
theorem dX10_bound_58 : decode cX10_bound 58 = .ok (.invokestatic 150, 3) := by decide +kernel
theorem dX10_bound_61 : decode cX10_bound 61 = .ok (.iconst 1, 1) := by decide +kernel
theorem dX10_bound_62 : decode cX10_bound 62 = .ok (.iadd, 1) := by decide +kernel
theorem dX10_bound_63 : decode cX10_bound 63 = .ok (.iaload, 1) := by decide +kernel
theorem dX10_bound_64 : decode cX10_bound 64 = .ok (.imul, 1) := by decide +kernel
theorem dX10_bound_65 : decode cX10_bound 65 = .ok (.bipush 100, 2) := by decide +kernel
theorem dX10_bound_67 : decode cX10_bound 67 = .ok (.idiv, 1) := by decide +kernel
theorem dX10_bound_68 : decode cX10_bound 68 = .ok (.isub, 1) := by decide +kernel
theorem dX10_bound_69 : decode cX10_bound 69 = .ok (.ireturn, 1) := by decide +kernel
theorem dX10_excessOf_0 : decode cX10_excessOf 0 = .ok (.iconst 0, 1) := by decide +kernel
theorem dX10_excessOf_1 : decode cX10_excessOf 1 = .ok (.aload_n 0, 1) := by decide +kernel
theorem dX10_excessOf_2 : decode cX10_excessOf 2 = .ok (.iload_n 1, 1) := by decide +kernel
theorem dX10_excessOf_3 : decode cX10_excessOf 3 = .ok (.iload_n 2, 1) := by decide +kernel
theorem dX10_excessOf_4 : decode cX10_excessOf 4 = .ok (.iconst 0, 1) := by decide +kernel
theorem dX10_excessOf_5 : decode cX10_excessOf 5 = .ok (.invokevirtual 213, 3) := by decide +kernel
theorem dX10_excessOf_8 : decode cX10_excessOf 8 = .ok (.iload_n 3, 1) := by decide +kernel
theorem dX10_excessOf_9 : decode cX10_excessOf 9 = .ok (.isub, 1) := by decide +kernel
theorem dX10_excessOf_10 : decode cX10_excessOf 10 = .ok (.iload_n 3, 1) := by decide +kernel
theorem dX10_excessOf_11 : decode cX10_excessOf 11 = .ok (.aload_n 0, 1) := by decide +kernel
theorem dX10_excessOf_12 : decode cX10_excessOf 12 = .ok (.iload_n 1, 1) := by decide +kernel
theorem dX10_excessOf_13 : decode cX10_excessOf 13 = .ok (.iload_n 2, 1) := by decide +kernel
theorem dX10_excessOf_14 : decode cX10_excessOf 14 = .ok (.iconst 1, 1) := by decide +kernel
theorem dX10_excessOf_15 : decode cX10_excessOf 15 = .ok (.invokevirtual 213, 3) := by decide +kernel
theorem dX10_excessOf_18 : decode cX10_excessOf 18 = .ok (.isub, 1) := by decide +kernel
theorem dX10_excessOf_19 : decode cX10_excessOf 19 = .ok (.invokestatic 217, 3) := by decide +kernel
theorem dX10_excessOf_22 : decode cX10_excessOf 22 = .ok (.invokestatic 217, 3) := by decide +kernel
theorem dX10_excessOf_25 : decode cX10_excessOf 25 = .ok (.ireturn, 1) := by decide +kernel
theorem dX10_penaltyOf_0 : decode cX10_penaltyOf 0 = .ok (.iload_n 2, 1) := by decide +kernel
theorem dX10_penaltyOf_1 : decode cX10_penaltyOf 1 = .ok (.ifCond .ne 10, 3) := by decide +kernel
theorem dX10_penaltyOf_4 : decode cX10_penaltyOf 4 = .ok (.iload_n 1, 1) := by decide +kernel
theorem dX10_penaltyOf_5 : decode cX10_penaltyOf 5 = .ok (.bipush 100, 2) := by decide +kernel
theorem dX10_penaltyOf_7 : decode cX10_penaltyOf 7 = .ok (.imul, 1) := by decide +kernel
theorem dX10_penaltyOf_8 : decode cX10_penaltyOf 8 = .ok (.goto 9, 3) := by decide +kernel
theorem dX10_penaltyOf_11 : decode cX10_penaltyOf 11 = .ok (.iload_n 1, 1) := by decide +kernel
theorem dX10_penaltyOf_12 : decode cX10_penaltyOf 12 = .ok (.bipush 100, 2) := by decide +kernel
theorem dX10_penaltyOf_14 : decode cX10_penaltyOf 14 = .ok (.imul, 1) := by decide +kernel
theorem dX10_penaltyOf_15 : decode cX10_penaltyOf 15 = .ok (.iload_n 2, 1) := by decide +kernel
theorem dX10_penaltyOf_16 : decode cX10_penaltyOf 16 = .ok (.idiv, 1) := by decide +kernel
theorem dX10_penaltyOf_17 : decode cX10_penaltyOf 17 = .ok (.istore_n 3, 1) := by decide +kernel
theorem dX10_penaltyOf_18 : decode cX10_penaltyOf 18 = .ok (.iconst 0, 1) := by decide +kernel
theorem dX10_penaltyOf_19 : decode cX10_penaltyOf 19 = .ok (.istore 4, 2) := by decide +kernel
theorem dX10_penaltyOf_21 : decode cX10_penaltyOf 21 = .ok (.iconst 0, 1) := by decide +kernel
theorem dX10_penaltyOf_22 : decode cX10_penaltyOf 22 = .ok (.istore 5, 2) := by decide +kernel
theorem dX10_penaltyOf_24 : decode cX10_penaltyOf 24 = .ok (.iload 5, 2) := by decide +kernel
theorem dX10_penaltyOf_26 : decode cX10_penaltyOf 26 = .ok (.aload_n 0, 1) := by decide +kernel
theorem dX10_penaltyOf_27 : decode cX10_penaltyOf 27 = .ok (.getfield 17, 3) := by decide +kernel
theorem dX10_penaltyOf_30 : decode cX10_penaltyOf 30 = .ok (.bipush 11, 2) := by decide +kernel
theorem dX10_penaltyOf_32 : decode cX10_penaltyOf 32 = .ok (.iaload, 1) := by decide +kernel
theorem dX10_penaltyOf_33 : decode cX10_penaltyOf 33 = .ok (.if_icmp .ge 48, 3) := by decide +kernel
theorem dX10_penaltyOf_36 : decode cX10_penaltyOf 36 = .ok (.aload_n 0, 1) := by decide +kernel
theorem dX10_penaltyOf_37 : decode cX10_penaltyOf 37 = .ok (.getfield 17, 3) := by decide +kernel
theorem dX10_penaltyOf_40 : decode cX10_penaltyOf 40 = .ok (.sipush 136, 3) := by decide +kernel
theorem dX10_penaltyOf_43 : decode cX10_penaltyOf 43 = .ok (.iconst 2, 1) := by decide +kernel
theorem dX10_penaltyOf_44 : decode cX10_penaltyOf 44 = .ok (.iload 5, 2) := by decide +kernel
theorem dX10_penaltyOf_46 : decode cX10_penaltyOf 46 = .ok (.imul, 1) := by decide +kernel
theorem dX10_penaltyOf_47 : decode cX10_penaltyOf 47 = .ok (.iadd, 1) := by decide +kernel
theorem dX10_penaltyOf_48 : decode cX10_penaltyOf 48 = .ok (.iaload, 1) := by decide +kernel
theorem dX10_penaltyOf_49 : decode cX10_penaltyOf 49 = .ok (.iload_n 3, 1) := by decide +kernel
theorem dX10_penaltyOf_50 : decode cX10_penaltyOf 50 = .ok (.if_icmp .gt 21, 3) := by decide +kernel
theorem dX10_penaltyOf_53 : decode cX10_penaltyOf 53 = .ok (.aload_n 0, 1) := by decide +kernel
theorem dX10_penaltyOf_54 : decode cX10_penaltyOf 54 = .ok (.getfield 17, 3) := by decide +kernel
theorem dX10_penaltyOf_57 : decode cX10_penaltyOf 57 = .ok (.sipush 136, 3) := by decide +kernel
theorem dX10_penaltyOf_60 : decode cX10_penaltyOf 60 = .ok (.iconst 2, 1) := by decide +kernel
theorem dX10_penaltyOf_61 : decode cX10_penaltyOf 61 = .ok (.iload 5, 2) := by decide +kernel
theorem dX10_penaltyOf_63 : decode cX10_penaltyOf 63 = .ok (.imul, 1) := by decide +kernel
theorem dX10_penaltyOf_64 : decode cX10_penaltyOf 64 = .ok (.iadd, 1) := by decide +kernel
theorem dX10_penaltyOf_65 : decode cX10_penaltyOf 65 = .ok (.iconst 1, 1) := by decide +kernel
theorem dX10_penaltyOf_66 : decode cX10_penaltyOf 66 = .ok (.iadd, 1) := by decide +kernel
theorem dX10_penaltyOf_67 : decode cX10_penaltyOf 67 = .ok (.iaload, 1) := by decide +kernel
theorem dX10_penaltyOf_68 : decode cX10_penaltyOf 68 = .ok (.goto 5, 3) := by decide +kernel
theorem dX10_penaltyOf_71 : decode cX10_penaltyOf 71 = .ok (.iload 4, 2) := by decide +kernel
theorem dX10_penaltyOf_73 : decode cX10_penaltyOf 73 = .ok (.istore 4, 2) := by decide +kernel
theorem dX10_penaltyOf_75 : decode cX10_penaltyOf 75 = .ok (.iinc 5 1, 3) := by decide +kernel
theorem dX10_penaltyOf_78 : decode cX10_penaltyOf 78 = .ok (.goto (-54), 3) := by decide +kernel
theorem dX10_penaltyOf_81 : decode cX10_penaltyOf 81 = .ok (.iload_n 1, 1) := by decide +kernel
theorem dX10_penaltyOf_82 : decode cX10_penaltyOf 82 = .ok (.iload 4, 2) := by decide +kernel
theorem dX10_penaltyOf_84 : decode cX10_penaltyOf 84 = .ok (.imul, 1) := by decide +kernel
theorem dX10_penaltyOf_85 : decode cX10_penaltyOf 85 = .ok (.ireturn, 1) := by decide +kernel
theorem dX10_note_0 : decode cX10_note 0 = .ok (.iload_n 3, 1) := by decide +kernel
theorem dX10_note_1 : decode cX10_note 1 = .ok (.ifCond .ne 5, 3) := by decide +kernel
theorem dX10_note_4 : decode cX10_note 4 = .ok (.iconst 0, 1) := by decide +kernel
theorem dX10_note_5 : decode cX10_note 5 = .ok (.ireturn, 1) := by decide +kernel
theorem dX10_note_6 : decode cX10_note 6 = .ok (.aload_n 0, 1) := by decide +kernel
theorem dX10_note_7 : decode cX10_note 7 = .ok (.getfield 17, 3) := by decide +kernel
theorem dX10_note_10 : decode cX10_note 10 = .ok (.bipush 13, 2) := by decide +kernel
theorem dX10_note_12 : decode cX10_note 12 = .ok (.dup2, 1) := by decide +kernel
theorem dX10_note_13 : decode cX10_note 13 = .ok (.iaload, 1) := by decide +kernel
theorem dX10_note_14 : decode cX10_note 14 = .ok (.iconst 1, 1) := by decide +kernel
theorem dX10_note_15 : decode cX10_note 15 = .ok (.iadd, 1) := by decide +kernel
theorem dX10_note_16 : decode cX10_note 16 = .ok (.iastore, 1) := by decide +kernel
theorem dX10_note_17 : decode cX10_note 17 = .ok (.aload_n 0, 1) := by decide +kernel
theorem dX10_note_18 : decode cX10_note 18 = .ok (.getfield 17, 3) := by decide +kernel
theorem dX10_note_21 : decode cX10_note 21 = .ok (.bipush 12, 2) := by decide +kernel
theorem dX10_note_23 : decode cX10_note 23 = .ok (.iaload, 1) := by decide +kernel
theorem dX10_note_24 : decode cX10_note 24 = .ok (.bipush 20, 2) := by decide +kernel
theorem dX10_note_26 : decode cX10_note 26 = .ok (.if_icmp .ne 5, 3) := by decide +kernel
theorem dX10_note_29 : decode cX10_note 29 = .ok (.iconst 0, 1) := by decide +kernel
theorem dX10_note_30 : decode cX10_note 30 = .ok (.ireturn, 1) := by decide +kernel
theorem dX10_note_31 : decode cX10_note 31 = .ok (.aload_n 0, 1) := by decide +kernel
theorem dX10_note_32 : decode cX10_note 32 = .ok (.getfield 17, 3) := by decide +kernel
theorem dX10_note_35 : decode cX10_note 35 = .ok (.bipush 12, 2) := by decide +kernel
theorem dX10_note_37 : decode cX10_note 37 = .ok (.iaload, 1) := by decide +kernel
theorem dX10_note_38 : decode cX10_note 38 = .ok (.invokestatic 220, 3) := by decide +kernel
theorem dX10_note_41 : decode cX10_note 41 = .ok (.istore 5, 2) := by decide +kernel
theorem dX10_note_43 : decode cX10_note 43 = .ok (.aload_n 0, 1) := by decide +kernel
theorem dX10_note_44 : decode cX10_note 44 = .ok (.getfield 17, 3) := by decide +kernel
theorem dX10_note_47 : decode cX10_note 47 = .ok (.bipush 12, 2) := by decide +kernel
theorem dX10_note_49 : decode cX10_note 49 = .ok (.dup2, 1) := by decide +kernel
theorem dX10_note_50 : decode cX10_note 50 = .ok (.iaload, 1) := by decide +kernel
theorem dX10_note_51 : decode cX10_note 51 = .ok (.iconst 1, 1) := by decide +kernel
theorem dX10_note_52 : decode cX10_note 52 = .ok (.iadd, 1) := by decide +kernel
theorem dX10_note_53 : decode cX10_note 53 = .ok (.iastore, 1) := by decide +kernel
theorem dX10_note_54 : decode cX10_note 54 = .ok (.aload_n 0, 1) := by decide +kernel
theorem dX10_note_55 : decode cX10_note 55 = .ok (.getfield 17, 3) := by decide +kernel
theorem dX10_note_58 : decode cX10_note 58 = .ok (.iload 5, 2) := by decide +kernel
theorem dX10_note_60 : decode cX10_note 60 = .ok (.iload_n 1, 1) := by decide +kernel
theorem dX10_note_61 : decode cX10_note 61 = .ok (.iastore, 1) := by decide +kernel
theorem dX10_note_62 : decode cX10_note 62 = .ok (.aload_n 0, 1) := by decide +kernel
theorem dX10_note_63 : decode cX10_note 63 = .ok (.getfield 17, 3) := by decide +kernel
theorem dX10_note_66 : decode cX10_note 66 = .ok (.iload 5, 2) := by decide +kernel
theorem dX10_note_68 : decode cX10_note 68 = .ok (.iconst 1, 1) := by decide +kernel
theorem dX10_note_69 : decode cX10_note 69 = .ok (.iadd, 1) := by decide +kernel
theorem dX10_note_70 : decode cX10_note 70 = .ok (.iload_n 2, 1) := by decide +kernel
theorem dX10_note_71 : decode cX10_note 71 = .ok (.iastore, 1) := by decide +kernel
theorem dX10_note_72 : decode cX10_note 72 = .ok (.aload_n 0, 1) := by decide +kernel
theorem dX10_note_73 : decode cX10_note 73 = .ok (.getfield 17, 3) := by decide +kernel
theorem dX10_note_76 : decode cX10_note 76 = .ok (.iload 5, 2) := by decide +kernel
theorem dX10_note_78 : decode cX10_note 78 = .ok (.iconst 2, 1) := by decide +kernel
theorem dX10_note_79 : decode cX10_note 79 = .ok (.iadd, 1) := by decide +kernel
theorem dX10_note_80 : decode cX10_note 80 = .ok (.aload_n 0, 1) := by decide +kernel
theorem dX10_note_81 : decode cX10_note 81 = .ok (.iload_n 3, 1) := by decide +kernel
theorem dX10_note_82 : decode cX10_note 82 = .ok (.iload 4, 2) := by decide +kernel
theorem dX10_note_84 : decode cX10_note 84 = .ok (.invokevirtual 223, 3) := by decide +kernel
theorem dX10_note_87 : decode cX10_note 87 = .ok (.iastore, 1) := by decide +kernel
theorem dX10_note_88 : decode cX10_note 88 = .ok (.aload_n 0, 1) := by decide +kernel
theorem dX10_note_89 : decode cX10_note 89 = .ok (.getfield 17, 3) := by decide +kernel
theorem dX10_note_92 : decode cX10_note 92 = .ok (.iload 5, 2) := by decide +kernel
theorem dX10_note_94 : decode cX10_note 94 = .ok (.iconst 3, 1) := by decide +kernel
theorem dX10_note_95 : decode cX10_note 95 = .ok (.iadd, 1) := by decide +kernel
theorem dX10_note_96 : decode cX10_note 96 = .ok (.iconst 0, 1) := by decide +kernel
theorem dX10_note_97 : decode cX10_note 97 = .ok (.iastore, 1) := by decide +kernel
theorem dX10_note_98 : decode cX10_note 98 = .ok (.aload_n 0, 1) := by decide +kernel
theorem dX10_note_99 : decode cX10_note 99 = .ok (.getfield 17, 3) := by decide +kernel
theorem dX10_note_102 : decode cX10_note 102 = .ok (.iload 5, 2) := by decide +kernel
theorem dX10_note_104 : decode cX10_note 104 = .ok (.iconst 2, 1) := by decide +kernel
theorem dX10_note_105 : decode cX10_note 105 = .ok (.iadd, 1) := by decide +kernel
theorem dX10_note_106 : decode cX10_note 106 = .ok (.iaload, 1) := by decide +kernel
theorem dX10_note_107 : decode cX10_note 107 = .ok (.ireturn, 1) := by decide +kernel
theorem dX10_deliver_0 : decode cX10_deliver 0 = .ok (.aload_n 0, 1) := by decide +kernel
theorem dX10_deliver_1 : decode cX10_deliver 1 = .ok (.iload_n 1, 1) := by decide +kernel
theorem dX10_deliver_2 : decode cX10_deliver 2 = .ok (.invokestatic 148, 3) := by decide +kernel
theorem dX10_deliver_5 : decode cX10_deliver 5 = .ok (.iconst 3, 1) := by decide +kernel
theorem dX10_deliver_6 : decode cX10_deliver 6 = .ok (.iadd, 1) := by decide +kernel
theorem dX10_deliver_7 : decode cX10_deliver 7 = .ok (.iaload, 1) := by decide +kernel
theorem dX10_deliver_8 : decode cX10_deliver 8 = .ok (.iload_n 2, 1) := by decide +kernel
theorem dX10_deliver_9 : decode cX10_deliver 9 = .ok (.invokestatic 107, 3) := by decide +kernel
theorem dX10_deliver_12 : decode cX10_deliver 12 = .ok (.istore_n 3, 1) := by decide +kernel
theorem dX10_deliver_13 : decode cX10_deliver 13 = .ok (.aload_n 0, 1) := by decide +kernel
theorem dX10_deliver_14 : decode cX10_deliver 14 = .ok (.iload_n 1, 1) := by decide +kernel
theorem dX10_deliver_15 : decode cX10_deliver 15 = .ok (.invokestatic 148, 3) := by decide +kernel
theorem dX10_deliver_18 : decode cX10_deliver 18 = .ok (.iconst 3, 1) := by decide +kernel
theorem dX10_deliver_19 : decode cX10_deliver 19 = .ok (.iadd, 1) := by decide +kernel
theorem dX10_deliver_20 : decode cX10_deliver 20 = .ok (.dup2, 1) := by decide +kernel
theorem dX10_deliver_21 : decode cX10_deliver 21 = .ok (.iaload, 1) := by decide +kernel
theorem dX10_deliver_22 : decode cX10_deliver 22 = .ok (.iload_n 3, 1) := by decide +kernel
theorem dX10_deliver_23 : decode cX10_deliver 23 = .ok (.isub, 1) := by decide +kernel
theorem dX10_deliver_24 : decode cX10_deliver 24 = .ok (.iastore, 1) := by decide +kernel
theorem dX10_deliver_25 : decode cX10_deliver 25 = .ok (.iload_n 3, 1) := by decide +kernel
theorem dX10_deliver_26 : decode cX10_deliver 26 = .ok (.ireturn, 1) := by decide +kernel
theorem dX10_miss_0 : decode cX10_miss 0 = .ok (.aload_n 0, 1) := by decide +kernel
theorem dX10_miss_1 : decode cX10_miss 1 = .ok (.iload_n 1, 1) := by decide +kernel
theorem dX10_miss_2 : decode cX10_miss 2 = .ok (.invokestatic 148, 3) := by decide +kernel
theorem dX10_miss_5 : decode cX10_miss 5 = .ok (.iconst 3, 1) := by decide +kernel
theorem dX10_miss_6 : decode cX10_miss 6 = .ok (.iadd, 1) := by decide +kernel
theorem dX10_miss_7 : decode cX10_miss 7 = .ok (.iaload, 1) := by decide +kernel
theorem dX10_miss_8 : decode cX10_miss 8 = .ok (.istore_n 2, 1) := by decide +kernel
theorem dX10_miss_9 : decode cX10_miss 9 = .ok (.aload_n 0, 1) := by decide +kernel
theorem dX10_miss_10 : decode cX10_miss 10 = .ok (.iload_n 1, 1) := by decide +kernel
theorem dX10_miss_11 : decode cX10_miss 11 = .ok (.invokestatic 148, 3) := by decide +kernel
theorem dX10_miss_14 : decode cX10_miss 14 = .ok (.iconst 4, 1) := by decide +kernel
theorem dX10_miss_15 : decode cX10_miss 15 = .ok (.iadd, 1) := by decide +kernel
theorem dX10_miss_16 : decode cX10_miss 16 = .ok (.dup2, 1) := by decide +kernel
theorem dX10_miss_17 : decode cX10_miss 17 = .ok (.iaload, 1) := by decide +kernel
theorem dX10_miss_18 : decode cX10_miss 18 = .ok (.iload_n 2, 1) := by decide +kernel
theorem dX10_miss_19 : decode cX10_miss 19 = .ok (.iadd, 1) := by decide +kernel
theorem dX10_miss_20 : decode cX10_miss 20 = .ok (.iastore, 1) := by decide +kernel
theorem dX10_miss_21 : decode cX10_miss 21 = .ok (.aload_n 0, 1) := by decide +kernel
theorem dX10_miss_22 : decode cX10_miss 22 = .ok (.iload_n 1, 1) := by decide +kernel
theorem dX10_miss_23 : decode cX10_miss 23 = .ok (.invokestatic 148, 3) := by decide +kernel
theorem dX10_miss_26 : decode cX10_miss 26 = .ok (.iconst 3, 1) := by decide +kernel
theorem dX10_miss_27 : decode cX10_miss 27 = .ok (.iadd, 1) := by decide +kernel
theorem dX10_miss_28 : decode cX10_miss 28 = .ok (.iconst 0, 1) := by decide +kernel
theorem dX10_miss_29 : decode cX10_miss 29 = .ok (.iastore, 1) := by decide +kernel
theorem dX10_miss_30 : decode cX10_miss 30 = .ok (.iload_n 2, 1) := by decide +kernel
theorem dX10_miss_31 : decode cX10_miss 31 = .ok (.ireturn, 1) := by decide +kernel
theorem dX10_place_0 : decode cX10_place 0 = .ok (.aload_n 0, 1) := by decide +kernel
theorem dX10_place_1 : decode cX10_place 1 = .ok (.iload_n 1, 1) := by decide +kernel
theorem dX10_place_2 : decode cX10_place 2 = .ok (.invokestatic 148, 3) := by decide +kernel
theorem dX10_place_5 : decode cX10_place 5 = .ok (.iconst 2, 1) := by decide +kernel
theorem dX10_place_6 : decode cX10_place 6 = .ok (.iadd, 1) := by decide +kernel
theorem dX10_place_7 : decode cX10_place 7 = .ok (.iload_n 2, 1) := by decide +kernel
theorem dX10_place_8 : decode cX10_place 8 = .ok (.iastore, 1) := by decide +kernel
theorem dX10_place_9 : decode cX10_place 9 = .ok (.aload_n 0, 1) := by decide +kernel
theorem dX10_place_10 : decode cX10_place 10 = .ok (.iload_n 1, 1) := by decide +kernel
theorem dX10_place_11 : decode cX10_place 11 = .ok (.invokestatic 148, 3) := by decide +kernel
theorem dX10_place_14 : decode cX10_place 14 = .ok (.iconst 3, 1) := by decide +kernel
theorem dX10_place_15 : decode cX10_place 15 = .ok (.iadd, 1) := by decide +kernel
theorem dX10_place_16 : decode cX10_place 16 = .ok (.iload_n 2, 1) := by decide +kernel
theorem dX10_place_17 : decode cX10_place 17 = .ok (.iastore, 1) := by decide +kernel
theorem dX10_place_18 : decode cX10_place 18 = .ok (.return_, 1) := by decide +kernel
theorem dX10_closeOne_0 : decode cX10_closeOne 0 = .ok (.aload_n 0, 1) := by decide +kernel
theorem dX10_closeOne_1 : decode cX10_closeOne 1 = .ok (.iconst 1, 1) := by decide +kernel
theorem dX10_closeOne_2 : decode cX10_closeOne 2 = .ok (.iaload, 1) := by decide +kernel
theorem dX10_closeOne_3 : decode cX10_closeOne 3 = .ok (.istore_n 2, 1) := by decide +kernel
theorem dX10_closeOne_4 : decode cX10_closeOne 4 = .ok (.iload_n 2, 1) := by decide +kernel
theorem dX10_closeOne_5 : decode cX10_closeOne 5 = .ok (.invokestatic 148, 3) := by decide +kernel
theorem dX10_closeOne_8 : decode cX10_closeOne 8 = .ok (.istore_n 3, 1) := by decide +kernel
theorem dX10_closeOne_9 : decode cX10_closeOne 9 = .ok (.aload_n 0, 1) := by decide +kernel
theorem dX10_closeOne_10 : decode cX10_closeOne 10 = .ok (.iload_n 3, 1) := by decide +kernel
theorem dX10_closeOne_11 : decode cX10_closeOne 11 = .ok (.iaload, 1) := by decide +kernel
theorem dX10_closeOne_12 : decode cX10_closeOne 12 = .ok (.istore 4, 2) := by decide +kernel
theorem dX10_closeOne_14 : decode cX10_closeOne 14 = .ok (.iconst 0, 1) := by decide +kernel
theorem dX10_closeOne_15 : decode cX10_closeOne 15 = .ok (.istore 5, 2) := by decide +kernel
theorem dX10_closeOne_17 : decode cX10_closeOne 17 = .ok (.iconst 0, 1) := by decide +kernel
theorem dX10_closeOne_18 : decode cX10_closeOne 18 = .ok (.istore 6, 2) := by decide +kernel
theorem dX10_closeOne_20 : decode cX10_closeOne 20 = .ok (.iconst 0, 1) := by decide +kernel
theorem dX10_closeOne_21 : decode cX10_closeOne 21 = .ok (.istore 7, 2) := by decide +kernel
theorem dX10_closeOne_23 : decode cX10_closeOne 23 = .ok (.iload_n 2, 1) := by decide +kernel
theorem dX10_closeOne_24 : decode cX10_closeOne 24 = .ok (.aload_n 0, 1) := by decide +kernel
theorem dX10_closeOne_25 : decode cX10_closeOne 25 = .ok (.bipush 6, 2) := by decide +kernel
theorem dX10_closeOne_27 : decode cX10_closeOne 27 = .ok (.iaload, 1) := by decide +kernel
theorem dX10_closeOne_28 : decode cX10_closeOne 28 = .ok (.isub, 1) := by decide +kernel
theorem dX10_closeOne_29 : decode cX10_closeOne 29 = .ok (.istore 8, 2) := by decide +kernel
theorem dX10_closeOne_31 : decode cX10_closeOne 31 = .ok (.aload_n 0, 1) := by decide +kernel
theorem dX10_closeOne_32 : decode cX10_closeOne 32 = .ok (.iload_n 3, 1) := by decide +kernel
theorem dX10_closeOne_33 : decode cX10_closeOne 33 = .ok (.iconst 2, 1) := by decide +kernel
theorem dX10_closeOne_34 : decode cX10_closeOne 34 = .ok (.iadd, 1) := by decide +kernel
theorem dX10_closeOne_35 : decode cX10_closeOne 35 = .ok (.iaload, 1) := by decide +kernel
theorem dX10_closeOne_36 : decode cX10_closeOne 36 = .ok (.ifCond .ge 13, 3) := by decide +kernel
theorem dX10_closeOne_39 : decode cX10_closeOne 39 = .ok (.aload_n 0, 1) := by decide +kernel
theorem dX10_closeOne_40 : decode cX10_closeOne 40 = .ok (.iload_n 2, 1) := by decide +kernel
theorem dX10_closeOne_41 : decode cX10_closeOne 41 = .ok (.aload_n 0, 1) := by decide +kernel
theorem dX10_closeOne_42 : decode cX10_closeOne 42 = .ok (.iload_n 3, 1) := by decide +kernel
theorem dX10_closeOne_43 : decode cX10_closeOne 43 = .ok (.iconst 1, 1) := by decide +kernel
theorem dX10_closeOne_44 : decode cX10_closeOne 44 = .ok (.iadd, 1) := by decide +kernel
theorem dX10_closeOne_45 : decode cX10_closeOne 45 = .ok (.iaload, 1) := by decide +kernel
theorem dX10_closeOne_46 : decode cX10_closeOne 46 = .ok (.invokestatic 226, 3) := by decide +kernel
theorem dX10_closeOne_49 : decode cX10_closeOne 49 = .ok (.iconst 0, 1) := by decide +kernel
theorem dX10_closeOne_50 : decode cX10_closeOne 50 = .ok (.iload 8, 2) := by decide +kernel
theorem dX10_closeOne_52 : decode cX10_closeOne 52 = .ok (.invokestatic 217, 3) := by decide +kernel
theorem dX10_closeOne_55 : decode cX10_closeOne 55 = .ok (.istore 9, 2) := by decide +kernel
theorem dX10_closeOne_57 : decode cX10_closeOne 57 = .ok (.iload 9, 2) := by decide +kernel
theorem dX10_closeOne_59 : decode cX10_closeOne 59 = .ok (.iload_n 2, 1) := by decide +kernel
theorem dX10_closeOne_60 : decode cX10_closeOne 60 = .ok (.if_icmp .gt 25, 3) := by decide +kernel
theorem dX10_closeOne_63 : decode cX10_closeOne 63 = .ok (.iload 5, 2) := by decide +kernel
theorem dX10_closeOne_65 : decode cX10_closeOne 65 = .ok (.aload_n 0, 1) := by decide +kernel
theorem dX10_closeOne_66 : decode cX10_closeOne 66 = .ok (.iload 9, 2) := by decide +kernel
theorem dX10_closeOne_68 : decode cX10_closeOne 68 = .ok (.iload 4, 2) := by decide +kernel
theorem dX10_closeOne_70 : decode cX10_closeOne 70 = .ok (.iload 5, 2) := by decide +kernel
theorem dX10_closeOne_72 : decode cX10_closeOne 72 = .ok (.isub, 1) := by decide +kernel
theorem dX10_closeOne_73 : decode cX10_closeOne 73 = .ok (.invokestatic 230, 3) := by decide +kernel
theorem dX10_closeOne_76 : decode cX10_closeOne 76 = .ok (.iadd, 1) := by decide +kernel
theorem dX10_closeOne_77 : decode cX10_closeOne 77 = .ok (.istore 5, 2) := by decide +kernel
theorem dX10_closeOne_79 : decode cX10_closeOne 79 = .ok (.iinc 9 1, 3) := by decide +kernel
theorem dX10_closeOne_82 : decode cX10_closeOne 82 = .ok (.goto (-25), 3) := by decide +kernel
theorem dX10_closeOne_85 : decode cX10_closeOne 85 = .ok (.iload 8, 2) := by decide +kernel
theorem dX10_closeOne_87 : decode cX10_closeOne 87 = .ok (.ifCond .lt 22, 3) := by decide +kernel
theorem dX10_closeOne_90 : decode cX10_closeOne 90 = .ok (.aload_n 0, 1) := by decide +kernel
theorem dX10_closeOne_91 : decode cX10_closeOne 91 = .ok (.iload 8, 2) := by decide +kernel
theorem dX10_closeOne_93 : decode cX10_closeOne 93 = .ok (.aload_n 0, 1) := by decide +kernel
theorem dX10_closeOne_94 : decode cX10_closeOne 94 = .ok (.iconst 4, 1) := by decide +kernel
theorem dX10_closeOne_95 : decode cX10_closeOne 95 = .ok (.iaload, 1) := by decide +kernel
theorem dX10_closeOne_96 : decode cX10_closeOne 96 = .ok (.invokestatic 230, 3) := by decide +kernel
theorem dX10_closeOne_99 : decode cX10_closeOne 99 = .ok (.istore 6, 2) := by decide +kernel
theorem dX10_closeOne_101 : decode cX10_closeOne 101 = .ok (.aload_n 0, 1) := by decide +kernel
theorem dX10_closeOne_102 : decode cX10_closeOne 102 = .ok (.iload 8, 2) := by decide +kernel
theorem dX10_closeOne_104 : decode cX10_closeOne 104 = .ok (.invokestatic 234, 3) := by decide +kernel
theorem dX10_closeOne_107 : decode cX10_closeOne 107 = .ok (.istore 7, 2) := by decide +kernel
theorem dX10_closeOne_109 : decode cX10_closeOne 109 = .ok (.iconst 0, 1) := by decide +kernel
theorem dX10_closeOne_110 : decode cX10_closeOne 110 = .ok (.iload 4, 2) := by decide +kernel
theorem dX10_closeOne_112 : decode cX10_closeOne 112 = .ok (.aload_n 0, 1) := by decide +kernel
theorem dX10_closeOne_113 : decode cX10_closeOne 113 = .ok (.bipush 7, 2) := by decide +kernel
theorem dX10_closeOne_115 : decode cX10_closeOne 115 = .ok (.iaload, 1) := by decide +kernel
theorem dX10_closeOne_116 : decode cX10_closeOne 116 = .ok (.imul, 1) := by decide +kernel
theorem dX10_closeOne_117 : decode cX10_closeOne 117 = .ok (.bipush 100, 2) := by decide +kernel
theorem dX10_closeOne_119 : decode cX10_closeOne 119 = .ok (.idiv, 1) := by decide +kernel
theorem dX10_closeOne_120 : decode cX10_closeOne 120 = .ok (.aload_n 0, 1) := by decide +kernel
theorem dX10_closeOne_121 : decode cX10_closeOne 121 = .ok (.iload_n 3, 1) := by decide +kernel
theorem dX10_closeOne_122 : decode cX10_closeOne 122 = .ok (.iconst 2, 1) := by decide +kernel
theorem dX10_closeOne_123 : decode cX10_closeOne 123 = .ok (.iadd, 1) := by decide +kernel
theorem dX10_closeOne_124 : decode cX10_closeOne 124 = .ok (.iaload, 1) := by decide +kernel
theorem dX10_closeOne_125 : decode cX10_closeOne 125 = .ok (.isub, 1) := by decide +kernel
theorem dX10_closeOne_126 : decode cX10_closeOne 126 = .ok (.invokestatic 217, 3) := by decide +kernel
theorem dX10_closeOne_129 : decode cX10_closeOne 129 = .ok (.istore 9, 2) := by decide +kernel
theorem dX10_closeOne_131 : decode cX10_closeOne 131 = .ok (.aload_n 0, 1) := by decide +kernel
theorem dX10_closeOne_132 : decode cX10_closeOne 132 = .ok (.iconst 1, 1) := by decide +kernel
theorem dX10_closeOne_133 : decode cX10_closeOne 133 = .ok (.dup2, 1) := by decide +kernel
theorem dX10_closeOne_134 : decode cX10_closeOne 134 = .ok (.iaload, 1) := by decide +kernel
theorem dX10_closeOne_135 : decode cX10_closeOne 135 = .ok (.iconst 1, 1) := by decide +kernel
theorem dX10_closeOne_136 : decode cX10_closeOne 136 = .ok (.iadd, 1) := by decide +kernel
theorem dX10_closeOne_137 : decode cX10_closeOne 137 = .ok (.iastore, 1) := by decide +kernel
theorem dX10_closeOne_138 : decode cX10_closeOne 138 = .ok (.aload_n 0, 1) := by decide +kernel
theorem dX10_closeOne_139 : decode cX10_closeOne 139 = .ok (.iconst 1, 1) := by decide +kernel
theorem dX10_closeOne_140 : decode cX10_closeOne 140 = .ok (.iaload, 1) := by decide +kernel
theorem dX10_closeOne_141 : decode cX10_closeOne 141 = .ok (.aload_n 0, 1) := by decide +kernel
theorem dX10_closeOne_142 : decode cX10_closeOne 142 = .ok (.iconst 0, 1) := by decide +kernel
theorem dX10_closeOne_143 : decode cX10_closeOne 143 = .ok (.iaload, 1) := by decide +kernel
theorem dX10_closeOne_144 : decode cX10_closeOne 144 = .ok (.if_icmp .ne 31, 3) := by decide +kernel
theorem dX10_closeOne_147 : decode cX10_closeOne 147 = .ok (.iconst 0, 1) := by decide +kernel
theorem dX10_closeOne_148 : decode cX10_closeOne 148 = .ok (.istore 10, 2) := by decide +kernel
theorem dX10_closeOne_150 : decode cX10_closeOne 150 = .ok (.iload 10, 2) := by decide +kernel
theorem dX10_closeOne_152 : decode cX10_closeOne 152 = .ok (.aload_n 0, 1) := by decide +kernel
theorem dX10_closeOne_153 : decode cX10_closeOne 153 = .ok (.iconst 0, 1) := by decide +kernel
theorem dX10_closeOne_154 : decode cX10_closeOne 154 = .ok (.iaload, 1) := by decide +kernel
theorem dX10_closeOne_155 : decode cX10_closeOne 155 = .ok (.if_icmp .ge 20, 3) := by decide +kernel
theorem dX10_closeOne_158 : decode cX10_closeOne 158 = .ok (.iload 7, 2) := by decide +kernel
theorem dX10_closeOne_160 : decode cX10_closeOne 160 = .ok (.aload_n 0, 1) := by decide +kernel
theorem dX10_closeOne_161 : decode cX10_closeOne 161 = .ok (.iload 10, 2) := by decide +kernel
theorem dX10_closeOne_163 : decode cX10_closeOne 163 = .ok (.invokestatic 234, 3) := by decide +kernel
theorem dX10_closeOne_166 : decode cX10_closeOne 166 = .ok (.iadd, 1) := by decide +kernel
theorem dX10_closeOne_167 : decode cX10_closeOne 167 = .ok (.istore 7, 2) := by decide +kernel
theorem dX10_closeOne_169 : decode cX10_closeOne 169 = .ok (.iinc 10 1, 3) := by decide +kernel
theorem dX10_closeOne_172 : decode cX10_closeOne 172 = .ok (.goto (-22), 3) := by decide +kernel
theorem dX10_closeOne_175 : decode cX10_closeOne 175 = .ok (.aload_n 1, 1) := by decide +kernel
theorem dX10_closeOne_176 : decode cX10_closeOne 176 = .ok (.iload_n 2, 1) := by decide +kernel
theorem dX10_closeOne_177 : decode cX10_closeOne 177 = .ok (.aload_n 0, 1) := by decide +kernel
theorem dX10_closeOne_178 : decode cX10_closeOne 178 = .ok (.iconst 3, 1) := by decide +kernel
theorem dX10_closeOne_179 : decode cX10_closeOne 179 = .ok (.iaload, 1) := by decide +kernel
theorem dX10_closeOne_180 : decode cX10_closeOne 180 = .ok (.i2l, 1) := by decide +kernel
theorem dX10_closeOne_181 : decode cX10_closeOne 181 = .ok (.iload 4, 2) := by decide +kernel
theorem dX10_closeOne_183 : decode cX10_closeOne 183 = .ok (.i2l, 1) := by decide +kernel
theorem dX10_closeOne_184 : decode cX10_closeOne 184 = .ok (.lmul, 1) := by decide +kernel
theorem dX10_closeOne_185 : decode cX10_closeOne 185 = .ok (.aload_n 0, 1) := by decide +kernel
theorem dX10_closeOne_186 : decode cX10_closeOne 186 = .ok (.iconst 2, 1) := by decide +kernel
theorem dX10_closeOne_187 : decode cX10_closeOne 187 = .ok (.iaload, 1) := by decide +kernel
theorem dX10_closeOne_188 : decode cX10_closeOne 188 = .ok (.i2l, 1) := by decide +kernel
theorem dX10_closeOne_189 : decode cX10_closeOne 189 = .ok (.iload 5, 2) := by decide +kernel
theorem dX10_closeOne_191 : decode cX10_closeOne 191 = .ok (.iload 9, 2) := by decide +kernel
theorem dX10_closeOne_193 : decode cX10_closeOne 193 = .ok (.iadd, 1) := by decide +kernel
theorem dX10_closeOne_194 : decode cX10_closeOne 194 = .ok (.i2l, 1) := by decide +kernel
theorem dX10_closeOne_195 : decode cX10_closeOne 195 = .ok (.lmul, 1) := by decide +kernel
theorem dX10_closeOne_196 : decode cX10_closeOne 196 = .ok (.ladd, 1) := by decide +kernel
theorem dX10_closeOne_197 : decode cX10_closeOne 197 = .ok (.aload_n 0, 1) := by decide +kernel
theorem dX10_closeOne_198 : decode cX10_closeOne 198 = .ok (.iconst 5, 1) := by decide +kernel
theorem dX10_closeOne_199 : decode cX10_closeOne 199 = .ok (.iaload, 1) := by decide +kernel
theorem dX10_closeOne_200 : decode cX10_closeOne 200 = .ok (.i2l, 1) := by decide +kernel
theorem dX10_closeOne_201 : decode cX10_closeOne 201 = .ok (.iload 6, 2) := by decide +kernel
theorem dX10_closeOne_203 : decode cX10_closeOne 203 = .ok (.i2l, 1) := by decide +kernel
theorem dX10_closeOne_204 : decode cX10_closeOne 204 = .ok (.lmul, 1) := by decide +kernel
theorem dX10_closeOne_205 : decode cX10_closeOne 205 = .ok (.ladd, 1) := by decide +kernel
theorem dX10_closeOne_206 : decode cX10_closeOne 206 = .ok (.aload_n 0, 1) := by decide +kernel
theorem dX10_closeOne_207 : decode cX10_closeOne 207 = .ok (.bipush 8, 2) := by decide +kernel
theorem dX10_closeOne_209 : decode cX10_closeOne 209 = .ok (.iaload, 1) := by decide +kernel
theorem dX10_closeOne_210 : decode cX10_closeOne 210 = .ok (.i2l, 1) := by decide +kernel
theorem dX10_closeOne_211 : decode cX10_closeOne 211 = .ok (.iload 7, 2) := by decide +kernel
theorem dX10_closeOne_213 : decode cX10_closeOne 213 = .ok (.i2l, 1) := by decide +kernel
theorem dX10_closeOne_214 : decode cX10_closeOne 214 = .ok (.lmul, 1) := by decide +kernel
theorem dX10_closeOne_215 : decode cX10_closeOne 215 = .ok (.lsub, 1) := by decide +kernel
theorem dX10_closeOne_216 : decode cX10_closeOne 216 = .ok (.lastore, 1) := by decide +kernel
theorem dX10_closeOne_217 : decode cX10_closeOne 217 = .ok (.return_, 1) := by decide +kernel
theorem dX10_isOpen_0 : decode cX10_isOpen 0 = .ok (.aload_n 0, 1) := by decide +kernel
theorem dX10_isOpen_1 : decode cX10_isOpen 1 = .ok (.iconst 1, 1) := by decide +kernel
theorem dX10_isOpen_2 : decode cX10_isOpen 2 = .ok (.iaload, 1) := by decide +kernel
theorem dX10_isOpen_3 : decode cX10_isOpen 3 = .ok (.aload_n 0, 1) := by decide +kernel
theorem dX10_isOpen_4 : decode cX10_isOpen 4 = .ok (.iconst 0, 1) := by decide +kernel
theorem dX10_isOpen_5 : decode cX10_isOpen 5 = .ok (.iaload, 1) := by decide +kernel
theorem dX10_isOpen_6 : decode cX10_isOpen 6 = .ok (.if_icmp .ge 7, 3) := by decide +kernel
theorem dX10_isOpen_9 : decode cX10_isOpen 9 = .ok (.iconst 1, 1) := by decide +kernel
theorem dX10_isOpen_10 : decode cX10_isOpen 10 = .ok (.goto 4, 3) := by decide +kernel
theorem dX10_isOpen_13 : decode cX10_isOpen 13 = .ok (.iconst 0, 1) := by decide +kernel
theorem dX10_isOpen_14 : decode cX10_isOpen 14 = .ok (.ireturn, 1) := by decide +kernel
theorem dX10_noPeriod_0 : decode cX10_noPeriod 0 = .ok (.aload_n 0, 1) := by decide +kernel
theorem dX10_noPeriod_1 : decode cX10_noPeriod 1 = .ok (.iload_n 1, 1) := by decide +kernel
theorem dX10_noPeriod_2 : decode cX10_noPeriod 2 = .ok (.iconst 0, 1) := by decide +kernel
theorem dX10_noPeriod_3 : decode cX10_noPeriod 3 = .ok (.aload_n 0, 1) := by decide +kernel
theorem dX10_noPeriod_4 : decode cX10_noPeriod 4 = .ok (.getfield 17, 3) := by decide +kernel
theorem dX10_noPeriod_7 : decode cX10_noPeriod 7 = .ok (.iconst 0, 1) := by decide +kernel
theorem dX10_noPeriod_8 : decode cX10_noPeriod 8 = .ok (.iaload, 1) := by decide +kernel
theorem dX10_noPeriod_9 : decode cX10_noPeriod 9 = .ok (.iconst 1, 1) := by decide +kernel
theorem dX10_noPeriod_10 : decode cX10_noPeriod 10 = .ok (.isub, 1) := by decide +kernel
theorem dX10_noPeriod_11 : decode cX10_noPeriod 11 = .ok (.invokestatic 74, 3) := by decide +kernel
theorem dX10_noPeriod_14 : decode cX10_noPeriod 14 = .ok (.ifCond .ne 7, 3) := by decide +kernel
theorem dX10_noPeriod_17 : decode cX10_noPeriod 17 = .ok (.iconst 1, 1) := by decide +kernel
theorem dX10_noPeriod_18 : decode cX10_noPeriod 18 = .ok (.goto 4, 3) := by decide +kernel
theorem dX10_noPeriod_21 : decode cX10_noPeriod 21 = .ok (.iconst 0, 1) := by decide +kernel
theorem dX10_noPeriod_22 : decode cX10_noPeriod 22 = .ok (.iconst 1, 1) := by decide +kernel
theorem dX10_noPeriod_23 : decode cX10_noPeriod 23 = .ok (.invokevirtual 177, 3) := by decide +kernel
theorem dX10_noPeriod_26 : decode cX10_noPeriod 26 = .ok (.ireturn, 1) := by decide +kernel
theorem dX10_noBreach_0 : decode cX10_noBreach 0 = .ok (.aload_n 0, 1) := by decide +kernel
theorem dX10_noBreach_1 : decode cX10_noBreach 1 = .ok (.iload_n 1, 1) := by decide +kernel
theorem dX10_noBreach_2 : decode cX10_noBreach 2 = .ok (.iconst 0, 1) := by decide +kernel
theorem dX10_noBreach_3 : decode cX10_noBreach 3 = .ok (.aload_n 0, 1) := by decide +kernel
theorem dX10_noBreach_4 : decode cX10_noBreach 4 = .ok (.getfield 17, 3) := by decide +kernel
theorem dX10_noBreach_7 : decode cX10_noBreach 7 = .ok (.bipush 12, 2) := by decide +kernel
theorem dX10_noBreach_9 : decode cX10_noBreach 9 = .ok (.iaload, 1) := by decide +kernel
theorem dX10_noBreach_10 : decode cX10_noBreach 10 = .ok (.iconst 1, 1) := by decide +kernel
theorem dX10_noBreach_11 : decode cX10_noBreach 11 = .ok (.isub, 1) := by decide +kernel
theorem dX10_noBreach_12 : decode cX10_noBreach 12 = .ok (.invokestatic 74, 3) := by decide +kernel
theorem dX10_noBreach_15 : decode cX10_noBreach 15 = .ok (.ifCond .ne 7, 3) := by decide +kernel
theorem dX10_noBreach_18 : decode cX10_noBreach 18 = .ok (.iconst 1, 1) := by decide +kernel
theorem dX10_noBreach_19 : decode cX10_noBreach 19 = .ok (.goto 4, 3) := by decide +kernel
theorem dX10_noBreach_22 : decode cX10_noBreach 22 = .ok (.iconst 0, 1) := by decide +kernel
theorem dX10_noBreach_23 : decode cX10_noBreach 23 = .ok (.iconst 1, 1) := by decide +kernel
theorem dX10_noBreach_24 : decode cX10_noBreach 24 = .ok (.invokevirtual 177, 3) := by decide +kernel
theorem dX10_noBreach_27 : decode cX10_noBreach 27 = .ok (.ireturn, 1) := by decide +kernel
theorem dX10_periodCount_0 : decode cX10_periodCount 0 = .ok (.aload_n 0, 1) := by decide +kernel
theorem dX10_periodCount_1 : decode cX10_periodCount 1 = .ok (.iconst 0, 1) := by decide +kernel
theorem dX10_periodCount_2 : decode cX10_periodCount 2 = .ok (.putfield 52, 3) := by decide +kernel
theorem dX10_periodCount_5 : decode cX10_periodCount 5 = .ok (.aload_n 0, 1) := by decide +kernel
theorem dX10_periodCount_6 : decode cX10_periodCount 6 = .ok (.getfield 17, 3) := by decide +kernel
theorem dX10_periodCount_9 : decode cX10_periodCount 9 = .ok (.iconst 0, 1) := by decide +kernel
theorem dX10_periodCount_10 : decode cX10_periodCount 10 = .ok (.iaload, 1) := by decide +kernel
theorem dX10_periodCount_11 : decode cX10_periodCount 11 = .ok (.ireturn, 1) := by decide +kernel
theorem dX10_clock_0 : decode cX10_clock 0 = .ok (.aload_n 0, 1) := by decide +kernel
theorem dX10_clock_1 : decode cX10_clock 1 = .ok (.iconst 0, 1) := by decide +kernel
theorem dX10_clock_2 : decode cX10_clock 2 = .ok (.putfield 52, 3) := by decide +kernel
theorem dX10_clock_5 : decode cX10_clock 5 = .ok (.aload_n 0, 1) := by decide +kernel
theorem dX10_clock_6 : decode cX10_clock 6 = .ok (.getfield 17, 3) := by decide +kernel
theorem dX10_clock_9 : decode cX10_clock 9 = .ok (.iconst 1, 1) := by decide +kernel
theorem dX10_clock_10 : decode cX10_clock 10 = .ok (.iaload, 1) := by decide +kernel
theorem dX10_clock_11 : decode cX10_clock 11 = .ok (.ireturn, 1) := by decide +kernel
theorem dX10_reservedIn_0 : decode cX10_reservedIn 0 = .ok (.aload_n 0, 1) := by decide +kernel
theorem dX10_reservedIn_1 : decode cX10_reservedIn 1 = .ok (.iconst 0, 1) := by decide +kernel
theorem dX10_reservedIn_2 : decode cX10_reservedIn 2 = .ok (.putfield 52, 3) := by decide +kernel
theorem dX10_reservedIn_5 : decode cX10_reservedIn 5 = .ok (.aload_n 0, 1) := by decide +kernel
theorem dX10_reservedIn_6 : decode cX10_reservedIn 6 = .ok (.iload_n 1, 1) := by decide +kernel
theorem dX10_reservedIn_7 : decode cX10_reservedIn 7 = .ok (.invokevirtual 237, 3) := by decide +kernel
theorem dX10_reservedIn_10 : decode cX10_reservedIn 10 = .ok (.ifCond .eq 7, 3) := by decide +kernel
theorem dX10_reservedIn_13 : decode cX10_reservedIn 13 = .ok (.iconst 0, 1) := by decide +kernel
theorem dX10_reservedIn_14 : decode cX10_reservedIn 14 = .ok (.goto 12, 3) := by decide +kernel
theorem dX10_reservedIn_17 : decode cX10_reservedIn 17 = .ok (.aload_n 0, 1) := by decide +kernel
theorem dX10_reservedIn_18 : decode cX10_reservedIn 18 = .ok (.getfield 17, 3) := by decide +kernel
theorem dX10_reservedIn_21 : decode cX10_reservedIn 21 = .ok (.iload_n 1, 1) := by decide +kernel
theorem dX10_reservedIn_22 : decode cX10_reservedIn 22 = .ok (.invokestatic 148, 3) := by decide +kernel
theorem dX10_reservedIn_25 : decode cX10_reservedIn 25 = .ok (.iaload, 1) := by decide +kernel
theorem dX10_reservedIn_26 : decode cX10_reservedIn 26 = .ok (.ireturn, 1) := by decide +kernel
theorem dX10_forecastOf_0 : decode cX10_forecastOf 0 = .ok (.aload_n 0, 1) := by decide +kernel
theorem dX10_forecastOf_1 : decode cX10_forecastOf 1 = .ok (.iconst 0, 1) := by decide +kernel
theorem dX10_forecastOf_2 : decode cX10_forecastOf 2 = .ok (.putfield 52, 3) := by decide +kernel
theorem dX10_forecastOf_5 : decode cX10_forecastOf 5 = .ok (.aload_n 0, 1) := by decide +kernel
theorem dX10_forecastOf_6 : decode cX10_forecastOf 6 = .ok (.iload_n 1, 1) := by decide +kernel
theorem dX10_forecastOf_7 : decode cX10_forecastOf 7 = .ok (.invokevirtual 237, 3) := by decide +kernel
theorem dX10_forecastOf_10 : decode cX10_forecastOf 10 = .ok (.ifCond .eq 7, 3) := by decide +kernel
theorem dX10_forecastOf_13 : decode cX10_forecastOf 13 = .ok (.iconst 0, 1) := by decide +kernel
theorem dX10_forecastOf_14 : decode cX10_forecastOf 14 = .ok (.goto 14, 3) := by decide +kernel
theorem dX10_forecastOf_17 : decode cX10_forecastOf 17 = .ok (.aload_n 0, 1) := by decide +kernel
theorem dX10_forecastOf_18 : decode cX10_forecastOf 18 = .ok (.getfield 17, 3) := by decide +kernel
theorem dX10_forecastOf_21 : decode cX10_forecastOf 21 = .ok (.iload_n 1, 1) := by decide +kernel
theorem dX10_forecastOf_22 : decode cX10_forecastOf 22 = .ok (.invokestatic 148, 3) := by decide +kernel
theorem dX10_forecastOf_25 : decode cX10_forecastOf 25 = .ok (.iconst 1, 1) := by decide +kernel
theorem dX10_forecastOf_26 : decode cX10_forecastOf 26 = .ok (.iadd, 1) := by decide +kernel
theorem dX10_forecastOf_27 : decode cX10_forecastOf 27 = .ok (.iaload, 1) := by decide +kernel
theorem dX10_forecastOf_28 : decode cX10_forecastOf 28 = .ok (.ireturn, 1) := by decide +kernel
theorem dX10_orderOf_0 : decode cX10_orderOf 0 = .ok (.aload_n 0, 1) := by decide +kernel
theorem dX10_orderOf_1 : decode cX10_orderOf 1 = .ok (.iconst 0, 1) := by decide +kernel
theorem dX10_orderOf_2 : decode cX10_orderOf 2 = .ok (.putfield 52, 3) := by decide +kernel
theorem dX10_orderOf_5 : decode cX10_orderOf 5 = .ok (.aload_n 0, 1) := by decide +kernel
theorem dX10_orderOf_6 : decode cX10_orderOf 6 = .ok (.iload_n 1, 1) := by decide +kernel
theorem dX10_orderOf_7 : decode cX10_orderOf 7 = .ok (.invokevirtual 237, 3) := by decide +kernel
theorem dX10_orderOf_10 : decode cX10_orderOf 10 = .ok (.ifCond .eq 7, 3) := by decide +kernel
theorem dX10_orderOf_13 : decode cX10_orderOf 13 = .ok (.iconst 0, 1) := by decide +kernel
theorem dX10_orderOf_14 : decode cX10_orderOf 14 = .ok (.goto 14, 3) := by decide +kernel
theorem dX10_orderOf_17 : decode cX10_orderOf 17 = .ok (.aload_n 0, 1) := by decide +kernel
theorem dX10_orderOf_18 : decode cX10_orderOf 18 = .ok (.getfield 17, 3) := by decide +kernel
theorem dX10_orderOf_21 : decode cX10_orderOf 21 = .ok (.iload_n 1, 1) := by decide +kernel
theorem dX10_orderOf_22 : decode cX10_orderOf 22 = .ok (.invokestatic 148, 3) := by decide +kernel
theorem dX10_orderOf_25 : decode cX10_orderOf 25 = .ok (.iconst 2, 1) := by decide +kernel
theorem dX10_orderOf_26 : decode cX10_orderOf 26 = .ok (.iadd, 1) := by decide +kernel
theorem dX10_orderOf_27 : decode cX10_orderOf 27 = .ok (.iaload, 1) := by decide +kernel
theorem dX10_orderOf_28 : decode cX10_orderOf 28 = .ok (.ireturn, 1) := by decide +kernel
theorem dX10_openUnits_0 : decode cX10_openUnits 0 = .ok (.aload_n 0, 1) := by decide +kernel
theorem dX10_openUnits_1 : decode cX10_openUnits 1 = .ok (.iconst 0, 1) := by decide +kernel
theorem dX10_openUnits_2 : decode cX10_openUnits 2 = .ok (.putfield 52, 3) := by decide +kernel
theorem dX10_openUnits_5 : decode cX10_openUnits 5 = .ok (.aload_n 0, 1) := by decide +kernel
theorem dX10_openUnits_6 : decode cX10_openUnits 6 = .ok (.iload_n 1, 1) := by decide +kernel
theorem dX10_openUnits_7 : decode cX10_openUnits 7 = .ok (.invokevirtual 237, 3) := by decide +kernel
theorem dX10_openUnits_10 : decode cX10_openUnits 10 = .ok (.ifCond .eq 7, 3) := by decide +kernel
theorem dX10_openUnits_13 : decode cX10_openUnits 13 = .ok (.iconst 0, 1) := by decide +kernel
theorem dX10_openUnits_14 : decode cX10_openUnits 14 = .ok (.goto 14, 3) := by decide +kernel
theorem dX10_openUnits_17 : decode cX10_openUnits 17 = .ok (.aload_n 0, 1) := by decide +kernel
theorem dX10_openUnits_18 : decode cX10_openUnits 18 = .ok (.getfield 17, 3) := by decide +kernel
theorem dX10_openUnits_21 : decode cX10_openUnits 21 = .ok (.iload_n 1, 1) := by decide +kernel
theorem dX10_openUnits_22 : decode cX10_openUnits 22 = .ok (.invokestatic 148, 3) := by decide +kernel
theorem dX10_openUnits_25 : decode cX10_openUnits 25 = .ok (.iconst 3, 1) := by decide +kernel
theorem dX10_openUnits_26 : decode cX10_openUnits 26 = .ok (.iadd, 1) := by decide +kernel
theorem dX10_openUnits_27 : decode cX10_openUnits 27 = .ok (.iaload, 1) := by decide +kernel
theorem dX10_openUnits_28 : decode cX10_openUnits 28 = .ok (.ireturn, 1) := by decide +kernel
theorem dX10_missedUnits_0 : decode cX10_missedUnits 0 = .ok (.aload_n 0, 1) := by decide +kernel
theorem dX10_missedUnits_1 : decode cX10_missedUnits 1 = .ok (.iconst 0, 1) := by decide +kernel
theorem dX10_missedUnits_2 : decode cX10_missedUnits 2 = .ok (.putfield 52, 3) := by decide +kernel
theorem dX10_missedUnits_5 : decode cX10_missedUnits 5 = .ok (.aload_n 0, 1) := by decide +kernel
theorem dX10_missedUnits_6 : decode cX10_missedUnits 6 = .ok (.iload_n 1, 1) := by decide +kernel
theorem dX10_missedUnits_7 : decode cX10_missedUnits 7 = .ok (.invokevirtual 237, 3) := by decide +kernel
theorem dX10_missedUnits_10 : decode cX10_missedUnits 10 = .ok (.ifCond .eq 7, 3) := by decide +kernel
theorem dX10_missedUnits_13 : decode cX10_missedUnits 13 = .ok (.iconst 0, 1) := by decide +kernel
theorem dX10_missedUnits_14 : decode cX10_missedUnits 14 = .ok (.goto 14, 3) := by decide +kernel
theorem dX10_missedUnits_17 : decode cX10_missedUnits 17 = .ok (.aload_n 0, 1) := by decide +kernel
theorem dX10_missedUnits_18 : decode cX10_missedUnits 18 = .ok (.getfield 17, 3) := by decide +kernel
