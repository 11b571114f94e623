theorem dX0_init_0 : decode cX0_init 0 = .ok (.aload_n 0, 1) := by decide +kernel
theorem dX0_init_1 : decode cX0_init 1 = .ok (.invokespecial 3, 3) := by decide +kernel
theorem dX0_init_4 : decode cX0_init 4 = .ok (.aload_n 0, 1) := by decide +kernel
theorem dX0_init_5 : decode cX0_init 5 = .ok (.sipush 600, 3) := by decide +kernel
theorem dX0_init_8 : decode cX0_init 8 = .ok (.newarray .int, 2) := by decide +kernel
theorem dX0_init_10 : decode cX0_init 10 = .ok (.putfield 9, 3) := by decide +kernel
theorem dX0_init_13 : decode cX0_init 13 = .ok (.aload_n 0, 1) := by decide +kernel
theorem dX0_init_14 : decode cX0_init 14 = .ok (.iconst (-1), 1) := by decide +kernel
theorem dX0_init_15 : decode cX0_init 15 = .ok (.putfield 15, 3) := by decide +kernel
theorem dX0_init_18 : decode cX0_init 18 = .ok (.aload_n 0, 1) := by decide +kernel
theorem dX0_init_19 : decode cX0_init 19 = .ok (.sipush 256, 3) := by decide +kernel
theorem dX0_init_22 : decode cX0_init 22 = .ok (.newarray .int, 2) := by decide +kernel
theorem dX0_init_24 : decode cX0_init 24 = .ok (.putfield 19, 3) := by decide +kernel
theorem dX0_init_27 : decode cX0_init 27 = .ok (.aload_n 0, 1) := by decide +kernel
theorem dX0_init_28 : decode cX0_init 28 = .ok (.sipush 256, 3) := by decide +kernel
theorem dX0_init_31 : decode cX0_init 31 = .ok (.newarray .boolean, 2) := by decide +kernel
theorem dX0_init_33 : decode cX0_init 33 = .ok (.putfield 22, 3) := by decide +kernel
theorem dX0_init_36 : decode cX0_init 36 = .ok (.aload_n 0, 1) := by decide +kernel
theorem dX0_init_37 : decode cX0_init 37 = .ok (.iconst (-1), 1) := by decide +kernel
theorem dX0_init_38 : decode cX0_init 38 = .ok (.putfield 26, 3) := by decide +kernel
theorem dX0_init_41 : decode cX0_init 41 = .ok (.return_, 1) := by decide +kernel
theorem dX1_init_0 : decode cX1_init 0 = .ok (.aload_n 0, 1) := by decide +kernel
theorem dX1_init_1 : decode cX1_init 1 = .ok (.invokespecial 3, 3) := by decide +kernel
theorem dX1_init_4 : decode cX1_init 4 = .ok (.aload_n 0, 1) := by decide +kernel
theorem dX1_init_5 : decode cX1_init 5 = .ok (.bipush 8, 2) := by decide +kernel
theorem dX1_init_7 : decode cX1_init 7 = .ok (.newarray .int, 2) := by decide +kernel
theorem dX1_init_9 : decode cX1_init 9 = .ok (.putfield 9, 3) := by decide +kernel
theorem dX1_init_12 : decode cX1_init 12 = .ok (.aload_n 0, 1) := by decide +kernel
theorem dX1_init_13 : decode cX1_init 13 = .ok (.sipush 400, 3) := by decide +kernel
theorem dX1_init_16 : decode cX1_init 16 = .ok (.putfield 15, 3) := by decide +kernel
theorem dX1_init_19 : decode cX1_init 19 = .ok (.aload_n 0, 1) := by decide +kernel
theorem dX1_init_20 : decode cX1_init 20 = .ok (.sipush 400, 3) := by decide +kernel
theorem dX1_init_23 : decode cX1_init 23 = .ok (.putfield 19, 3) := by decide +kernel
theorem dX1_init_26 : decode cX1_init 26 = .ok (.aload_n 0, 1) := by decide +kernel
theorem dX1_init_27 : decode cX1_init 27 = .ok (.ldc 22, 2) := by decide +kernel
theorem dX1_init_29 : decode cX1_init 29 = .ok (.putfield 23, 3) := by decide +kernel
theorem dX1_init_32 : decode cX1_init 32 = .ok (.iconst 0, 1) := by decide +kernel
theorem dX1_init_33 : decode cX1_init 33 = .ok (.istore_n 1, 1) := by decide +kernel
theorem dX1_init_34 : decode cX1_init 34 = .ok (.iload_n 1, 1) := by decide +kernel
theorem dX1_init_35 : decode cX1_init 35 = .ok (.bipush 8, 2) := by decide +kernel
theorem dX1_init_37 : decode cX1_init 37 = .ok (.if_icmp .ge 18, 3) := by decide +kernel
theorem dX1_init_40 : decode cX1_init 40 = .ok (.aload_n 0, 1) := by decide +kernel
theorem dX1_init_41 : decode cX1_init 41 = .ok (.getfield 9, 3) := by decide +kernel
theorem dX1_init_44 : decode cX1_init 44 = .ok (.iload_n 1, 1) := by decide +kernel
theorem dX1_init_45 : decode cX1_init 45 = .ok (.sipush 400, 3) := by decide +kernel
theorem dX1_init_48 : decode cX1_init 48 = .ok (.iastore, 1) := by decide +kernel
theorem dX1_init_49 : decode cX1_init 49 = .ok (.iinc 1 1, 3) := by decide +kernel
theorem dX1_init_52 : decode cX1_init 52 = .ok (.goto (-18), 3) := by decide +kernel
theorem dX1_init_55 : decode cX1_init 55 = .ok (.return_, 1) := by decide +kernel
theorem dX1_temperatureOf_0 : decode cX1_temperatureOf 0 = .ok (.aload_n 0, 1) := by decide +kernel
theorem dX1_temperatureOf_1 : decode cX1_temperatureOf 1 = .ok (.getfield 9, 3) := by decide +kernel
theorem dX1_temperatureOf_4 : decode cX1_temperatureOf 4 = .ok (.iload_n 1, 1) := by decide +kernel
theorem dX1_temperatureOf_5 : decode cX1_temperatureOf 5 = .ok (.bipush 7, 2) := by decide +kernel
theorem dX1_temperatureOf_7 : decode cX1_temperatureOf 7 = .ok (.iand, 1) := by decide +kernel
theorem dX1_temperatureOf_8 : decode cX1_temperatureOf 8 = .ok (.iaload, 1) := by decide +kernel
theorem dX1_temperatureOf_9 : decode cX1_temperatureOf 9 = .ok (.ireturn, 1) := by decide +kernel
theorem dX1_putTemperature_0 : decode cX1_putTemperature 0 = .ok (.aload_n 0, 1) := by decide +kernel
theorem dX1_putTemperature_1 : decode cX1_putTemperature 1 = .ok (.getfield 9, 3) := by decide +kernel
theorem dX1_putTemperature_4 : decode cX1_putTemperature 4 = .ok (.iload_n 1, 1) := by decide +kernel
theorem dX1_putTemperature_5 : decode cX1_putTemperature 5 = .ok (.bipush 7, 2) := by decide +kernel
theorem dX1_putTemperature_7 : decode cX1_putTemperature 7 = .ok (.iand, 1) := by decide +kernel
theorem dX1_putTemperature_8 : decode cX1_putTemperature 8 = .ok (.iload_n 2, 1) := by decide +kernel
theorem dX1_putTemperature_9 : decode cX1_putTemperature 9 = .ok (.iastore, 1) := by decide +kernel
theorem dX1_putTemperature_10 : decode cX1_putTemperature 10 = .ok (.return_, 1) := by decide +kernel
theorem dX1_exchange_0 : decode cX1_exchange 0 = .ok (.aload_n 0, 1) := by decide +kernel
theorem dX1_exchange_1 : decode cX1_exchange 1 = .ok (.iload_n 1, 1) := by decide +kernel
theorem dX1_exchange_2 : decode cX1_exchange 2 = .ok (.invokevirtual 26, 3) := by decide +kernel
theorem dX1_exchange_5 : decode cX1_exchange 5 = .ok (.istore_n 3, 1) := by decide +kernel
theorem dX1_exchange_6 : decode cX1_exchange 6 = .ok (.aload_n 0, 1) := by decide +kernel
theorem dX1_exchange_7 : decode cX1_exchange 7 = .ok (.iload_n 1, 1) := by decide +kernel
theorem dX1_exchange_8 : decode cX1_exchange 8 = .ok (.aload_n 0, 1) := by decide +kernel
theorem dX1_exchange_9 : decode cX1_exchange 9 = .ok (.iload_n 2, 1) := by decide +kernel
theorem dX1_exchange_10 : decode cX1_exchange 10 = .ok (.invokevirtual 26, 3) := by decide +kernel
theorem dX1_exchange_13 : decode cX1_exchange 13 = .ok (.invokevirtual 30, 3) := by decide +kernel
theorem dX1_exchange_16 : decode cX1_exchange 16 = .ok (.aload_n 0, 1) := by decide +kernel
theorem dX1_exchange_17 : decode cX1_exchange 17 = .ok (.iload_n 2, 1) := by decide +kernel
theorem dX1_exchange_18 : decode cX1_exchange 18 = .ok (.iload_n 3, 1) := by decide +kernel
theorem dX1_exchange_19 : decode cX1_exchange 19 = .ok (.invokevirtual 30, 3) := by decide +kernel
theorem dX1_exchange_22 : decode cX1_exchange 22 = .ok (.return_, 1) := by decide +kernel
theorem dX1_clockPeriod_0 : decode cX1_clockPeriod 0 = .ok (.aload_n 0, 1) := by decide +kernel
theorem dX1_clockPeriod_1 : decode cX1_clockPeriod 1 = .ok (.getfield 34, 3) := by decide +kernel
theorem dX1_clockPeriod_4 : decode cX1_clockPeriod 4 = .ok (.ifCond .eq 17, 3) := by decide +kernel
theorem dX1_clockPeriod_7 : decode cX1_clockPeriod 7 = .ok (.aload_n 0, 1) := by decide +kernel
theorem dX1_clockPeriod_8 : decode cX1_clockPeriod 8 = .ok (.getfield 15, 3) := by decide +kernel
theorem dX1_clockPeriod_11 : decode cX1_clockPeriod 11 = .ok (.invokestatic 38, 3) := by decide +kernel
theorem dX1_clockPeriod_14 : decode cX1_clockPeriod 14 = .ok (.sipush 640, 3) := by decide +kernel
theorem dX1_clockPeriod_17 : decode cX1_clockPeriod 17 = .ok (.idiv, 1) := by decide +kernel
theorem dX1_clockPeriod_18 : decode cX1_clockPeriod 18 = .ok (.goto 7, 3) := by decide +kernel
theorem dX1_clockPeriod_21 : decode cX1_clockPeriod 21 = .ok (.aload_n 0, 1) := by decide +kernel
theorem dX1_clockPeriod_22 : decode cX1_clockPeriod 22 = .ok (.getfield 23, 3) := by decide +kernel
theorem dX1_clockPeriod_25 : decode cX1_clockPeriod 25 = .ok (.ireturn, 1) := by decide +kernel
theorem dX1_drift_0 : decode cX1_drift 0 = .ok (.iconst 0, 1) := by decide +kernel
theorem dX1_drift_1 : decode cX1_drift 1 = .ok (.istore_n 1, 1) := by decide +kernel
theorem dX1_drift_2 : decode cX1_drift 2 = .ok (.iload_n 1, 1) := by decide +kernel
theorem dX1_drift_3 : decode cX1_drift 3 = .ok (.bipush 8, 2) := by decide +kernel
theorem dX1_drift_5 : decode cX1_drift 5 = .ok (.if_icmp .ge 31, 3) := by decide +kernel
theorem dX1_drift_8 : decode cX1_drift 8 = .ok (.aload_n 0, 1) := by decide +kernel
theorem dX1_drift_9 : decode cX1_drift 9 = .ok (.iload_n 1, 1) := by decide +kernel
theorem dX1_drift_10 : decode cX1_drift 10 = .ok (.invokevirtual 26, 3) := by decide +kernel
theorem dX1_drift_13 : decode cX1_drift 13 = .ok (.istore_n 2, 1) := by decide +kernel
theorem dX1_drift_14 : decode cX1_drift 14 = .ok (.aload_n 0, 1) := by decide +kernel
theorem dX1_drift_15 : decode cX1_drift 15 = .ok (.iload_n 1, 1) := by decide +kernel
theorem dX1_drift_16 : decode cX1_drift 16 = .ok (.iload_n 2, 1) := by decide +kernel
theorem dX1_drift_17 : decode cX1_drift 17 = .ok (.aload_n 0, 1) := by decide +kernel
theorem dX1_drift_18 : decode cX1_drift 18 = .ok (.getfield 19, 3) := by decide +kernel
theorem dX1_drift_21 : decode cX1_drift 21 = .ok (.iload_n 2, 1) := by decide +kernel
theorem dX1_drift_22 : decode cX1_drift 22 = .ok (.isub, 1) := by decide +kernel
theorem dX1_drift_23 : decode cX1_drift 23 = .ok (.bipush 8, 2) := by decide +kernel
theorem dX1_drift_25 : decode cX1_drift 25 = .ok (.idiv, 1) := by decide +kernel
theorem dX1_drift_26 : decode cX1_drift 26 = .ok (.iadd, 1) := by decide +kernel
theorem dX1_drift_27 : decode cX1_drift 27 = .ok (.invokevirtual 30, 3) := by decide +kernel
theorem dX1_drift_30 : decode cX1_drift 30 = .ok (.iinc 1 1, 3) := by decide +kernel
theorem dX1_drift_33 : decode cX1_drift 33 = .ok (.goto (-31), 3) := by decide +kernel
theorem dX1_drift_36 : decode cX1_drift 36 = .ok (.aload_n 0, 1) := by decide +kernel
theorem dX1_drift_37 : decode cX1_drift 37 = .ok (.dup, 1) := by decide +kernel
theorem dX1_drift_38 : decode cX1_drift 38 = .ok (.getfield 15, 3) := by decide +kernel
theorem dX1_drift_41 : decode cX1_drift 41 = .ok (.aload_n 0, 1) := by decide +kernel
theorem dX1_drift_42 : decode cX1_drift 42 = .ok (.getfield 19, 3) := by decide +kernel
theorem dX1_drift_45 : decode cX1_drift 45 = .ok (.aload_n 0, 1) := by decide +kernel
theorem dX1_drift_46 : decode cX1_drift 46 = .ok (.getfield 15, 3) := by decide +kernel
theorem dX1_drift_49 : decode cX1_drift 49 = .ok (.isub, 1) := by decide +kernel
theorem dX1_drift_50 : decode cX1_drift 50 = .ok (.bipush 8, 2) := by decide +kernel
theorem dX1_drift_52 : decode cX1_drift 52 = .ok (.idiv, 1) := by decide +kernel
theorem dX1_drift_53 : decode cX1_drift 53 = .ok (.iadd, 1) := by decide +kernel
theorem dX1_drift_54 : decode cX1_drift 54 = .ok (.putfield 15, 3) := by decide +kernel
theorem dX1_drift_57 : decode cX1_drift 57 = .ok (.return_, 1) := by decide +kernel
theorem dX1_copyFrom_0 : decode cX1_copyFrom 0 = .ok (.aload_n 1, 1) := by decide +kernel
theorem dX1_copyFrom_1 : decode cX1_copyFrom 1 = .ok (.getfield 9, 3) := by decide +kernel
theorem dX1_copyFrom_4 : decode cX1_copyFrom 4 = .ok (.aload_n 0, 1) := by decide +kernel
theorem dX1_copyFrom_5 : decode cX1_copyFrom 5 = .ok (.getfield 9, 3) := by decide +kernel
theorem dX1_copyFrom_8 : decode cX1_copyFrom 8 = .ok (.invokestatic 49, 3) := by decide +kernel
theorem dX1_copyFrom_11 : decode cX1_copyFrom 11 = .ok (.aload_n 0, 1) := by decide +kernel
theorem dX1_copyFrom_12 : decode cX1_copyFrom 12 = .ok (.aload_n 1, 1) := by decide +kernel
theorem dX1_copyFrom_13 : decode cX1_copyFrom 13 = .ok (.getfield 15, 3) := by decide +kernel
theorem dX1_copyFrom_16 : decode cX1_copyFrom 16 = .ok (.putfield 15, 3) := by decide +kernel
theorem dX1_copyFrom_19 : decode cX1_copyFrom 19 = .ok (.aload_n 0, 1) := by decide +kernel
theorem dX1_copyFrom_20 : decode cX1_copyFrom 20 = .ok (.aload_n 1, 1) := by decide +kernel
theorem dX1_copyFrom_21 : decode cX1_copyFrom 21 = .ok (.getfield 19, 3) := by decide +kernel
theorem dX1_copyFrom_24 : decode cX1_copyFrom 24 = .ok (.putfield 19, 3) := by decide +kernel
theorem dX1_copyFrom_27 : decode cX1_copyFrom 27 = .ok (.aload_n 0, 1) := by decide +kernel
theorem dX1_copyFrom_28 : decode cX1_copyFrom 28 = .ok (.aload_n 1, 1) := by decide +kernel
theorem dX1_copyFrom_29 : decode cX1_copyFrom 29 = .ok (.getfield 23, 3) := by decide +kernel
theorem dX1_copyFrom_32 : decode cX1_copyFrom 32 = .ok (.putfield 23, 3) := by decide +kernel
theorem dX1_copyFrom_35 : decode cX1_copyFrom 35 = .ok (.aload_n 0, 1) := by decide +kernel
theorem dX1_copyFrom_36 : decode cX1_copyFrom 36 = .ok (.aload_n 1, 1) := by decide +kernel
theorem dX1_copyFrom_37 : decode cX1_copyFrom 37 = .ok (.getfield 34, 3) := by decide +kernel
theorem dX1_copyFrom_40 : decode cX1_copyFrom 40 = .ok (.putfield 34, 3) := by decide +kernel
theorem dX1_copyFrom_43 : decode cX1_copyFrom 43 = .ok (.return_, 1) := by decide +kernel
theorem dX2_init_0 : decode cX2_init 0 = .ok (.aload_n 0, 1) := by decide +kernel
theorem dX2_init_1 : decode cX2_init 1 = .ok (.invokespecial 3, 3) := by decide +kernel
theorem dX2_init_4 : decode cX2_init 4 = .ok (.aload_n 0, 1) := by decide +kernel
theorem dX2_init_5 : decode cX2_init 5 = .ok (.new 9, 3) := by decide +kernel
theorem dX2_init_8 : decode cX2_init 8 = .ok (.dup, 1) := by decide +kernel
theorem dX2_init_9 : decode cX2_init 9 = .ok (.invokespecial 11, 3) := by decide +kernel
theorem dX2_init_12 : decode cX2_init 12 = .ok (.putfield 12, 3) := by decide +kernel
theorem dX2_init_15 : decode cX2_init 15 = .ok (.aload_n 0, 1) := by decide +kernel
theorem dX2_init_16 : decode cX2_init 16 = .ok (.new 18, 3) := by decide +kernel
theorem dX2_init_19 : decode cX2_init 19 = .ok (.dup, 1) := by decide +kernel
theorem dX2_init_20 : decode cX2_init 20 = .ok (.invokespecial 20, 3) := by decide +kernel
theorem dX2_init_23 : decode cX2_init 23 = .ok (.putfield 21, 3) := by decide +kernel
theorem dX2_init_26 : decode cX2_init 26 = .ok (.aload_n 0, 1) := by decide +kernel
theorem dX2_init_27 : decode cX2_init 27 = .ok (.new 25, 3) := by decide +kernel
theorem dX2_init_30 : decode cX2_init 30 = .ok (.dup, 1) := by decide +kernel
theorem dX2_init_31 : decode cX2_init 31 = .ok (.invokespecial 27, 3) := by decide +kernel
theorem dX2_init_34 : decode cX2_init 34 = .ok (.putfield 28, 3) := by decide +kernel
theorem dX2_init_37 : decode cX2_init 37 = .ok (.aload_n 0, 1) := by decide +kernel
theorem dX2_init_38 : decode cX2_init 38 = .ok (.new 25, 3) := by decide +kernel
theorem dX2_init_41 : decode cX2_init 41 = .ok (.dup, 1) := by decide +kernel
theorem dX2_init_42 : decode cX2_init 42 = .ok (.invokespecial 27, 3) := by decide +kernel
theorem dX2_init_45 : decode cX2_init 45 = .ok (.putfield 32, 3) := by decide +kernel
theorem dX2_init_48 : decode cX2_init 48 = .ok (.aload_n 0, 1) := by decide +kernel
theorem dX2_init_49 : decode cX2_init 49 = .ok (.sipush 256, 3) := by decide +kernel
theorem dX2_init_52 : decode cX2_init 52 = .ok (.newarray .int, 2) := by decide +kernel
theorem dX2_init_54 : decode cX2_init 54 = .ok (.putfield 35, 3) := by decide +kernel
theorem dX2_init_57 : decode cX2_init 57 = .ok (.aload_n 0, 1) := by decide +kernel
theorem dX2_init_58 : decode cX2_init 58 = .ok (.iconst 1, 1) := by decide +kernel
theorem dX2_init_59 : decode cX2_init 59 = .ok (.putfield 39, 3) := by decide +kernel
theorem dX2_init_62 : decode cX2_init 62 = .ok (.return_, 1) := by decide +kernel
theorem dX2_makeReadyAt_0 : decode cX2_makeReadyAt 0 = .ok (.aload_n 0, 1) := by decide +kernel
theorem dX2_makeReadyAt_1 : decode cX2_makeReadyAt 1 = .ok (.iload_n 1, 1) := by decide +kernel
theorem dX2_makeReadyAt_2 : decode cX2_makeReadyAt 2 = .ok (.putfield 43, 3) := by decide +kernel
theorem dX2_makeReadyAt_5 : decode cX2_makeReadyAt 5 = .ok (.aload_n 0, 1) := by decide +kernel
theorem dX2_makeReadyAt_6 : decode cX2_makeReadyAt 6 = .ok (.iconst 0, 1) := by decide +kernel
theorem dX2_makeReadyAt_7 : decode cX2_makeReadyAt 7 = .ok (.putfield 39, 3) := by decide +kernel
theorem dX2_makeReadyAt_10 : decode cX2_makeReadyAt 10 = .ok (.return_, 1) := by decide +kernel
theorem dX2_executedCountAt_0 : decode cX2_executedCountAt 0 = .ok (.aload_n 0, 1) := by decide +kernel
theorem dX2_executedCountAt_1 : decode cX2_executedCountAt 1 = .ok (.getfield 35, 3) := by decide +kernel
theorem dX2_executedCountAt_4 : decode cX2_executedCountAt 4 = .ok (.iload_n 1, 1) := by decide +kernel
theorem dX2_executedCountAt_5 : decode cX2_executedCountAt 5 = .ok (.sipush 255, 3) := by decide +kernel
theorem dX2_executedCountAt_8 : decode cX2_executedCountAt 8 = .ok (.iand, 1) := by decide +kernel
theorem dX2_executedCountAt_9 : decode cX2_executedCountAt 9 = .ok (.iaload, 1) := by decide +kernel
theorem dX2_executedCountAt_10 : decode cX2_executedCountAt 10 = .ok (.ireturn, 1) := by decide +kernel
theorem dX2_executeUpTo_0 : decode cX2_executeUpTo 0 = .ok (.aload_n 0, 1) := by decide +kernel
theorem dX2_executeUpTo_1 : decode cX2_executeUpTo 1 = .ok (.getfield 46, 3) := by decide +kernel
theorem dX2_executeUpTo_4 : decode cX2_executeUpTo 4 = .ok (.istore_n 2, 1) := by decide +kernel
theorem dX2_executeUpTo_5 : decode cX2_executeUpTo 5 = .ok (.iconst 0, 1) := by decide +kernel
theorem dX2_executeUpTo_6 : decode cX2_executeUpTo 6 = .ok (.istore_n 3, 1) := by decide +kernel
theorem dX2_executeUpTo_7 : decode cX2_executeUpTo 7 = .ok (.iload_n 3, 1) := by decide +kernel
theorem dX2_executeUpTo_8 : decode cX2_executeUpTo 8 = .ok (.iload_n 1, 1) := by decide +kernel
theorem dX2_executeUpTo_9 : decode cX2_executeUpTo 9 = .ok (.if_icmp .ge 20, 3) := by decide +kernel
theorem dX2_executeUpTo_12 : decode cX2_executeUpTo 12 = .ok (.aload_n 0, 1) := by decide +kernel
theorem dX2_executeUpTo_13 : decode cX2_executeUpTo 13 = .ok (.getfield 39, 3) := by decide +kernel
theorem dX2_executeUpTo_16 : decode cX2_executeUpTo 16 = .ok (.ifCond .ne 13, 3) := by decide +kernel
theorem dX2_executeUpTo_19 : decode cX2_executeUpTo 19 = .ok (.aload_n 0, 1) := by decide +kernel
theorem dX2_executeUpTo_20 : decode cX2_executeUpTo 20 = .ok (.invokevirtual 49, 3) := by decide +kernel
theorem dX2_executeUpTo_23 : decode cX2_executeUpTo 23 = .ok (.iinc 3 1, 3) := by decide +kernel
theorem dX2_executeUpTo_26 : decode cX2_executeUpTo 26 = .ok (.goto (-19), 3) := by decide +kernel
theorem dX2_executeUpTo_29 : decode cX2_executeUpTo 29 = .ok (.aload_n 0, 1) := by decide +kernel
theorem dX2_executeUpTo_30 : decode cX2_executeUpTo 30 = .ok (.getfield 46, 3) := by decide +kernel
theorem dX2_executeUpTo_33 : decode cX2_executeUpTo 33 = .ok (.iload_n 2, 1) := by decide +kernel
theorem dX2_executeUpTo_34 : decode cX2_executeUpTo 34 = .ok (.isub, 1) := by decide +kernel
theorem dX2_executeUpTo_35 : decode cX2_executeUpTo 35 = .ok (.ireturn, 1) := by decide +kernel
theorem dX2_executeNext_0 : decode cX2_executeNext 0 = .ok (.aload_n 0, 1) := by decide +kernel
theorem dX2_executeNext_1 : decode cX2_executeNext 1 = .ok (.aload_n 0, 1) := by decide +kernel
theorem dX2_executeNext_2 : decode cX2_executeNext 2 = .ok (.getfield 43, 3) := by decide +kernel
theorem dX2_executeNext_5 : decode cX2_executeNext 5 = .ok (.invokevirtual 52, 3) := by decide +kernel
theorem dX2_executeNext_8 : decode cX2_executeNext 8 = .ok (.aload_n 0, 1) := by decide +kernel
theorem dX2_executeNext_9 : decode cX2_executeNext 9 = .ok (.getfield 12, 3) := by decide +kernel
theorem dX2_executeNext_12 : decode cX2_executeNext 12 = .ok (.aload_n 0, 1) := by decide +kernel
theorem dX2_executeNext_13 : decode cX2_executeNext 13 = .ok (.getfield 43, 3) := by decide +kernel
theorem dX2_executeNext_16 : decode cX2_executeNext 16 = .ok (.invokevirtual 56, 3) := by decide +kernel
theorem dX2_executeNext_19 : decode cX2_executeNext 19 = .ok (.istore_n 1, 1) := by decide +kernel
theorem dX2_executeNext_20 : decode cX2_executeNext 20 = .ok (.aload_n 0, 1) := by decide +kernel
theorem dX2_executeNext_21 : decode cX2_executeNext 21 = .ok (.iconst 1, 1) := by decide +kernel
theorem dX2_executeNext_22 : decode cX2_executeNext 22 = .ok (.invokevirtual 60, 3) := by decide +kernel
theorem dX2_executeNext_25 : decode cX2_executeNext 25 = .ok (.iload_n 1, 1) := by decide +kernel
theorem dX2_executeNext_26 : decode cX2_executeNext 26 = .ok (.invokestatic 63, 3) := by decide +kernel
theorem dX2_executeNext_29 : decode cX2_executeNext 29 = .ok (.istore_n 2, 1) := by decide +kernel
theorem dX2_executeNext_30 : decode cX2_executeNext 30 = .ok (.iload_n 2, 1) := by decide +kernel
theorem dX2_executeNext_31 : decode cX2_executeNext 31 = .ok (.bipush 13, 2) := by decide +kernel
theorem dX2_executeNext_33 : decode cX2_executeNext 33 = .ok (.if_icmp .ne 19, 3) := by decide +kernel
theorem dX2_executeNext_36 : decode cX2_executeNext 36 = .ok (.aload_n 0, 1) := by decide +kernel
theorem dX2_executeNext_37 : decode cX2_executeNext 37 = .ok (.getfield 28, 3) := by decide +kernel
theorem dX2_executeNext_40 : decode cX2_executeNext 40 = .ok (.getfield 68, 3) := by decide +kernel
theorem dX2_executeNext_43 : decode cX2_executeNext 43 = .ok (.ifCond .ne 9, 3) := by decide +kernel
theorem dX2_executeNext_46 : decode cX2_executeNext 46 = .ok (.aload_n 0, 1) := by decide +kernel
theorem dX2_executeNext_47 : decode cX2_executeNext 47 = .ok (.iconst 2, 1) := by decide +kernel
theorem dX2_executeNext_48 : decode cX2_executeNext 48 = .ok (.putfield 39, 3) := by decide +kernel
theorem dX2_executeNext_51 : decode cX2_executeNext 51 = .ok (.return_, 1) := by decide +kernel
theorem dX2_executeNext_52 : decode cX2_executeNext 52 = .ok (.iload_n 2, 1) := by decide +kernel
theorem dX2_executeNext_53 : decode cX2_executeNext 53 = .ok (.bipush 14, 2) := by decide +kernel
theorem dX2_executeNext_55 : decode cX2_executeNext 55 = .ok (.if_icmp .ne 19, 3) := by decide +kernel
theorem dX2_executeNext_58 : decode cX2_executeNext 58 = .ok (.aload_n 0, 1) := by decide +kernel
theorem dX2_executeNext_59 : decode cX2_executeNext 59 = .ok (.getfield 32, 3) := by decide +kernel
theorem dX2_executeNext_62 : decode cX2_executeNext 62 = .ok (.invokevirtual 71, 3) := by decide +kernel
theorem dX2_executeNext_65 : decode cX2_executeNext 65 = .ok (.ifCond .eq 9, 3) := by decide +kernel
theorem dX2_executeNext_68 : decode cX2_executeNext 68 = .ok (.aload_n 0, 1) := by decide +kernel
theorem dX2_executeNext_69 : decode cX2_executeNext 69 = .ok (.iconst 3, 1) := by decide +kernel
theorem dX2_executeNext_70 : decode cX2_executeNext 70 = .ok (.putfield 39, 3) := by decide +kernel
theorem dX2_executeNext_73 : decode cX2_executeNext 73 = .ok (.return_, 1) := by decide +kernel
theorem dX2_executeNext_74 : decode cX2_executeNext 74 = .ok (.iload_n 1, 1) := by decide +kernel
theorem dX2_executeNext_75 : decode cX2_executeNext 75 = .ok (.invokestatic 75, 3) := by decide +kernel
theorem dX2_executeNext_78 : decode cX2_executeNext 78 = .ok (.istore_n 3, 1) := by decide +kernel
theorem dX2_executeNext_79 : decode cX2_executeNext 79 = .ok (.iload_n 2, 1) := by decide +kernel
theorem dX2_executeNext_80 : decode cX2_executeNext 80 = .ok (.invokestatic 78, 3) := by decide +kernel
theorem dX2_executeNext_83 : decode cX2_executeNext 83 = .ok (.ifCond .eq 8, 3) := by decide +kernel
theorem dX2_executeNext_86 : decode cX2_executeNext 86 = .ok (.aload_n 0, 1) := by decide +kernel
theorem dX2_executeNext_87 : decode cX2_executeNext 87 = .ok (.iload_n 3, 1) := by decide +kernel
theorem dX2_executeNext_88 : decode cX2_executeNext 88 = .ok (.invokevirtual 52, 3) := by decide +kernel
theorem dX2_executeNext_91 : decode cX2_executeNext 91 = .ok (.aload_n 0, 1) := by decide +kernel
theorem dX2_executeNext_92 : decode cX2_executeNext 92 = .ok (.iload_n 2, 1) := by decide +kernel
theorem dX2_executeNext_93 : decode cX2_executeNext 93 = .ok (.invokevirtual 82, 3) := by decide +kernel
theorem dX2_executeNext_96 : decode cX2_executeNext 96 = .ok (.istore 4, 2) := by decide +kernel
theorem dX2_executeNext_98 : decode cX2_executeNext 98 = .ok (.aload_n 0, 1) := by decide +kernel
theorem dX2_executeNext_99 : decode cX2_executeNext 99 = .ok (.iload_n 2, 1) := by decide +kernel
theorem dX2_executeNext_100 : decode cX2_executeNext 100 = .ok (.iload_n 3, 1) := by decide +kernel
theorem dX2_executeNext_101 : decode cX2_executeNext 101 = .ok (.invokevirtual 85, 3) := by decide +kernel
theorem dX2_executeNext_104 : decode cX2_executeNext 104 = .ok (.iload_n 2, 1) := by decide +kernel
theorem dX2_executeNext_105 : decode cX2_executeNext 105 = .ok (.bipush 15, 2) := by decide +kernel
theorem dX2_executeNext_107 : decode cX2_executeNext 107 = .ok (.if_icmp .ne 29, 3) := by decide +kernel
theorem dX2_executeNext_110 : decode cX2_executeNext 110 = .ok (.aload_n 0, 1) := by decide +kernel
theorem dX2_executeNext_111 : decode cX2_executeNext 111 = .ok (.bipush 32, 2) := by decide +kernel
theorem dX2_executeNext_113 : decode cX2_executeNext 113 = .ok (.invokevirtual 60, 3) := by decide +kernel
theorem dX2_executeNext_116 : decode cX2_executeNext 116 = .ok (.aload_n 0, 1) := by decide +kernel
theorem dX2_executeNext_117 : decode cX2_executeNext 117 = .ok (.getfield 12, 3) := by decide +kernel
theorem dX2_executeNext_120 : decode cX2_executeNext 120 = .ok (.iload_n 3, 1) := by decide +kernel
theorem dX2_executeNext_121 : decode cX2_executeNext 121 = .ok (.aload_n 0, 1) := by decide +kernel
theorem dX2_executeNext_122 : decode cX2_executeNext 122 = .ok (.getfield 89, 3) := by decide +kernel
theorem dX2_executeNext_125 : decode cX2_executeNext 125 = .ok (.invokevirtual 92, 3) := by decide +kernel
theorem dX2_executeNext_128 : decode cX2_executeNext 128 = .ok (.aload_n 0, 1) := by decide +kernel
theorem dX2_executeNext_129 : decode cX2_executeNext 129 = .ok (.iconst 1, 1) := by decide +kernel
theorem dX2_executeNext_130 : decode cX2_executeNext 130 = .ok (.invokevirtual 60, 3) := by decide +kernel
theorem dX2_executeNext_133 : decode cX2_executeNext 133 = .ok (.goto 11, 3) := by decide +kernel
theorem dX2_executeNext_136 : decode cX2_executeNext 136 = .ok (.aload_n 0, 1) := by decide +kernel
theorem dX2_executeNext_137 : decode cX2_executeNext 137 = .ok (.iload_n 1, 1) := by decide +kernel
theorem dX2_executeNext_138 : decode cX2_executeNext 138 = .ok (.invokestatic 95, 3) := by decide +kernel
theorem dX2_executeNext_141 : decode cX2_executeNext 141 = .ok (.invokevirtual 60, 3) := by decide +kernel
theorem dX2_executeNext_144 : decode cX2_executeNext 144 = .ok (.aload_n 0, 1) := by decide +kernel
theorem dX2_executeNext_145 : decode cX2_executeNext 145 = .ok (.dup, 1) := by decide +kernel
theorem dX2_executeNext_146 : decode cX2_executeNext 146 = .ok (.getfield 46, 3) := by decide +kernel
theorem dX2_executeNext_149 : decode cX2_executeNext 149 = .ok (.iconst 1, 1) := by decide +kernel
theorem dX2_executeNext_150 : decode cX2_executeNext 150 = .ok (.iadd, 1) := by decide +kernel
theorem dX2_executeNext_151 : decode cX2_executeNext 151 = .ok (.putfield 46, 3) := by decide +kernel
theorem dX2_executeNext_154 : decode cX2_executeNext 154 = .ok (.aload_n 0, 1) := by decide +kernel
theorem dX2_executeNext_155 : decode cX2_executeNext 155 = .ok (.getfield 35, 3) := by decide +kernel
theorem dX2_executeNext_158 : decode cX2_executeNext 158 = .ok (.aload_n 0, 1) := by decide +kernel
theorem dX2_executeNext_159 : decode cX2_executeNext 159 = .ok (.getfield 43, 3) := by decide +kernel
theorem dX2_executeNext_162 : decode cX2_executeNext 162 = .ok (.sipush 255, 3) := by decide +kernel
theorem dX2_executeNext_165 : decode cX2_executeNext 165 = .ok (.iand, 1) := by decide +kernel
theorem dX2_executeNext_166 : decode cX2_executeNext 166 = .ok (.dup2, 1) := by decide +kernel
theorem dX2_executeNext_167 : decode cX2_executeNext 167 = .ok (.iaload, 1) := by decide +kernel
theorem dX2_executeNext_168 : decode cX2_executeNext 168 = .ok (.iconst 1, 1) := by decide +kernel
theorem dX2_executeNext_169 : decode cX2_executeNext 169 = .ok (.iadd, 1) := by decide +kernel
theorem dX2_executeNext_170 : decode cX2_executeNext 170 = .ok (.iastore, 1) := by decide +kernel
theorem dX2_executeNext_171 : decode cX2_executeNext 171 = .ok (.aload_n 0, 1) := by decide +kernel
theorem dX2_executeNext_172 : decode cX2_executeNext 172 = .ok (.iload 4, 2) := by decide +kernel
theorem dX2_executeNext_174 : decode cX2_executeNext 174 = .ok (.ifCond .eq 7, 3) := by decide +kernel
theorem dX2_executeNext_177 : decode cX2_executeNext 177 = .ok (.iload_n 3, 1) := by decide +kernel
theorem dX2_executeNext_178 : decode cX2_executeNext 178 = .ok (.goto 7, 3) := by decide +kernel
theorem dX2_executeNext_181 : decode cX2_executeNext 181 = .ok (.iload_n 1, 1) := by decide +kernel
theorem dX2_executeNext_182 : decode cX2_executeNext 182 = .ok (.invokestatic 98, 3) := by decide +kernel
theorem dX2_executeNext_185 : decode cX2_executeNext 185 = .ok (.putfield 43, 3) := by decide +kernel
theorem dX2_executeNext_188 : decode cX2_executeNext 188 = .ok (.return_, 1) := by decide +kernel
theorem dX2_isJumpTaken_0 : decode cX2_isJumpTaken 0 = .ok (.iload_n 1, 1) := by decide +kernel
theorem dX2_isJumpTaken_1 : decode cX2_isJumpTaken 1 = .ok (.tableswitch 58 10 12 #[27, 40, 53], 27) := by decide +kernel
theorem dX2_isJumpTaken_28 : decode cX2_isJumpTaken 28 = .ok (.aload_n 0, 1) := by decide +kernel
theorem dX2_isJumpTaken_29 : decode cX2_isJumpTaken 29 = .ok (.getfield 89, 3) := by decide +kernel
theorem dX2_isJumpTaken_32 : decode cX2_isJumpTaken 32 = .ok (.ifCond .ge 7, 3) := by decide +kernel
theorem dX2_isJumpTaken_35 : decode cX2_isJumpTaken 35 = .ok (.iconst 1, 1) := by decide +kernel
theorem dX2_isJumpTaken_36 : decode cX2_isJumpTaken 36 = .ok (.goto 4, 3) := by decide +kernel
theorem dX2_isJumpTaken_39 : decode cX2_isJumpTaken 39 = .ok (.iconst 0, 1) := by decide +kernel
theorem dX2_isJumpTaken_40 : decode cX2_isJumpTaken 40 = .ok (.ireturn, 1) := by decide +kernel
theorem dX2_isJumpTaken_41 : decode cX2_isJumpTaken 41 = .ok (.aload_n 0, 1) := by decide +kernel
theorem dX2_isJumpTaken_42 : decode cX2_isJumpTaken 42 = .ok (.getfield 89, 3) := by decide +kernel
theorem dX2_isJumpTaken_45 : decode cX2_isJumpTaken 45 = .ok (.ifCond .ne 7, 3) := by decide +kernel
theorem dX2_isJumpTaken_48 : decode cX2_isJumpTaken 48 = .ok (.iconst 1, 1) := by decide +kernel
theorem dX2_isJumpTaken_49 : decode cX2_isJumpTaken 49 = .ok (.goto 4, 3) := by decide +kernel
theorem dX2_isJumpTaken_52 : decode cX2_isJumpTaken 52 = .ok (.iconst 0, 1) := by decide +kernel
theorem dX2_isJumpTaken_53 : decode cX2_isJumpTaken 53 = .ok (.ireturn, 1) := by decide +kernel
theorem dX2_isJumpTaken_54 : decode cX2_isJumpTaken 54 = .ok (.aload_n 0, 1) := by decide +kernel
theorem dX2_isJumpTaken_55 : decode cX2_isJumpTaken 55 = .ok (.getfield 101, 3) := by decide +kernel
theorem dX2_isJumpTaken_58 : decode cX2_isJumpTaken 58 = .ok (.ireturn, 1) := by decide +kernel
theorem dX2_isJumpTaken_59 : decode cX2_isJumpTaken 59 = .ok (.iconst 0, 1) := by decide +kernel
theorem dX2_isJumpTaken_60 : decode cX2_isJumpTaken 60 = .ok (.ireturn, 1) := by decide +kernel
theorem dX2_perform_0 : decode cX2_perform 0 = .ok (.iload_n 1, 1) := by decide +kernel
theorem dX2_perform_1 : decode cX2_perform 1 = .ok (.tableswitch 170 0 14 #[75, 170, 83, 170, 170, 170, 170, 170, 98, 118, 170, 170, 134, 142, 156], 75) := by decide +kernel
theorem dX2_perform_76 : decode cX2_perform 76 = .ok (.aload_n 0, 1) := by decide +kernel
theorem dX2_perform_77 : decode cX2_perform 77 = .ok (.iconst 1, 1) := by decide +kernel
theorem dX2_perform_78 : decode cX2_perform 78 = .ok (.putfield 39, 3) := by decide +kernel
theorem dX2_perform_81 : decode cX2_perform 81 = .ok (.goto 103, 3) := by decide +kernel
theorem dX2_perform_84 : decode cX2_perform 84 = .ok (.aload_n 0, 1) := by decide +kernel
theorem dX2_perform_85 : decode cX2_perform 85 = .ok (.getfield 12, 3) := by decide +kernel
theorem dX2_perform_88 : decode cX2_perform 88 = .ok (.iload_n 2, 1) := by decide +kernel
theorem dX2_perform_89 : decode cX2_perform 89 = .ok (.aload_n 0, 1) := by decide +kernel
theorem dX2_perform_90 : decode cX2_perform 90 = .ok (.getfield 89, 3) := by decide +kernel
theorem dX2_perform_93 : decode cX2_perform 93 = .ok (.invokevirtual 92, 3) := by decide +kernel
theorem dX2_perform_96 : decode cX2_perform 96 = .ok (.goto 88, 3) := by decide +kernel
theorem dX2_perform_99 : decode cX2_perform 99 = .ok (.aload_n 0, 1) := by decide +kernel
theorem dX2_perform_100 : decode cX2_perform 100 = .ok (.aload_n 0, 1) := by decide +kernel
theorem dX2_perform_101 : decode cX2_perform 101 = .ok (.getfield 89, 3) := by decide +kernel
theorem dX2_perform_104 : decode cX2_perform 104 = .ok (.i2l, 1) := by decide +kernel
theorem dX2_perform_105 : decode cX2_perform 105 = .ok (.iload_n 2, 1) := by decide +kernel
theorem dX2_perform_106 : decode cX2_perform 106 = .ok (.invokestatic 105, 3) := by decide +kernel
theorem dX2_perform_109 : decode cX2_perform 109 = .ok (.lshl, 1) := by decide +kernel
theorem dX2_perform_110 : decode cX2_perform 110 = .ok (.invokestatic 108, 3) := by decide +kernel
theorem dX2_perform_113 : decode cX2_perform 113 = .ok (.putfield 89, 3) := by decide +kernel
theorem dX2_perform_116 : decode cX2_perform 116 = .ok (.goto 68, 3) := by decide +kernel
theorem dX2_perform_119 : decode cX2_perform 119 = .ok (.aload_n 0, 1) := by decide +kernel
theorem dX2_perform_120 : decode cX2_perform 120 = .ok (.aload_n 0, 1) := by decide +kernel
theorem dX2_perform_121 : decode cX2_perform 121 = .ok (.getfield 89, 3) := by decide +kernel
theorem dX2_perform_124 : decode cX2_perform 124 = .ok (.iload_n 2, 1) := by decide +kernel
theorem dX2_perform_125 : decode cX2_perform 125 = .ok (.invokestatic 105, 3) := by decide +kernel
theorem dX2_perform_128 : decode cX2_perform 128 = .ok (.ishr, 1) := by decide +kernel
theorem dX2_perform_129 : decode cX2_perform 129 = .ok (.putfield 89, 3) := by decide +kernel
theorem dX2_perform_132 : decode cX2_perform 132 = .ok (.goto 52, 3) := by decide +kernel
theorem dX2_perform_135 : decode cX2_perform 135 = .ok (.aload_n 0, 1) := by decide +kernel
theorem dX2_perform_136 : decode cX2_perform 136 = .ok (.iconst 0, 1) := by decide +kernel
theorem dX2_perform_137 : decode cX2_perform 137 = .ok (.putfield 101, 3) := by decide +kernel
theorem dX2_perform_140 : decode cX2_perform 140 = .ok (.goto 44, 3) := by decide +kernel
theorem dX2_perform_143 : decode cX2_perform 143 = .ok (.aload_n 0, 1) := by decide +kernel
theorem dX2_perform_144 : decode cX2_perform 144 = .ok (.aload_n 0, 1) := by decide +kernel
theorem dX2_perform_145 : decode cX2_perform 145 = .ok (.getfield 28, 3) := by decide +kernel
theorem dX2_perform_148 : decode cX2_perform 148 = .ok (.invokevirtual 112, 3) := by decide +kernel
theorem dX2_perform_151 : decode cX2_perform 151 = .ok (.putfield 89, 3) := by decide +kernel
theorem dX2_perform_154 : decode cX2_perform 154 = .ok (.goto 30, 3) := by decide +kernel
theorem dX2_perform_157 : decode cX2_perform 157 = .ok (.aload_n 0, 1) := by decide +kernel
theorem dX2_perform_158 : decode cX2_perform 158 = .ok (.getfield 32, 3) := by decide +kernel
theorem dX2_perform_161 : decode cX2_perform 161 = .ok (.aload_n 0, 1) := by decide +kernel
theorem dX2_perform_162 : decode cX2_perform 162 = .ok (.getfield 89, 3) := by decide +kernel
theorem dX2_perform_165 : decode cX2_perform 165 = .ok (.invokevirtual 116, 3) := by decide +kernel
theorem dX2_perform_168 : decode cX2_perform 168 = .ok (.goto 16, 3) := by decide +kernel
theorem dX2_perform_171 : decode cX2_perform 171 = .ok (.aload_n 0, 1) := by decide +kernel
theorem dX2_perform_172 : decode cX2_perform 172 = .ok (.iload_n 1, 1) := by decide +kernel
theorem dX2_perform_173 : decode cX2_perform 173 = .ok (.aload_n 0, 1) := by decide +kernel
theorem dX2_perform_174 : decode cX2_perform 174 = .ok (.getfield 12, 3) := by decide +kernel
theorem dX2_perform_177 : decode cX2_perform 177 = .ok (.iload_n 2, 1) := by decide +kernel
theorem dX2_perform_178 : decode cX2_perform 178 = .ok (.invokevirtual 56, 3) := by decide +kernel
theorem dX2_perform_181 : decode cX2_perform 181 = .ok (.invokevirtual 119, 3) := by decide +kernel
theorem dX2_perform_184 : decode cX2_perform 184 = .ok (.return_, 1) := by decide +kernel
theorem dX2_combine_0 : decode cX2_combine 0 = .ok (.iload_n 1, 1) := by decide +kernel
theorem dX2_combine_1 : decode cX2_combine 1 = .ok (.tableswitch 168 1 15 #[75, 168, 83, 98, 113, 126, 139, 168, 168, 168, 168, 168, 168, 168, 154], 75) := by decide +kernel
theorem dX2_combine_76 : decode cX2_combine 76 = .ok (.aload_n 0, 1) := by decide +kernel
theorem dX2_combine_77 : decode cX2_combine 77 = .ok (.iload_n 2, 1) := by decide +kernel
theorem dX2_combine_78 : decode cX2_combine 78 = .ok (.putfield 89, 3) := by decide +kernel
theorem dX2_combine_81 : decode cX2_combine 81 = .ok (.goto 88, 3) := by decide +kernel
theorem dX2_combine_84 : decode cX2_combine 84 = .ok (.aload_n 0, 1) := by decide +kernel
theorem dX2_combine_85 : decode cX2_combine 85 = .ok (.aload_n 0, 1) := by decide +kernel
theorem dX2_combine_86 : decode cX2_combine 86 = .ok (.getfield 89, 3) := by decide +kernel
theorem dX2_combine_89 : decode cX2_combine 89 = .ok (.i2l, 1) := by decide +kernel
theorem dX2_combine_90 : decode cX2_combine 90 = .ok (.iload_n 2, 1) := by decide +kernel
theorem dX2_combine_91 : decode cX2_combine 91 = .ok (.i2l, 1) := by decide +kernel
theorem dX2_combine_92 : decode cX2_combine 92 = .ok (.ladd, 1) := by decide +kernel
theorem dX2_combine_93 : decode cX2_combine 93 = .ok (.invokevirtual 122, 3) := by decide +kernel
theorem dX2_combine_96 : decode cX2_combine 96 = .ok (.goto 73, 3) := by decide +kernel
theorem dX2_combine_99 : decode cX2_combine 99 = .ok (.aload_n 0, 1) := by decide +kernel
theorem dX2_combine_100 : decode cX2_combine 100 = .ok (.aload_n 0, 1) := by decide +kernel
theorem dX2_combine_101 : decode cX2_combine 101 = .ok (.getfield 89, 3) := by decide +kernel
theorem dX2_combine_104 : decode cX2_combine 104 = .ok (.i2l, 1) := by decide +kernel
theorem dX2_combine_105 : decode cX2_combine 105 = .ok (.iload_n 2, 1) := by decide +kernel
theorem dX2_combine_106 : decode cX2_combine 106 = .ok (.i2l, 1) := by decide +kernel
theorem dX2_combine_107 : decode cX2_combine 107 = .ok (.lsub, 1) := by decide +kernel
theorem dX2_combine_108 : decode cX2_combine 108 = .ok (.invokevirtual 122, 3) := by decide +kernel
theorem dX2_combine_111 : decode cX2_combine 111 = .ok (.goto 58, 3) := by decide +kernel
theorem dX2_combine_114 : decode cX2_combine 114 = .ok (.aload_n 0, 1) := by decide +kernel
theorem dX2_combine_115 : decode cX2_combine 115 = .ok (.dup, 1) := by decide +kernel
theorem dX2_combine_116 : decode cX2_combine 116 = .ok (.getfield 89, 3) := by decide +kernel
theorem dX2_combine_119 : decode cX2_combine 119 = .ok (.iload_n 2, 1) := by decide +kernel
theorem dX2_combine_120 : decode cX2_combine 120 = .ok (.iand, 1) := by decide +kernel
theorem dX2_combine_121 : decode cX2_combine 121 = .ok (.putfield 89, 3) := by decide +kernel
theorem dX2_combine_124 : decode cX2_combine 124 = .ok (.goto 45, 3) := by decide +kernel
theorem dX2_combine_127 : decode cX2_combine 127 = .ok (.aload_n 0, 1) := by decide +kernel
theorem dX2_combine_128 : decode cX2_combine 128 = .ok (.dup, 1) := by decide +kernel
theorem dX2_combine_129 : decode cX2_combine 129 = .ok (.getfield 89, 3) := by decide +kernel
theorem dX2_combine_132 : decode cX2_combine 132 = .ok (.iload_n 2, 1) := by decide +kernel
theorem dX2_combine_133 : decode cX2_combine 133 = .ok (.ixor, 1) := by decide +kernel
theorem dX2_combine_134 : decode cX2_combine 134 = .ok (.putfield 89, 3) := by decide +kernel
theorem dX2_combine_137 : decode cX2_combine 137 = .ok (.goto 32, 3) := by decide +kernel
theorem dX2_combine_140 : decode cX2_combine 140 = .ok (.aload_n 0, 1) := by decide +kernel
theorem dX2_combine_141 : decode cX2_combine 141 = .ok (.aload_n 0, 1) := by decide +kernel
theorem dX2_combine_142 : decode cX2_combine 142 = .ok (.getfield 89, 3) := by decide +kernel
theorem dX2_combine_145 : decode cX2_combine 145 = .ok (.i2l, 1) := by decide +kernel
theorem dX2_combine_146 : decode cX2_combine 146 = .ok (.iload_n 2, 1) := by decide +kernel
theorem dX2_combine_147 : decode cX2_combine 147 = .ok (.i2l, 1) := by decide +kernel
theorem dX2_combine_148 : decode cX2_combine 148 = .ok (.lmul, 1) := by decide +kernel
theorem dX2_combine_149 : decode cX2_combine 149 = .ok (.invokevirtual 122, 3) := by decide +kernel
theorem dX2_combine_152 : decode cX2_combine 152 = .ok (.goto 17, 3) := by decide +kernel
theorem dX2_combine_155 : decode cX2_combine 155 = .ok (.aload_n 0, 1) := by decide +kernel
theorem dX2_combine_156 : decode cX2_combine 156 = .ok (.iload_n 2, 1) := by decide +kernel
theorem dX2_combine_157 : decode cX2_combine 157 = .ok (.i2l, 1) := by decide +kernel
theorem dX2_combine_158 : decode cX2_combine 158 = .ok (.lconst 1, 1) := by decide +kernel
theorem dX2_combine_159 : decode cX2_combine 159 = .ok (.lsub, 1) := by decide +kernel
theorem dX2_combine_160 : decode cX2_combine 160 = .ok (.invokestatic 108, 3) := by decide +kernel
theorem dX2_combine_163 : decode cX2_combine 163 = .ok (.putfield 89, 3) := by decide +kernel
theorem dX2_combine_166 : decode cX2_combine 166 = .ok (.goto 3, 3) := by decide +kernel
theorem dX2_combine_169 : decode cX2_combine 169 = .ok (.return_, 1) := by decide +kernel
theorem dX2_putResult_0 : decode cX2_putResult 0 = .ok (.aload_n 0, 1) := by decide +kernel
theorem dX2_putResult_1 : decode cX2_putResult 1 = .ok (.lload_n 1, 1) := by decide +kernel
theorem dX2_putResult_2 : decode cX2_putResult 2 = .ok (.invokestatic 108, 3) := by decide +kernel
theorem dX2_putResult_5 : decode cX2_putResult 5 = .ok (.putfield 89, 3) := by decide +kernel
theorem dX2_putResult_8 : decode cX2_putResult 8 = .ok (.aload_n 0, 1) := by decide +kernel
theorem dX2_putResult_9 : decode cX2_putResult 9 = .ok (.getfield 89, 3) := by decide +kernel
theorem dX2_putResult_12 : decode cX2_putResult 12 = .ok (.i2l, 1) := by decide +kernel
theorem dX2_putResult_13 : decode cX2_putResult 13 = .ok (.lload_n 1, 1) := by decide +kernel
theorem dX2_putResult_14 : decode cX2_putResult 14 = .ok (.lcmp, 1) := by decide +kernel
theorem dX2_putResult_15 : decode cX2_putResult 15 = .ok (.ifCond .eq 8, 3) := by decide +kernel
theorem dX2_putResult_18 : decode cX2_putResult 18 = .ok (.aload_n 0, 1) := by decide +kernel
theorem dX2_putResult_19 : decode cX2_putResult 19 = .ok (.iconst 1, 1) := by decide +kernel
theorem dX2_putResult_20 : decode cX2_putResult 20 = .ok (.putfield 101, 3) := by decide +kernel
theorem dX2_putResult_23 : decode cX2_putResult 23 = .ok (.return_, 1) := by decide +kernel
theorem dX2_awaitCycle_0 : decode cX2_awaitCycle 0 = .ok (.iload_n 1, 1) := by decide +kernel
theorem dX2_awaitCycle_1 : decode cX2_awaitCycle 1 = .ok (.aload_n 0, 1) := by decide +kernel
theorem dX2_awaitCycle_2 : decode cX2_awaitCycle 2 = .ok (.getfield 126, 3) := by decide +kernel
theorem dX2_awaitCycle_5 : decode cX2_awaitCycle 5 = .ok (.invokestatic 129, 3) := by decide +kernel
theorem dX2_awaitCycle_8 : decode cX2_awaitCycle 8 = .ok (.istore_n 2, 1) := by decide +kernel
theorem dX2_awaitCycle_9 : decode cX2_awaitCycle 9 = .ok (.aload_n 0, 1) := by decide +kernel
theorem dX2_awaitCycle_10 : decode cX2_awaitCycle 10 = .ok (.dup, 1) := by decide +kernel
theorem dX2_awaitCycle_11 : decode cX2_awaitCycle 11 = .ok (.getfield 133, 3) := by decide +kernel
theorem dX2_awaitCycle_14 : decode cX2_awaitCycle 14 = .ok (.iload_n 2, 1) := by decide +kernel
theorem dX2_awaitCycle_15 : decode cX2_awaitCycle 15 = .ok (.iadd, 1) := by decide +kernel
theorem dX2_awaitCycle_16 : decode cX2_awaitCycle 16 = .ok (.putfield 133, 3) := by decide +kernel
theorem dX2_awaitCycle_19 : decode cX2_awaitCycle 19 = .ok (.aload_n 0, 1) := by decide +kernel
theorem dX2_awaitCycle_20 : decode cX2_awaitCycle 20 = .ok (.iload_n 2, 1) := by decide +kernel
theorem dX2_awaitCycle_21 : decode cX2_awaitCycle 21 = .ok (.invokevirtual 60, 3) := by decide +kernel
theorem dX2_awaitCycle_24 : decode cX2_awaitCycle 24 = .ok (.return_, 1) := by decide +kernel
theorem dX2_pass_0 : decode cX2_pass 0 = .ok (.aload_n 0, 1) := by decide +kernel
theorem dX2_pass_1 : decode cX2_pass 1 = .ok (.getfield 126, 3) := by decide +kernel
theorem dX2_pass_4 : decode cX2_pass 4 = .ok (.iload_n 1, 1) := by decide +kernel
theorem dX2_pass_5 : decode cX2_pass 5 = .ok (.iadd, 1) := by decide +kernel
theorem dX2_pass_6 : decode cX2_pass 6 = .ok (.istore_n 2, 1) := by decide +kernel
theorem dX2_pass_7 : decode cX2_pass 7 = .ok (.aload_n 0, 1) := by decide +kernel
theorem dX2_pass_8 : decode cX2_pass 8 = .ok (.getfield 126, 3) := by decide +kernel
theorem dX2_pass_11 : decode cX2_pass 11 = .ok (.bipush 32, 2) := by decide +kernel
theorem dX2_pass_13 : decode cX2_pass 13 = .ok (.idiv, 1) := by decide +kernel
theorem dX2_pass_14 : decode cX2_pass 14 = .ok (.iconst 1, 1) := by decide +kernel
theorem dX2_pass_15 : decode cX2_pass 15 = .ok (.iadd, 1) := by decide +kernel
theorem dX2_pass_16 : decode cX2_pass 16 = .ok (.istore_n 3, 1) := by decide +kernel
theorem dX2_pass_17 : decode cX2_pass 17 = .ok (.iload_n 3, 1) := by decide +kernel
theorem dX2_pass_18 : decode cX2_pass 18 = .ok (.iload_n 2, 1) := by decide +kernel
theorem dX2_pass_19 : decode cX2_pass 19 = .ok (.bipush 32, 2) := by decide +kernel
theorem dX2_pass_21 : decode cX2_pass 21 = .ok (.idiv, 1) := by decide +kernel
theorem dX2_pass_22 : decode cX2_pass 22 = .ok (.if_icmp .gt 14, 3) := by decide +kernel
theorem dX2_pass_25 : decode cX2_pass 25 = .ok (.aload_n 0, 1) := by decide +kernel
theorem dX2_pass_26 : decode cX2_pass 26 = .ok (.iload_n 3, 1) := by decide +kernel
theorem dX2_pass_27 : decode cX2_pass 27 = .ok (.invokevirtual 136, 3) := by decide +kernel
theorem dX2_pass_30 : decode cX2_pass 30 = .ok (.iinc 3 1, 3) := by decide +kernel
theorem dX2_pass_33 : decode cX2_pass 33 = .ok (.goto (-16), 3) := by decide +kernel
theorem dX2_pass_36 : decode cX2_pass 36 = .ok (.aload_n 0, 1) := by decide +kernel
theorem dX2_pass_37 : decode cX2_pass 37 = .ok (.iload_n 2, 1) := by decide +kernel
theorem dX2_pass_38 : decode cX2_pass 38 = .ok (.putfield 126, 3) := by decide +kernel
theorem dX2_pass_41 : decode cX2_pass 41 = .ok (.return_, 1) := by decide +kernel
theorem dX2_endMajorCycle_0 : decode cX2_endMajorCycle 0 = .ok (.aload_n 0, 1) := by decide +kernel
theorem dX2_endMajorCycle_1 : decode cX2_endMajorCycle 1 = .ok (.getfield 21, 3) := by decide +kernel
theorem dX2_endMajorCycle_4 : decode cX2_endMajorCycle 4 = .ok (.invokevirtual 139, 3) := by decide +kernel
theorem dX2_endMajorCycle_7 : decode cX2_endMajorCycle 7 = .ok (.istore_n 2, 1) := by decide +kernel
theorem dX2_endMajorCycle_8 : decode cX2_endMajorCycle 8 = .ok (.iload_n 2, 1) := by decide +kernel
theorem dX2_endMajorCycle_9 : decode cX2_endMajorCycle 9 = .ok (.ifCond .gt 4, 3) := by decide +kernel
theorem dX2_endMajorCycle_12 : decode cX2_endMajorCycle 12 = .ok (.return_, 1) := by decide +kernel
theorem dX2_endMajorCycle_13 : decode cX2_endMajorCycle 13 = .ok (.iconst 0, 1) := by decide +kernel
theorem dX2_endMajorCycle_14 : decode cX2_endMajorCycle 14 = .ok (.istore_n 3, 1) := by decide +kernel
theorem dX2_endMajorCycle_15 : decode cX2_endMajorCycle 15 = .ok (.iload_n 3, 1) := by decide +kernel
theorem dX2_endMajorCycle_16 : decode cX2_endMajorCycle 16 = .ok (.bipush 8, 2) := by decide +kernel
theorem dX2_endMajorCycle_18 : decode cX2_endMajorCycle 18 = .ok (.if_icmp .ge 79, 3) := by decide +kernel
theorem dX2_endMajorCycle_21 : decode cX2_endMajorCycle 21 = .ok (.aload_n 0, 1) := by decide +kernel
theorem dX2_endMajorCycle_22 : decode cX2_endMajorCycle 22 = .ok (.getfield 21, 3) := by decide +kernel
theorem dX2_endMajorCycle_25 : decode cX2_endMajorCycle 25 = .ok (.iload_n 3, 1) := by decide +kernel
theorem dX2_endMajorCycle_26 : decode cX2_endMajorCycle 26 = .ok (.invokevirtual 142, 3) := by decide +kernel
theorem dX2_endMajorCycle_29 : decode cX2_endMajorCycle 29 = .ok (.iload_n 2, 1) := by decide +kernel
theorem dX2_endMajorCycle_30 : decode cX2_endMajorCycle 30 = .ok (.invokestatic 145, 3) := by decide +kernel
theorem dX2_endMajorCycle_33 : decode cX2_endMajorCycle 33 = .ok (.istore 4, 2) := by decide +kernel
theorem dX2_endMajorCycle_35 : decode cX2_endMajorCycle 35 = .ok (.iload 4, 2) := by decide +kernel
theorem dX2_endMajorCycle_37 : decode cX2_endMajorCycle 37 = .ok (.iload_n 2, 1) := by decide +kernel
theorem dX2_endMajorCycle_38 : decode cX2_endMajorCycle 38 = .ok (.iconst 2, 1) := by decide +kernel
theorem dX2_endMajorCycle_39 : decode cX2_endMajorCycle 39 = .ok (.idiv, 1) := by decide +kernel
theorem dX2_endMajorCycle_40 : decode cX2_endMajorCycle 40 = .ok (.iadd, 1) := by decide +kernel
theorem dX2_endMajorCycle_41 : decode cX2_endMajorCycle 41 = .ok (.iload_n 2, 1) := by decide +kernel
theorem dX2_endMajorCycle_42 : decode cX2_endMajorCycle 42 = .ok (.invokestatic 148, 3) := by decide +kernel
theorem dX2_endMajorCycle_45 : decode cX2_endMajorCycle 45 = .ok (.istore 5, 2) := by decide +kernel
theorem dX2_endMajorCycle_47 : decode cX2_endMajorCycle 47 = .ok (.aload_n 0, 1) := by decide +kernel
theorem dX2_endMajorCycle_48 : decode cX2_endMajorCycle 48 = .ok (.getfield 12, 3) := by decide +kernel
theorem dX2_endMajorCycle_51 : decode cX2_endMajorCycle 51 = .ok (.iload_n 3, 1) := by decide +kernel
theorem dX2_endMajorCycle_52 : decode cX2_endMajorCycle 52 = .ok (.iload 5, 2) := by decide +kernel
theorem dX2_endMajorCycle_54 : decode cX2_endMajorCycle 54 = .ok (.invokevirtual 153, 3) := by decide +kernel
theorem dX2_endMajorCycle_57 : decode cX2_endMajorCycle 57 = .ok (.iload 4, 2) := by decide +kernel
theorem dX2_endMajorCycle_59 : decode cX2_endMajorCycle 59 = .ok (.iload 5, 2) := by decide +kernel
theorem dX2_endMajorCycle_61 : decode cX2_endMajorCycle 61 = .ok (.iload_n 2, 1) := by decide +kernel
theorem dX2_endMajorCycle_62 : decode cX2_endMajorCycle 62 = .ok (.imul, 1) := by decide +kernel
theorem dX2_endMajorCycle_63 : decode cX2_endMajorCycle 63 = .ok (.isub, 1) := by decide +kernel
theorem dX2_endMajorCycle_64 : decode cX2_endMajorCycle 64 = .ok (.invokestatic 156, 3) := by decide +kernel
theorem dX2_endMajorCycle_67 : decode cX2_endMajorCycle 67 = .ok (.iload_n 2, 1) := by decide +kernel
theorem dX2_endMajorCycle_68 : decode cX2_endMajorCycle 68 = .ok (.iconst 4, 1) := by decide +kernel
theorem dX2_endMajorCycle_69 : decode cX2_endMajorCycle 69 = .ok (.idiv, 1) := by decide +kernel
theorem dX2_endMajorCycle_70 : decode cX2_endMajorCycle 70 = .ok (.if_icmp .le 21, 3) := by decide +kernel
theorem dX2_endMajorCycle_73 : decode cX2_endMajorCycle 73 = .ok (.aload_n 0, 1) := by decide +kernel
theorem dX2_endMajorCycle_74 : decode cX2_endMajorCycle 74 = .ok (.getfield 12, 3) := by decide +kernel
theorem dX2_endMajorCycle_77 : decode cX2_endMajorCycle 77 = .ok (.iload_n 3, 1) := by decide +kernel
theorem dX2_endMajorCycle_78 : decode cX2_endMajorCycle 78 = .ok (.bipush 7, 2) := by decide +kernel
theorem dX2_endMajorCycle_80 : decode cX2_endMajorCycle 80 = .ok (.iload_n 1, 1) := by decide +kernel
theorem dX2_endMajorCycle_81 : decode cX2_endMajorCycle 81 = .ok (.imul, 1) := by decide +kernel
theorem dX2_endMajorCycle_82 : decode cX2_endMajorCycle 82 = .ok (.iload_n 3, 1) := by decide +kernel
theorem dX2_endMajorCycle_83 : decode cX2_endMajorCycle 83 = .ok (.iadd, 1) := by decide +kernel
theorem dX2_endMajorCycle_84 : decode cX2_endMajorCycle 84 = .ok (.sipush 640, 3) := by decide +kernel
theorem dX2_endMajorCycle_87 : decode cX2_endMajorCycle 87 = .ok (.irem, 1) := by decide +kernel
theorem dX2_endMajorCycle_88 : decode cX2_endMajorCycle 88 = .ok (.invokevirtual 159, 3) := by decide +kernel
theorem dX2_endMajorCycle_91 : decode cX2_endMajorCycle 91 = .ok (.iinc 3 1, 3) := by decide +kernel
theorem dX2_endMajorCycle_94 : decode cX2_endMajorCycle 94 = .ok (.goto (-79), 3) := by decide +kernel
theorem dX2_endMajorCycle_97 : decode cX2_endMajorCycle 97 = .ok (.aload_n 0, 1) := by decide +kernel
theorem dX2_endMajorCycle_98 : decode cX2_endMajorCycle 98 = .ok (.getfield 21, 3) := by decide +kernel
theorem dX2_endMajorCycle_101 : decode cX2_endMajorCycle 101 = .ok (.invokevirtual 162, 3) := by decide +kernel
theorem dX2_endMajorCycle_104 : decode cX2_endMajorCycle 104 = .ok (.return_, 1) := by decide +kernel
theorem dX2_copyFrom_0 : decode cX2_copyFrom 0 = .ok (.aload_n 0, 1) := by decide +kernel
theorem dX2_copyFrom_1 : decode cX2_copyFrom 1 = .ok (.getfield 12, 3) := by decide +kernel
theorem dX2_copyFrom_4 : decode cX2_copyFrom 4 = .ok (.aload_n 1, 1) := by decide +kernel
theorem dX2_copyFrom_5 : decode cX2_copyFrom 5 = .ok (.getfield 12, 3) := by decide +kernel
theorem dX2_copyFrom_8 : decode cX2_copyFrom 8 = .ok (.invokevirtual 165, 3) := by decide +kernel
theorem dX2_copyFrom_11 : decode cX2_copyFrom 11 = .ok (.aload_n 0, 1) := by decide +kernel
theorem dX2_copyFrom_12 : decode cX2_copyFrom 12 = .ok (.getfield 21, 3) := by decide +kernel
theorem dX2_copyFrom_15 : decode cX2_copyFrom 15 = .ok (.aload_n 1, 1) := by decide +kernel
theorem dX2_copyFrom_16 : decode cX2_copyFrom 16 = .ok (.getfield 21, 3) := by decide +kernel
theorem dX2_copyFrom_19 : decode cX2_copyFrom 19 = .ok (.invokevirtual 169, 3) := by decide +kernel
theorem dX2_copyFrom_22 : decode cX2_copyFrom 22 = .ok (.aload_n 0, 1) := by decide +kernel
theorem dX2_copyFrom_23 : decode cX2_copyFrom 23 = .ok (.getfield 28, 3) := by decide +kernel
theorem dX2_copyFrom_26 : decode cX2_copyFrom 26 = .ok (.aload_n 1, 1) := by decide +kernel
theorem dX2_copyFrom_27 : decode cX2_copyFrom 27 = .ok (.getfield 28, 3) := by decide +kernel
theorem dX2_copyFrom_30 : decode cX2_copyFrom 30 = .ok (.invokevirtual 172, 3) := by decide +kernel
theorem dX2_copyFrom_33 : decode cX2_copyFrom 33 = .ok (.aload_n 0, 1) := by decide +kernel
theorem dX2_copyFrom_34 : decode cX2_copyFrom 34 = .ok (.getfield 32, 3) := by decide +kernel
theorem dX2_copyFrom_37 : decode cX2_copyFrom 37 = .ok (.aload_n 1, 1) := by decide +kernel
theorem dX2_copyFrom_38 : decode cX2_copyFrom 38 = .ok (.getfield 32, 3) := by decide +kernel
theorem dX2_copyFrom_41 : decode cX2_copyFrom 41 = .ok (.invokevirtual 172, 3) := by decide +kernel
theorem dX2_copyFrom_44 : decode cX2_copyFrom 44 = .ok (.aload_n 1, 1) := by decide +kernel
theorem dX2_copyFrom_45 : decode cX2_copyFrom 45 = .ok (.getfield 35, 3) := by decide +kernel
theorem dX2_copyFrom_48 : decode cX2_copyFrom 48 = .ok (.aload_n 0, 1) := by decide +kernel
theorem dX2_copyFrom_49 : decode cX2_copyFrom 49 = .ok (.getfield 35, 3) := by decide +kernel
theorem dX2_copyFrom_52 : decode cX2_copyFrom 52 = .ok (.invokestatic 175, 3) := by decide +kernel
theorem dX2_copyFrom_55 : decode cX2_copyFrom 55 = .ok (.aload_n 0, 1) := by decide +kernel
theorem dX2_copyFrom_56 : decode cX2_copyFrom 56 = .ok (.aload_n 1, 1) := by decide +kernel
theorem dX2_copyFrom_57 : decode cX2_copyFrom 57 = .ok (.getfield 46, 3) := by decide +kernel
theorem dX2_copyFrom_60 : decode cX2_copyFrom 60 = .ok (.putfield 46, 3) := by decide +kernel
theorem dX2_copyFrom_63 : decode cX2_copyFrom 63 = .ok (.aload_n 0, 1) := by decide +kernel
theorem dX2_copyFrom_64 : decode cX2_copyFrom 64 = .ok (.aload_n 1, 1) := by decide +kernel
theorem dX2_copyFrom_65 : decode cX2_copyFrom 65 = .ok (.getfield 133, 3) := by decide +kernel
theorem dX2_copyFrom_68 : decode cX2_copyFrom 68 = .ok (.putfield 133, 3) := by decide +kernel
theorem dX2_copyFrom_71 : decode cX2_copyFrom 71 = .ok (.aload_n 0, 1) := by decide +kernel
theorem dX2_copyFrom_72 : decode cX2_copyFrom 72 = .ok (.aload_n 1, 1) := by decide +kernel
theorem dX2_copyFrom_73 : decode cX2_copyFrom 73 = .ok (.getfield 126, 3) := by decide +kernel
theorem dX2_copyFrom_76 : decode cX2_copyFrom 76 = .ok (.putfield 126, 3) := by decide +kernel
theorem dX2_copyFrom_79 : decode cX2_copyFrom 79 = .ok (.aload_n 0, 1) := by decide +kernel
theorem dX2_copyFrom_80 : decode cX2_copyFrom 80 = .ok (.aload_n 1, 1) := by decide +kernel
theorem dX2_copyFrom_81 : decode cX2_copyFrom 81 = .ok (.getfield 39, 3) := by decide +kernel
theorem dX2_copyFrom_84 : decode cX2_copyFrom 84 = .ok (.putfield 39, 3) := by decide +kernel
theorem dX2_copyFrom_87 : decode cX2_copyFrom 87 = .ok (.aload_n 0, 1) := by decide +kernel
theorem dX2_copyFrom_88 : decode cX2_copyFrom 88 = .ok (.aload_n 1, 1) := by decide +kernel
theorem dX2_copyFrom_89 : decode cX2_copyFrom 89 = .ok (.getfield 43, 3) := by decide +kernel
theorem dX2_copyFrom_92 : decode cX2_copyFrom 92 = .ok (.putfield 43, 3) := by decide +kernel
theorem dX2_copyFrom_95 : decode cX2_copyFrom 95 = .ok (.aload_n 0, 1) := by decide +kernel
theorem dX2_copyFrom_96 : decode cX2_copyFrom 96 = .ok (.aload_n 1, 1) := by decide +kernel
theorem dX2_copyFrom_97 : decode cX2_copyFrom 97 = .ok (.getfield 89, 3) := by decide +kernel
theorem dX2_copyFrom_100 : decode cX2_copyFrom 100 = .ok (.putfield 89, 3) := by decide +kernel
theorem dX2_copyFrom_103 : decode cX2_copyFrom 103 = .ok (.aload_n 0, 1) := by decide +kernel
theorem dX2_copyFrom_104 : decode cX2_copyFrom 104 = .ok (.aload_n 1, 1) := by decide +kernel
theorem dX2_copyFrom_105 : decode cX2_copyFrom 105 = .ok (.getfield 101, 3) := by decide +kernel
theorem dX2_copyFrom_108 : decode cX2_copyFrom 108 = .ok (.putfield 101, 3) := by decide +kernel
theorem dX2_copyFrom_111 : decode cX2_copyFrom 111 = .ok (.return_, 1) := by decide +kernel
theorem dX3_opcode_0 : decode cX3_opcode 0 = .ok (.iload_n 0, 1) := by decide +kernel
theorem dX3_opcode_1 : decode cX3_opcode 1 = .ok (.bipush 15, 2) := by decide +kernel
theorem dX3_opcode_3 : decode cX3_opcode 3 = .ok (.iand, 1) := by decide +kernel
theorem dX3_opcode_4 : decode cX3_opcode 4 = .ok (.ireturn, 1) := by decide +kernel
theorem dX3_operand_0 : decode cX3_operand 0 = .ok (.iload_n 0, 1) := by decide +kernel
theorem dX3_operand_1 : decode cX3_operand 1 = .ok (.iconst 4, 1) := by decide +kernel
theorem dX3_operand_2 : decode cX3_operand 2 = .ok (.ishr, 1) := by decide +kernel
theorem dX3_operand_3 : decode cX3_operand 3 = .ok (.bipush 7, 2) := by decide +kernel
theorem dX3_operand_5 : decode cX3_operand 5 = .ok (.iand, 1) := by decide +kernel
theorem dX3_operand_6 : decode cX3_operand 6 = .ok (.iload_n 0, 1) := by decide +kernel
theorem dX3_operand_7 : decode cX3_operand 7 = .ok (.bipush 7, 2) := by decide +kernel
theorem dX3_operand_9 : decode cX3_operand 9 = .ok (.ishr, 1) := by decide +kernel
theorem dX3_operand_10 : decode cX3_operand 10 = .ok (.bipush 31, 2) := by decide +kernel
theorem dX3_operand_12 : decode cX3_operand 12 = .ok (.iand, 1) := by decide +kernel
theorem dX3_operand_13 : decode cX3_operand 13 = .ok (.invokestatic 9, 3) := by decide +kernel
theorem dX3_operand_16 : decode cX3_operand 16 = .ok (.ireturn, 1) := by decide +kernel
theorem dX3_next_0 : decode cX3_next 0 = .ok (.iload_n 0, 1) := by decide +kernel
theorem dX3_next_1 : decode cX3_next 1 = .ok (.bipush 12, 2) := by decide +kernel
theorem dX3_next_3 : decode cX3_next 3 = .ok (.ishr, 1) := by decide +kernel
theorem dX3_next_4 : decode cX3_next 4 = .ok (.bipush 7, 2) := by decide +kernel
theorem dX3_next_6 : decode cX3_next 6 = .ok (.iand, 1) := by decide +kernel
theorem dX3_next_7 : decode cX3_next 7 = .ok (.iload_n 0, 1) := by decide +kernel
theorem dX3_next_8 : decode cX3_next 8 = .ok (.bipush 15, 2) := by decide +kernel
theorem dX3_next_10 : decode cX3_next 10 = .ok (.ishr, 1) := by decide +kernel
theorem dX3_next_11 : decode cX3_next 11 = .ok (.bipush 31, 2) := by decide +kernel
theorem dX3_next_13 : decode cX3_next 13 = .ok (.iand, 1) := by decide +kernel
theorem dX3_next_14 : decode cX3_next 14 = .ok (.invokestatic 9, 3) := by decide +kernel
theorem dX3_next_17 : decode cX3_next 17 = .ok (.ireturn, 1) := by decide +kernel
theorem dX3_operandForm_0 : decode cX3_operandForm 0 = .ok (.iload_n 0, 1) := by decide +kernel
theorem dX3_operandForm_1 : decode cX3_operandForm 1 = .ok (.tableswitch 79 0 14 #[75, 79, 79, 79, 79, 79, 79, 79, 77, 77, 79, 79, 79, 75, 75], 75) := by decide +kernel
theorem dX3_operandForm_76 : decode cX3_operandForm 76 = .ok (.iconst 0, 1) := by decide +kernel
theorem dX3_operandForm_77 : decode cX3_operandForm 77 = .ok (.ireturn, 1) := by decide +kernel
theorem dX3_operandForm_78 : decode cX3_operandForm 78 = .ok (.iconst 2, 1) := by decide +kernel
theorem dX3_operandForm_79 : decode cX3_operandForm 79 = .ok (.ireturn, 1) := by decide +kernel
theorem dX3_operandForm_80 : decode cX3_operandForm 80 = .ok (.iconst 1, 1) := by decide +kernel
theorem dX3_operandForm_81 : decode cX3_operandForm 81 = .ok (.ireturn, 1) := by decide +kernel
theorem dX3_isJump_0 : decode cX3_isJump 0 = .ok (.iload_n 0, 1) := by decide +kernel
theorem dX3_isJump_1 : decode cX3_isJump 1 = .ok (.bipush 10, 2) := by decide +kernel
theorem dX3_isJump_3 : decode cX3_isJump 3 = .ok (.if_icmp .eq 15, 3) := by decide +kernel
theorem dX3_isJump_6 : decode cX3_isJump 6 = .ok (.iload_n 0, 1) := by decide +kernel
theorem dX3_isJump_7 : decode cX3_isJump 7 = .ok (.bipush 11, 2) := by decide +kernel
theorem dX3_isJump_9 : decode cX3_isJump 9 = .ok (.if_icmp .eq 9, 3) := by decide +kernel
theorem dX3_isJump_12 : decode cX3_isJump 12 = .ok (.iload_n 0, 1) := by decide +kernel
theorem dX3_isJump_13 : decode cX3_isJump 13 = .ok (.bipush 12, 2) := by decide +kernel
theorem dX3_isJump_15 : decode cX3_isJump 15 = .ok (.if_icmp .ne 7, 3) := by decide +kernel
theorem dX3_isJump_18 : decode cX3_isJump 18 = .ok (.iconst 1, 1) := by decide +kernel
theorem dX3_isJump_19 : decode cX3_isJump 19 = .ok (.goto 4, 3) := by decide +kernel
theorem dX3_isJump_22 : decode cX3_isJump 22 = .ok (.iconst 0, 1) := by decide +kernel
theorem dX3_isJump_23 : decode cX3_isJump 23 = .ok (.ireturn, 1) := by decide +kernel
theorem dX3_waitsForOperand_0 : decode cX3_waitsForOperand 0 = .ok (.iload_n 0, 1) := by decide +kernel
theorem dX3_waitsForOperand_1 : decode cX3_waitsForOperand 1 = .ok (.invokestatic 58, 3) := by decide +kernel
theorem dX3_waitsForOperand_4 : decode cX3_waitsForOperand 4 = .ok (.iconst 1, 1) := by decide +kernel
theorem dX3_waitsForOperand_5 : decode cX3_waitsForOperand 5 = .ok (.if_icmp .ne 14, 3) := by decide +kernel
theorem dX3_waitsForOperand_8 : decode cX3_waitsForOperand 8 = .ok (.iload_n 0, 1) := by decide +kernel
theorem dX3_waitsForOperand_9 : decode cX3_waitsForOperand 9 = .ok (.invokestatic 61, 3) := by decide +kernel
theorem dX3_waitsForOperand_12 : decode cX3_waitsForOperand 12 = .ok (.ifCond .ne 7, 3) := by decide +kernel
theorem dX3_waitsForOperand_15 : decode cX3_waitsForOperand 15 = .ok (.iconst 1, 1) := by decide +kernel
theorem dX3_waitsForOperand_16 : decode cX3_waitsForOperand 16 = .ok (.goto 4, 3) := by decide +kernel
theorem dX3_waitsForOperand_19 : decode cX3_waitsForOperand 19 = .ok (.iconst 0, 1) := by decide +kernel
theorem dX3_waitsForOperand_20 : decode cX3_waitsForOperand 20 = .ok (.ireturn, 1) := by decide +kernel
theorem dX3_ownTime_0 : decode cX3_ownTime 0 = .ok (.iload_n 0, 1) := by decide +kernel
theorem dX3_ownTime_1 : decode cX3_ownTime 1 = .ok (.invokestatic 65, 3) := by decide +kernel
theorem dX3_ownTime_4 : decode cX3_ownTime 4 = .ok (.lookupswitch 80 #[(0, 52), (7, 54), (8, 57), (9, 67), (15, 77)], 52) := by decide +kernel
theorem dX3_ownTime_56 : decode cX3_ownTime 56 = .ok (.iconst 0, 1) := by decide +kernel
theorem dX3_ownTime_57 : decode cX3_ownTime 57 = .ok (.ireturn, 1) := by decide +kernel
theorem dX3_ownTime_58 : decode cX3_ownTime 58 = .ok (.bipush 21, 2) := by decide +kernel
theorem dX3_ownTime_60 : decode cX3_ownTime 60 = .ok (.ireturn, 1) := by decide +kernel
theorem dX3_ownTime_61 : decode cX3_ownTime 61 = .ok (.iconst 1, 1) := by decide +kernel
theorem dX3_ownTime_62 : decode cX3_ownTime 62 = .ok (.iload_n 0, 1) := by decide +kernel
theorem dX3_ownTime_63 : decode cX3_ownTime 63 = .ok (.invokestatic 68, 3) := by decide +kernel
theorem dX3_ownTime_66 : decode cX3_ownTime 66 = .ok (.invokestatic 13, 3) := by decide +kernel
theorem dX3_ownTime_69 : decode cX3_ownTime 69 = .ok (.iadd, 1) := by decide +kernel
theorem dX3_ownTime_70 : decode cX3_ownTime 70 = .ok (.ireturn, 1) := by decide +kernel
theorem dX3_ownTime_71 : decode cX3_ownTime 71 = .ok (.iconst 1, 1) := by decide +kernel
theorem dX3_ownTime_72 : decode cX3_ownTime 72 = .ok (.iload_n 0, 1) := by decide +kernel
theorem dX3_ownTime_73 : decode cX3_ownTime 73 = .ok (.invokestatic 68, 3) := by decide +kernel
theorem dX3_ownTime_76 : decode cX3_ownTime 76 = .ok (.invokestatic 13, 3) := by decide +kernel
theorem dX3_ownTime_79 : decode cX3_ownTime 79 = .ok (.iadd, 1) := by decide +kernel
theorem dX3_ownTime_80 : decode cX3_ownTime 80 = .ok (.ireturn, 1) := by decide +kernel
theorem dX3_ownTime_81 : decode cX3_ownTime 81 = .ok (.bipush 33, 2) := by decide +kernel
theorem dX3_ownTime_83 : decode cX3_ownTime 83 = .ok (.ireturn, 1) := by decide +kernel
theorem dX3_ownTime_84 : decode cX3_ownTime 84 = .ok (.iconst 1, 1) := by decide +kernel
theorem dX3_ownTime_85 : decode cX3_ownTime 85 = .ok (.ireturn, 1) := by decide +kernel
theorem dX4_init_0 : decode cX4_init 0 = .ok (.aload_n 0, 1) := by decide +kernel
theorem dX4_init_1 : decode cX4_init 1 = .ok (.invokespecial 3, 3) := by decide +kernel
theorem dX4_init_4 : decode cX4_init 4 = .ok (.aload_n 0, 1) := by decide +kernel
theorem dX4_init_5 : decode cX4_init 5 = .ok (.bipush 64, 2) := by decide +kernel
theorem dX4_init_7 : decode cX4_init 7 = .ok (.newarray .int, 2) := by decide +kernel
theorem dX4_init_9 : decode cX4_init 9 = .ok (.putfield 9, 3) := by decide +kernel
theorem dX4_init_12 : decode cX4_init 12 = .ok (.return_, 1) := by decide +kernel
theorem dX4_isFull_0 : decode cX4_isFull 0 = .ok (.aload_n 0, 1) := by decide +kernel
theorem dX4_isFull_1 : decode cX4_isFull 1 = .ok (.getfield 15, 3) := by decide +kernel
theorem dX4_isFull_4 : decode cX4_isFull 4 = .ok (.bipush 64, 2) := by decide +kernel
theorem dX4_isFull_6 : decode cX4_isFull 6 = .ok (.if_icmp .lt 7, 3) := by decide +kernel
theorem dX4_isFull_9 : decode cX4_isFull 9 = .ok (.iconst 1, 1) := by decide +kernel
theorem dX4_isFull_10 : decode cX4_isFull 10 = .ok (.goto 4, 3) := by decide +kernel
theorem dX4_isFull_13 : decode cX4_isFull 13 = .ok (.iconst 0, 1) := by decide +kernel
theorem dX4_isFull_14 : decode cX4_isFull 14 = .ok (.ireturn, 1) := by decide +kernel
theorem dX4_addLast_0 : decode cX4_addLast 0 = .ok (.aload_n 0, 1) := by decide +kernel
theorem dX4_addLast_1 : decode cX4_addLast 1 = .ok (.getfield 9, 3) := by decide +kernel
theorem dX4_addLast_4 : decode cX4_addLast 4 = .ok (.aload_n 0, 1) := by decide +kernel
theorem dX4_addLast_5 : decode cX4_addLast 5 = .ok (.getfield 19, 3) := by decide +kernel
theorem dX4_addLast_8 : decode cX4_addLast 8 = .ok (.aload_n 0, 1) := by decide +kernel
theorem dX4_addLast_9 : decode cX4_addLast 9 = .ok (.getfield 15, 3) := by decide +kernel
theorem dX4_addLast_12 : decode cX4_addLast 12 = .ok (.iadd, 1) := by decide +kernel
theorem dX4_addLast_13 : decode cX4_addLast 13 = .ok (.bipush 63, 2) := by decide +kernel
theorem dX4_addLast_15 : decode cX4_addLast 15 = .ok (.iand, 1) := by decide +kernel
theorem dX4_addLast_16 : decode cX4_addLast 16 = .ok (.iload_n 1, 1) := by decide +kernel
theorem dX4_addLast_17 : decode cX4_addLast 17 = .ok (.iastore, 1) := by decide +kernel
theorem dX4_addLast_18 : decode cX4_addLast 18 = .ok (.aload_n 0, 1) := by decide +kernel
theorem dX4_addLast_19 : decode cX4_addLast 19 = .ok (.dup, 1) := by decide +kernel
theorem dX4_addLast_20 : decode cX4_addLast 20 = .ok (.getfield 15, 3) := by decide +kernel
theorem dX4_addLast_23 : decode cX4_addLast 23 = .ok (.iconst 1, 1) := by decide +kernel
theorem dX4_addLast_24 : decode cX4_addLast 24 = .ok (.iadd, 1) := by decide +kernel
theorem dX4_addLast_25 : decode cX4_addLast 25 = .ok (.putfield 15, 3) := by decide +kernel
theorem dX4_addLast_28 : decode cX4_addLast 28 = .ok (.return_, 1) := by decide +kernel
theorem dX4_removeFirst_0 : decode cX4_removeFirst 0 = .ok (.aload_n 0, 1) := by decide +kernel
theorem dX4_removeFirst_1 : decode cX4_removeFirst 1 = .ok (.getfield 9, 3) := by decide +kernel
theorem dX4_removeFirst_4 : decode cX4_removeFirst 4 = .ok (.aload_n 0, 1) := by decide +kernel
theorem dX4_removeFirst_5 : decode cX4_removeFirst 5 = .ok (.getfield 19, 3) := by decide +kernel
theorem dX4_removeFirst_8 : decode cX4_removeFirst 8 = .ok (.bipush 63, 2) := by decide +kernel
theorem dX4_removeFirst_10 : decode cX4_removeFirst 10 = .ok (.iand, 1) := by decide +kernel
theorem dX4_removeFirst_11 : decode cX4_removeFirst 11 = .ok (.iaload, 1) := by decide +kernel
theorem dX4_removeFirst_12 : decode cX4_removeFirst 12 = .ok (.istore_n 1, 1) := by decide +kernel
theorem dX4_removeFirst_13 : decode cX4_removeFirst 13 = .ok (.aload_n 0, 1) := by decide +kernel
theorem dX4_removeFirst_14 : decode cX4_removeFirst 14 = .ok (.aload_n 0, 1) := by decide +kernel
theorem dX4_removeFirst_15 : decode cX4_removeFirst 15 = .ok (.getfield 19, 3) := by decide +kernel
theorem dX4_removeFirst_18 : decode cX4_removeFirst 18 = .ok (.iconst 1, 1) := by decide +kernel
theorem dX4_removeFirst_19 : decode cX4_removeFirst 19 = .ok (.iadd, 1) := by decide +kernel
theorem dX4_removeFirst_20 : decode cX4_removeFirst 20 = .ok (.bipush 63, 2) := by decide +kernel
theorem dX4_removeFirst_22 : decode cX4_removeFirst 22 = .ok (.iand, 1) := by decide +kernel
theorem dX4_removeFirst_23 : decode cX4_removeFirst 23 = .ok (.putfield 19, 3) := by decide +kernel
theorem dX4_removeFirst_26 : decode cX4_removeFirst 26 = .ok (.aload_n 0, 1) := by decide +kernel
theorem dX4_removeFirst_27 : decode cX4_removeFirst 27 = .ok (.dup, 1) := by decide +kernel
theorem dX4_removeFirst_28 : decode cX4_removeFirst 28 = .ok (.getfield 15, 3) := by decide +kernel
theorem dX4_removeFirst_31 : decode cX4_removeFirst 31 = .ok (.iconst 1, 1) := by decide +kernel
theorem dX4_removeFirst_32 : decode cX4_removeFirst 32 = .ok (.isub, 1) := by decide +kernel
theorem dX4_removeFirst_33 : decode cX4_removeFirst 33 = .ok (.putfield 15, 3) := by decide +kernel
theorem dX4_removeFirst_36 : decode cX4_removeFirst 36 = .ok (.iload_n 1, 1) := by decide +kernel
theorem dX4_removeFirst_37 : decode cX4_removeFirst 37 = .ok (.ireturn, 1) := by decide +kernel
theorem dX4_copyFrom_0 : decode cX4_copyFrom 0 = .ok (.aload_n 1, 1) := by decide +kernel
theorem dX4_copyFrom_1 : decode cX4_copyFrom 1 = .ok (.getfield 9, 3) := by decide +kernel
theorem dX4_copyFrom_4 : decode cX4_copyFrom 4 = .ok (.aload_n 0, 1) := by decide +kernel
theorem dX4_copyFrom_5 : decode cX4_copyFrom 5 = .ok (.getfield 9, 3) := by decide +kernel
theorem dX4_copyFrom_8 : decode cX4_copyFrom 8 = .ok (.invokestatic 22, 3) := by decide +kernel
theorem dX4_copyFrom_11 : decode cX4_copyFrom 11 = .ok (.aload_n 0, 1) := by decide +kernel
theorem dX4_copyFrom_12 : decode cX4_copyFrom 12 = .ok (.aload_n 1, 1) := by decide +kernel
theorem dX4_copyFrom_13 : decode cX4_copyFrom 13 = .ok (.getfield 19, 3) := by decide +kernel
theorem dX4_copyFrom_16 : decode cX4_copyFrom 16 = .ok (.putfield 19, 3) := by decide +kernel
theorem dX4_copyFrom_19 : decode cX4_copyFrom 19 = .ok (.aload_n 0, 1) := by decide +kernel
theorem dX4_copyFrom_20 : decode cX4_copyFrom 20 = .ok (.aload_n 1, 1) := by decide +kernel
theorem dX4_copyFrom_21 : decode cX4_copyFrom 21 = .ok (.getfield 15, 3) := by decide +kernel
theorem dX4_copyFrom_24 : decode cX4_copyFrom 24 = .ok (.putfield 15, 3) := by decide +kernel
theorem dX4_copyFrom_27 : decode cX4_copyFrom 27 = .ok (.return_, 1) := by decide +kernel
theorem dX5_init_0 : decode cX5_init 0 = .ok (.aload_n 0, 1) := by decide +kernel
theorem dX5_init_1 : decode cX5_init 1 = .ok (.invokespecial 3, 3) := by decide +kernel
theorem dX5_init_4 : decode cX5_init 4 = .ok (.aload_n 0, 1) := by decide +kernel
theorem dX5_init_5 : decode cX5_init 5 = .ok (.sipush 256, 3) := by decide +kernel
theorem dX5_init_8 : decode cX5_init 8 = .ok (.newarray .int, 2) := by decide +kernel
theorem dX5_init_10 : decode cX5_init 10 = .ok (.putfield 9, 3) := by decide +kernel
theorem dX5_init_13 : decode cX5_init 13 = .ok (.aload_n 0, 1) := by decide +kernel
theorem dX5_init_14 : decode cX5_init 14 = .ok (.bipush 32, 2) := by decide +kernel
theorem dX5_init_16 : decode cX5_init 16 = .ok (.newarray .int, 2) := by decide +kernel
theorem dX5_init_18 : decode cX5_init 18 = .ok (.putfield 15, 3) := by decide +kernel
theorem dX5_init_21 : decode cX5_init 21 = .ok (.aload_n 0, 1) := by decide +kernel
theorem dX5_init_22 : decode cX5_init 22 = .ok (.bipush 8, 2) := by decide +kernel
theorem dX5_init_24 : decode cX5_init 24 = .ok (.newarray .int, 2) := by decide +kernel
theorem dX5_init_26 : decode cX5_init 26 = .ok (.putfield 18, 3) := by decide +kernel
theorem dX5_init_29 : decode cX5_init 29 = .ok (.return_, 1) := by decide +kernel
theorem dX5_wordAt_0 : decode cX5_wordAt 0 = .ok (.aload_n 0, 1) := by decide +kernel
theorem dX5_wordAt_1 : decode cX5_wordAt 1 = .ok (.getfield 9, 3) := by decide +kernel
theorem dX5_wordAt_4 : decode cX5_wordAt 4 = .ok (.iload_n 1, 1) := by decide +kernel
theorem dX5_wordAt_5 : decode cX5_wordAt 5 = .ok (.sipush 255, 3) := by decide +kernel
theorem dX5_wordAt_8 : decode cX5_wordAt 8 = .ok (.iand, 1) := by decide +kernel
theorem dX5_wordAt_9 : decode cX5_wordAt 9 = .ok (.iaload, 1) := by decide +kernel
theorem dX5_wordAt_10 : decode cX5_wordAt 10 = .ok (.i2l, 1) := by decide +kernel
theorem dX5_wordAt_11 : decode cX5_wordAt 11 = .ok (.invokestatic 21, 3) := by decide +kernel
theorem dX5_wordAt_14 : decode cX5_wordAt 14 = .ok (.ireturn, 1) := by decide +kernel
theorem dX5_putWord_0 : decode cX5_putWord 0 = .ok (.aload_n 0, 1) := by decide +kernel
theorem dX5_putWord_1 : decode cX5_putWord 1 = .ok (.getfield 9, 3) := by decide +kernel
theorem dX5_putWord_4 : decode cX5_putWord 4 = .ok (.iload_n 1, 1) := by decide +kernel
theorem dX5_putWord_5 : decode cX5_putWord 5 = .ok (.sipush 255, 3) := by decide +kernel
theorem dX5_putWord_8 : decode cX5_putWord 8 = .ok (.iand, 1) := by decide +kernel
theorem dX5_putWord_9 : decode cX5_putWord 9 = .ok (.iload_n 2, 1) := by decide +kernel
theorem dX5_putWord_10 : decode cX5_putWord 10 = .ok (.ldc 25, 2) := by decide +kernel
theorem dX5_putWord_12 : decode cX5_putWord 12 = .ok (.iand, 1) := by decide +kernel
theorem dX5_putWord_13 : decode cX5_putWord 13 = .ok (.iastore, 1) := by decide +kernel
theorem dX5_putWord_14 : decode cX5_putWord 14 = .ok (.return_, 1) := by decide +kernel
theorem dX5_slipCountOf_0 : decode cX5_slipCountOf 0 = .ok (.aload_n 0, 1) := by decide +kernel
theorem dX5_slipCountOf_1 : decode cX5_slipCountOf 1 = .ok (.getfield 18, 3) := by decide +kernel
theorem dX5_slipCountOf_4 : decode cX5_slipCountOf 4 = .ok (.iload_n 1, 1) := by decide +kernel
theorem dX5_slipCountOf_5 : decode cX5_slipCountOf 5 = .ok (.bipush 7, 2) := by decide +kernel
theorem dX5_slipCountOf_7 : decode cX5_slipCountOf 7 = .ok (.iand, 1) := by decide +kernel
theorem dX5_slipCountOf_8 : decode cX5_slipCountOf 8 = .ok (.iaload, 1) := by decide +kernel
theorem dX5_slipCountOf_9 : decode cX5_slipCountOf 9 = .ok (.ireturn, 1) := by decide +kernel
theorem dX5_countOnes_0 : decode cX5_countOnes 0 = .ok (.iconst 0, 1) := by decide +kernel
theorem dX5_countOnes_1 : decode cX5_countOnes 1 = .ok (.istore_n 2, 1) := by decide +kernel
theorem dX5_countOnes_2 : decode cX5_countOnes 2 = .ok (.iconst 0, 1) := by decide +kernel
theorem dX5_countOnes_3 : decode cX5_countOnes 3 = .ok (.istore_n 3, 1) := by decide +kernel
theorem dX5_countOnes_4 : decode cX5_countOnes 4 = .ok (.iload_n 3, 1) := by decide +kernel
theorem dX5_countOnes_5 : decode cX5_countOnes 5 = .ok (.bipush 32, 2) := by decide +kernel
theorem dX5_countOnes_7 : decode cX5_countOnes 7 = .ok (.if_icmp .ge 29, 3) := by decide +kernel
theorem dX5_countOnes_10 : decode cX5_countOnes 10 = .ok (.iload_n 2, 1) := by decide +kernel
theorem dX5_countOnes_11 : decode cX5_countOnes 11 = .ok (.aload_n 0, 1) := by decide +kernel
theorem dX5_countOnes_12 : decode cX5_countOnes 12 = .ok (.getfield 9, 3) := by decide +kernel
theorem dX5_countOnes_15 : decode cX5_countOnes 15 = .ok (.iload_n 1, 1) := by decide +kernel
theorem dX5_countOnes_16 : decode cX5_countOnes 16 = .ok (.iload_n 3, 1) := by decide +kernel
theorem dX5_countOnes_17 : decode cX5_countOnes 17 = .ok (.invokestatic 26, 3) := by decide +kernel
theorem dX5_countOnes_20 : decode cX5_countOnes 20 = .ok (.sipush 255, 3) := by decide +kernel
theorem dX5_countOnes_23 : decode cX5_countOnes 23 = .ok (.iand, 1) := by decide +kernel
theorem dX5_countOnes_24 : decode cX5_countOnes 24 = .ok (.iaload, 1) := by decide +kernel
theorem dX5_countOnes_25 : decode cX5_countOnes 25 = .ok (.invokestatic 30, 3) := by decide +kernel
theorem dX5_countOnes_28 : decode cX5_countOnes 28 = .ok (.iadd, 1) := by decide +kernel
theorem dX5_countOnes_29 : decode cX5_countOnes 29 = .ok (.istore_n 2, 1) := by decide +kernel
theorem dX5_countOnes_30 : decode cX5_countOnes 30 = .ok (.iinc 3 1, 3) := by decide +kernel
theorem dX5_countOnes_33 : decode cX5_countOnes 33 = .ok (.goto (-29), 3) := by decide +kernel
theorem dX5_countOnes_36 : decode cX5_countOnes 36 = .ok (.iload_n 2, 1) := by decide +kernel
theorem dX5_countOnes_37 : decode cX5_countOnes 37 = .ok (.ireturn, 1) := by decide +kernel
theorem dX5_clearBits_0 : decode cX5_clearBits 0 = .ok (.iconst 0, 1) := by decide +kernel
theorem dX5_clearBits_1 : decode cX5_clearBits 1 = .ok (.istore_n 2, 1) := by decide +kernel
theorem dX5_clearBits_2 : decode cX5_clearBits 2 = .ok (.iload_n 2, 1) := by decide +kernel
theorem dX5_clearBits_3 : decode cX5_clearBits 3 = .ok (.bipush 32, 2) := by decide +kernel
theorem dX5_clearBits_5 : decode cX5_clearBits 5 = .ok (.if_icmp .ge 19, 3) := by decide +kernel
theorem dX5_clearBits_8 : decode cX5_clearBits 8 = .ok (.aload_n 0, 1) := by decide +kernel
theorem dX5_clearBits_9 : decode cX5_clearBits 9 = .ok (.iload_n 1, 1) := by decide +kernel
theorem dX5_clearBits_10 : decode cX5_clearBits 10 = .ok (.iload_n 2, 1) := by decide +kernel
theorem dX5_clearBits_11 : decode cX5_clearBits 11 = .ok (.invokestatic 26, 3) := by decide +kernel
theorem dX5_clearBits_14 : decode cX5_clearBits 14 = .ok (.iconst 0, 1) := by decide +kernel
theorem dX5_clearBits_15 : decode cX5_clearBits 15 = .ok (.invokevirtual 36, 3) := by decide +kernel
theorem dX5_clearBits_18 : decode cX5_clearBits 18 = .ok (.iinc 2 1, 3) := by decide +kernel
theorem dX5_clearBits_21 : decode cX5_clearBits 21 = .ok (.goto (-19), 3) := by decide +kernel
theorem dX5_clearBits_24 : decode cX5_clearBits 24 = .ok (.return_, 1) := by decide +kernel
theorem dX5_exchange_0 : decode cX5_exchange 0 = .ok (.iconst 0, 1) := by decide +kernel
theorem dX5_exchange_1 : decode cX5_exchange 1 = .ok (.istore_n 3, 1) := by decide +kernel
theorem dX5_exchange_2 : decode cX5_exchange 2 = .ok (.iload_n 3, 1) := by decide +kernel
theorem dX5_exchange_3 : decode cX5_exchange 3 = .ok (.bipush 32, 2) := by decide +kernel
theorem dX5_exchange_5 : decode cX5_exchange 5 = .ok (.if_icmp .ge 49, 3) := by decide +kernel
theorem dX5_exchange_8 : decode cX5_exchange 8 = .ok (.aload_n 0, 1) := by decide +kernel
theorem dX5_exchange_9 : decode cX5_exchange 9 = .ok (.iload_n 1, 1) := by decide +kernel
theorem dX5_exchange_10 : decode cX5_exchange 10 = .ok (.iload_n 3, 1) := by decide +kernel
theorem dX5_exchange_11 : decode cX5_exchange 11 = .ok (.invokestatic 26, 3) := by decide +kernel
theorem dX5_exchange_14 : decode cX5_exchange 14 = .ok (.invokevirtual 40, 3) := by decide +kernel
theorem dX5_exchange_17 : decode cX5_exchange 17 = .ok (.istore 4, 2) := by decide +kernel
theorem dX5_exchange_19 : decode cX5_exchange 19 = .ok (.aload_n 0, 1) := by decide +kernel
theorem dX5_exchange_20 : decode cX5_exchange 20 = .ok (.iload_n 1, 1) := by decide +kernel
theorem dX5_exchange_21 : decode cX5_exchange 21 = .ok (.iload_n 3, 1) := by decide +kernel
theorem dX5_exchange_22 : decode cX5_exchange 22 = .ok (.invokestatic 26, 3) := by decide +kernel
theorem dX5_exchange_25 : decode cX5_exchange 25 = .ok (.aload_n 0, 1) := by decide +kernel
theorem dX5_exchange_26 : decode cX5_exchange 26 = .ok (.iload_n 2, 1) := by decide +kernel
theorem dX5_exchange_27 : decode cX5_exchange 27 = .ok (.iload_n 3, 1) := by decide +kernel
theorem dX5_exchange_28 : decode cX5_exchange 28 = .ok (.invokestatic 26, 3) := by decide +kernel
theorem dX5_exchange_31 : decode cX5_exchange 31 = .ok (.invokevirtual 40, 3) := by decide +kernel
theorem dX5_exchange_34 : decode cX5_exchange 34 = .ok (.invokevirtual 36, 3) := by decide +kernel
theorem dX5_exchange_37 : decode cX5_exchange 37 = .ok (.aload_n 0, 1) := by decide +kernel
theorem dX5_exchange_38 : decode cX5_exchange 38 = .ok (.iload_n 2, 1) := by decide +kernel
theorem dX5_exchange_39 : decode cX5_exchange 39 = .ok (.iload_n 3, 1) := by decide +kernel
theorem dX5_exchange_40 : decode cX5_exchange 40 = .ok (.invokestatic 26, 3) := by decide +kernel
theorem dX5_exchange_43 : decode cX5_exchange 43 = .ok (.iload 4, 2) := by decide +kernel
theorem dX5_exchange_45 : decode cX5_exchange 45 = .ok (.invokevirtual 36, 3) := by decide +kernel
theorem dX5_exchange_48 : decode cX5_exchange 48 = .ok (.iinc 3 1, 3) := by decide +kernel
theorem dX5_exchange_51 : decode cX5_exchange 51 = .ok (.goto (-49), 3) := by decide +kernel
theorem dX5_exchange_54 : decode cX5_exchange 54 = .ok (.aload_n 0, 1) := by decide +kernel
theorem dX5_exchange_55 : decode cX5_exchange 55 = .ok (.iload_n 1, 1) := by decide +kernel
theorem dX5_exchange_56 : decode cX5_exchange 56 = .ok (.invokevirtual 43, 3) := by decide +kernel
theorem dX5_exchange_59 : decode cX5_exchange 59 = .ok (.istore_n 3, 1) := by decide +kernel
theorem dX5_exchange_60 : decode cX5_exchange 60 = .ok (.aload_n 0, 1) := by decide +kernel
theorem dX5_exchange_61 : decode cX5_exchange 61 = .ok (.getfield 18, 3) := by decide +kernel
theorem dX5_exchange_64 : decode cX5_exchange 64 = .ok (.iload_n 1, 1) := by decide +kernel
theorem dX5_exchange_65 : decode cX5_exchange 65 = .ok (.bipush 7, 2) := by decide +kernel
theorem dX5_exchange_67 : decode cX5_exchange 67 = .ok (.iand, 1) := by decide +kernel
theorem dX5_exchange_68 : decode cX5_exchange 68 = .ok (.aload_n 0, 1) := by decide +kernel
theorem dX5_exchange_69 : decode cX5_exchange 69 = .ok (.iload_n 2, 1) := by decide +kernel
theorem dX5_exchange_70 : decode cX5_exchange 70 = .ok (.invokevirtual 43, 3) := by decide +kernel
theorem dX5_exchange_73 : decode cX5_exchange 73 = .ok (.iastore, 1) := by decide +kernel
theorem dX5_exchange_74 : decode cX5_exchange 74 = .ok (.aload_n 0, 1) := by decide +kernel
theorem dX5_exchange_75 : decode cX5_exchange 75 = .ok (.getfield 18, 3) := by decide +kernel
theorem dX5_exchange_78 : decode cX5_exchange 78 = .ok (.iload_n 2, 1) := by decide +kernel
theorem dX5_exchange_79 : decode cX5_exchange 79 = .ok (.bipush 7, 2) := by decide +kernel
theorem dX5_exchange_81 : decode cX5_exchange 81 = .ok (.iand, 1) := by decide +kernel
theorem dX5_exchange_82 : decode cX5_exchange 82 = .ok (.iload_n 3, 1) := by decide +kernel
theorem dX5_exchange_83 : decode cX5_exchange 83 = .ok (.iastore, 1) := by decide +kernel
theorem dX5_exchange_84 : decode cX5_exchange 84 = .ok (.return_, 1) := by decide +kernel
theorem dX5_moveBits_0 : decode cX5_moveBits 0 = .ok (.iload_n 2, 1) := by decide +kernel
theorem dX5_moveBits_1 : decode cX5_moveBits 1 = .ok (.ifCond .ne 4, 3) := by decide +kernel
theorem dX5_moveBits_4 : decode cX5_moveBits 4 = .ok (.return_, 1) := by decide +kernel
theorem dX5_moveBits_5 : decode cX5_moveBits 5 = .ok (.iload_n 2, 1) := by decide +kernel
theorem dX5_moveBits_6 : decode cX5_moveBits 6 = .ok (.sipush 640, 3) := by decide +kernel
theorem dX5_moveBits_9 : decode cX5_moveBits 9 = .ok (.invokestatic 46, 3) := by decide +kernel
theorem dX5_moveBits_12 : decode cX5_moveBits 12 = .ok (.istore_n 3, 1) := by decide +kernel
theorem dX5_moveBits_13 : decode cX5_moveBits 13 = .ok (.iload_n 3, 1) := by decide +kernel
theorem dX5_moveBits_14 : decode cX5_moveBits 14 = .ok (.bipush 20, 2) := by decide +kernel
theorem dX5_moveBits_16 : decode cX5_moveBits 16 = .ok (.idiv, 1) := by decide +kernel
theorem dX5_moveBits_17 : decode cX5_moveBits 17 = .ok (.istore 4, 2) := by decide +kernel
theorem dX5_moveBits_19 : decode cX5_moveBits 19 = .ok (.iload_n 3, 1) := by decide +kernel
theorem dX5_moveBits_20 : decode cX5_moveBits 20 = .ok (.bipush 20, 2) := by decide +kernel
theorem dX5_moveBits_22 : decode cX5_moveBits 22 = .ok (.irem, 1) := by decide +kernel
theorem dX5_moveBits_23 : decode cX5_moveBits 23 = .ok (.istore 5, 2) := by decide +kernel
theorem dX5_moveBits_25 : decode cX5_moveBits 25 = .ok (.iconst 0, 1) := by decide +kernel
theorem dX5_moveBits_26 : decode cX5_moveBits 26 = .ok (.istore 6, 2) := by decide +kernel
theorem dX5_moveBits_28 : decode cX5_moveBits 28 = .ok (.iload 6, 2) := by decide +kernel
theorem dX5_moveBits_30 : decode cX5_moveBits 30 = .ok (.bipush 32, 2) := by decide +kernel
theorem dX5_moveBits_32 : decode cX5_moveBits 32 = .ok (.if_icmp .ge 31, 3) := by decide +kernel
theorem dX5_moveBits_35 : decode cX5_moveBits 35 = .ok (.aload_n 0, 1) := by decide +kernel
theorem dX5_moveBits_36 : decode cX5_moveBits 36 = .ok (.getfield 15, 3) := by decide +kernel
theorem dX5_moveBits_39 : decode cX5_moveBits 39 = .ok (.iload 6, 2) := by decide +kernel
theorem dX5_moveBits_41 : decode cX5_moveBits 41 = .ok (.aload_n 0, 1) := by decide +kernel
theorem dX5_moveBits_42 : decode cX5_moveBits 42 = .ok (.getfield 9, 3) := by decide +kernel
theorem dX5_moveBits_45 : decode cX5_moveBits 45 = .ok (.iload_n 1, 1) := by decide +kernel
theorem dX5_moveBits_46 : decode cX5_moveBits 46 = .ok (.iload 6, 2) := by decide +kernel
theorem dX5_moveBits_48 : decode cX5_moveBits 48 = .ok (.invokestatic 26, 3) := by decide +kernel
theorem dX5_moveBits_51 : decode cX5_moveBits 51 = .ok (.sipush 255, 3) := by decide +kernel
theorem dX5_moveBits_54 : decode cX5_moveBits 54 = .ok (.iand, 1) := by decide +kernel
theorem dX5_moveBits_55 : decode cX5_moveBits 55 = .ok (.iaload, 1) := by decide +kernel
theorem dX5_moveBits_56 : decode cX5_moveBits 56 = .ok (.iastore, 1) := by decide +kernel
theorem dX5_moveBits_57 : decode cX5_moveBits 57 = .ok (.iinc 6 1, 3) := by decide +kernel
theorem dX5_moveBits_60 : decode cX5_moveBits 60 = .ok (.goto (-32), 3) := by decide +kernel
theorem dX5_moveBits_63 : decode cX5_moveBits 63 = .ok (.iconst 0, 1) := by decide +kernel
theorem dX5_moveBits_64 : decode cX5_moveBits 64 = .ok (.istore 6, 2) := by decide +kernel
theorem dX5_moveBits_66 : decode cX5_moveBits 66 = .ok (.iload 6, 2) := by decide +kernel
theorem dX5_moveBits_68 : decode cX5_moveBits 68 = .ok (.bipush 32, 2) := by decide +kernel
theorem dX5_moveBits_70 : decode cX5_moveBits 70 = .ok (.if_icmp .ge 73, 3) := by decide +kernel
theorem dX5_moveBits_73 : decode cX5_moveBits 73 = .ok (.aload_n 0, 1) := by decide +kernel
theorem dX5_moveBits_74 : decode cX5_moveBits 74 = .ok (.getfield 15, 3) := by decide +kernel
theorem dX5_moveBits_77 : decode cX5_moveBits 77 = .ok (.iload 6, 2) := by decide +kernel
theorem dX5_moveBits_79 : decode cX5_moveBits 79 = .ok (.iload 4, 2) := by decide +kernel
theorem dX5_moveBits_81 : decode cX5_moveBits 81 = .ok (.isub, 1) := by decide +kernel
theorem dX5_moveBits_82 : decode cX5_moveBits 82 = .ok (.invokestatic 51, 3) := by decide +kernel
theorem dX5_moveBits_85 : decode cX5_moveBits 85 = .ok (.iaload, 1) := by decide +kernel
theorem dX5_moveBits_86 : decode cX5_moveBits 86 = .ok (.iload 5, 2) := by decide +kernel
theorem dX5_moveBits_88 : decode cX5_moveBits 88 = .ok (.ishl, 1) := by decide +kernel
theorem dX5_moveBits_89 : decode cX5_moveBits 89 = .ok (.istore 7, 2) := by decide +kernel
theorem dX5_moveBits_91 : decode cX5_moveBits 91 = .ok (.aload_n 0, 1) := by decide +kernel
theorem dX5_moveBits_92 : decode cX5_moveBits 92 = .ok (.getfield 15, 3) := by decide +kernel
theorem dX5_moveBits_95 : decode cX5_moveBits 95 = .ok (.iload 6, 2) := by decide +kernel
theorem dX5_moveBits_97 : decode cX5_moveBits 97 = .ok (.iload 4, 2) := by decide +kernel
theorem dX5_moveBits_99 : decode cX5_moveBits 99 = .ok (.isub, 1) := by decide +kernel
theorem dX5_moveBits_100 : decode cX5_moveBits 100 = .ok (.iconst 1, 1) := by decide +kernel
theorem dX5_moveBits_101 : decode cX5_moveBits 101 = .ok (.isub, 1) := by decide +kernel
theorem dX5_moveBits_102 : decode cX5_moveBits 102 = .ok (.invokestatic 51, 3) := by decide +kernel
theorem dX5_moveBits_105 : decode cX5_moveBits 105 = .ok (.iaload, 1) := by decide +kernel
theorem dX5_moveBits_106 : decode cX5_moveBits 106 = .ok (.bipush 20, 2) := by decide +kernel
theorem dX5_moveBits_108 : decode cX5_moveBits 108 = .ok (.iload 5, 2) := by decide +kernel
theorem dX5_moveBits_110 : decode cX5_moveBits 110 = .ok (.isub, 1) := by decide +kernel
theorem dX5_moveBits_111 : decode cX5_moveBits 111 = .ok (.ishr, 1) := by decide +kernel
theorem dX5_moveBits_112 : decode cX5_moveBits 112 = .ok (.istore 8, 2) := by decide +kernel
theorem dX5_moveBits_114 : decode cX5_moveBits 114 = .ok (.aload_n 0, 1) := by decide +kernel
theorem dX5_moveBits_115 : decode cX5_moveBits 115 = .ok (.getfield 9, 3) := by decide +kernel
theorem dX5_moveBits_118 : decode cX5_moveBits 118 = .ok (.iload_n 1, 1) := by decide +kernel
theorem dX5_moveBits_119 : decode cX5_moveBits 119 = .ok (.iload 6, 2) := by decide +kernel
theorem dX5_moveBits_121 : decode cX5_moveBits 121 = .ok (.invokestatic 26, 3) := by decide +kernel
theorem dX5_moveBits_124 : decode cX5_moveBits 124 = .ok (.sipush 255, 3) := by decide +kernel
theorem dX5_moveBits_127 : decode cX5_moveBits 127 = .ok (.iand, 1) := by decide +kernel
theorem dX5_moveBits_128 : decode cX5_moveBits 128 = .ok (.iload 7, 2) := by decide +kernel
theorem dX5_moveBits_130 : decode cX5_moveBits 130 = .ok (.iload 8, 2) := by decide +kernel
theorem dX5_moveBits_132 : decode cX5_moveBits 132 = .ok (.ior, 1) := by decide +kernel
theorem dX5_moveBits_133 : decode cX5_moveBits 133 = .ok (.ldc 25, 2) := by decide +kernel
theorem dX5_moveBits_135 : decode cX5_moveBits 135 = .ok (.iand, 1) := by decide +kernel
theorem dX5_moveBits_136 : decode cX5_moveBits 136 = .ok (.iastore, 1) := by decide +kernel
theorem dX5_moveBits_137 : decode cX5_moveBits 137 = .ok (.iinc 6 1, 3) := by decide +kernel
theorem dX5_moveBits_140 : decode cX5_moveBits 140 = .ok (.goto (-74), 3) := by decide +kernel
theorem dX5_moveBits_143 : decode cX5_moveBits 143 = .ok (.aload_n 0, 1) := by decide +kernel
theorem dX5_moveBits_144 : decode cX5_moveBits 144 = .ok (.getfield 18, 3) := by decide +kernel
theorem dX5_moveBits_147 : decode cX5_moveBits 147 = .ok (.iload_n 1, 1) := by decide +kernel
theorem dX5_moveBits_148 : decode cX5_moveBits 148 = .ok (.bipush 7, 2) := by decide +kernel
theorem dX5_moveBits_150 : decode cX5_moveBits 150 = .ok (.iand, 1) := by decide +kernel
theorem dX5_moveBits_151 : decode cX5_moveBits 151 = .ok (.dup2, 1) := by decide +kernel
theorem dX5_moveBits_152 : decode cX5_moveBits 152 = .ok (.iaload, 1) := by decide +kernel
theorem dX5_moveBits_153 : decode cX5_moveBits 153 = .ok (.iload_n 2, 1) := by decide +kernel
theorem dX5_moveBits_154 : decode cX5_moveBits 154 = .ok (.invokestatic 54, 3) := by decide +kernel
theorem dX5_moveBits_157 : decode cX5_moveBits 157 = .ok (.iadd, 1) := by decide +kernel
theorem dX5_moveBits_158 : decode cX5_moveBits 158 = .ok (.iastore, 1) := by decide +kernel
theorem dX5_moveBits_159 : decode cX5_moveBits 159 = .ok (.return_, 1) := by decide +kernel
theorem dX5_dropBit_0 : decode cX5_dropBit 0 = .ok (.iload_n 1, 1) := by decide +kernel
theorem dX5_dropBit_1 : decode cX5_dropBit 1 = .ok (.iload_n 2, 1) := by decide +kernel
theorem dX5_dropBit_2 : decode cX5_dropBit 2 = .ok (.bipush 20, 2) := by decide +kernel
theorem dX5_dropBit_4 : decode cX5_dropBit 4 = .ok (.idiv, 1) := by decide +kernel
theorem dX5_dropBit_5 : decode cX5_dropBit 5 = .ok (.invokestatic 26, 3) := by decide +kernel
theorem dX5_dropBit_8 : decode cX5_dropBit 8 = .ok (.sipush 255, 3) := by decide +kernel
theorem dX5_dropBit_11 : decode cX5_dropBit 11 = .ok (.iand, 1) := by decide +kernel
theorem dX5_dropBit_12 : decode cX5_dropBit 12 = .ok (.istore_n 3, 1) := by decide +kernel
theorem dX5_dropBit_13 : decode cX5_dropBit 13 = .ok (.iconst 1, 1) := by decide +kernel
theorem dX5_dropBit_14 : decode cX5_dropBit 14 = .ok (.iload_n 2, 1) := by decide +kernel
theorem dX5_dropBit_15 : decode cX5_dropBit 15 = .ok (.bipush 20, 2) := by decide +kernel
theorem dX5_dropBit_17 : decode cX5_dropBit 17 = .ok (.irem, 1) := by decide +kernel
theorem dX5_dropBit_18 : decode cX5_dropBit 18 = .ok (.ishl, 1) := by decide +kernel
theorem dX5_dropBit_19 : decode cX5_dropBit 19 = .ok (.istore 4, 2) := by decide +kernel
theorem dX5_dropBit_21 : decode cX5_dropBit 21 = .ok (.aload_n 0, 1) := by decide +kernel
theorem dX5_dropBit_22 : decode cX5_dropBit 22 = .ok (.getfield 9, 3) := by decide +kernel
theorem dX5_dropBit_25 : decode cX5_dropBit 25 = .ok (.iload_n 3, 1) := by decide +kernel
theorem dX5_dropBit_26 : decode cX5_dropBit 26 = .ok (.iaload, 1) := by decide +kernel
theorem dX5_dropBit_27 : decode cX5_dropBit 27 = .ok (.iload 4, 2) := by decide +kernel
theorem dX5_dropBit_29 : decode cX5_dropBit 29 = .ok (.iand, 1) := by decide +kernel
theorem dX5_dropBit_30 : decode cX5_dropBit 30 = .ok (.ifCond .eq 26, 3) := by decide +kernel
theorem dX5_dropBit_33 : decode cX5_dropBit 33 = .ok (.aload_n 0, 1) := by decide +kernel
theorem dX5_dropBit_34 : decode cX5_dropBit 34 = .ok (.getfield 9, 3) := by decide +kernel
theorem dX5_dropBit_37 : decode cX5_dropBit 37 = .ok (.iload_n 3, 1) := by decide +kernel
theorem dX5_dropBit_38 : decode cX5_dropBit 38 = .ok (.dup2, 1) := by decide +kernel
theorem dX5_dropBit_39 : decode cX5_dropBit 39 = .ok (.iaload, 1) := by decide +kernel
theorem dX5_dropBit_40 : decode cX5_dropBit 40 = .ok (.iload 4, 2) := by decide +kernel
theorem dX5_dropBit_42 : decode cX5_dropBit 42 = .ok (.iconst (-1), 1) := by decide +kernel
theorem dX5_dropBit_43 : decode cX5_dropBit 43 = .ok (.ixor, 1) := by decide +kernel
theorem dX5_dropBit_44 : decode cX5_dropBit 44 = .ok (.iand, 1) := by decide +kernel
theorem dX5_dropBit_45 : decode cX5_dropBit 45 = .ok (.iastore, 1) := by decide +kernel
theorem dX5_dropBit_46 : decode cX5_dropBit 46 = .ok (.aload_n 0, 1) := by decide +kernel
theorem dX5_dropBit_47 : decode cX5_dropBit 47 = .ok (.dup, 1) := by decide +kernel
theorem dX5_dropBit_48 : decode cX5_dropBit 48 = .ok (.getfield 57, 3) := by decide +kernel
theorem dX5_dropBit_51 : decode cX5_dropBit 51 = .ok (.iconst 1, 1) := by decide +kernel
theorem dX5_dropBit_52 : decode cX5_dropBit 52 = .ok (.iadd, 1) := by decide +kernel
theorem dX5_dropBit_53 : decode cX5_dropBit 53 = .ok (.putfield 57, 3) := by decide +kernel
theorem dX5_dropBit_56 : decode cX5_dropBit 56 = .ok (.return_, 1) := by decide +kernel
theorem dX5_copyFrom_0 : decode cX5_copyFrom 0 = .ok (.aload_n 1, 1) := by decide +kernel
theorem dX5_copyFrom_1 : decode cX5_copyFrom 1 = .ok (.getfield 9, 3) := by decide +kernel
theorem dX5_copyFrom_4 : decode cX5_copyFrom 4 = .ok (.aload_n 0, 1) := by decide +kernel
theorem dX5_copyFrom_5 : decode cX5_copyFrom 5 = .ok (.getfield 9, 3) := by decide +kernel
theorem dX5_copyFrom_8 : decode cX5_copyFrom 8 = .ok (.invokestatic 61, 3) := by decide +kernel
theorem dX5_copyFrom_11 : decode cX5_copyFrom 11 = .ok (.aload_n 1, 1) := by decide +kernel
theorem dX5_copyFrom_12 : decode cX5_copyFrom 12 = .ok (.getfield 18, 3) := by decide +kernel
theorem dX5_copyFrom_15 : decode cX5_copyFrom 15 = .ok (.aload_n 0, 1) := by decide +kernel
theorem dX5_copyFrom_16 : decode cX5_copyFrom 16 = .ok (.getfield 18, 3) := by decide +kernel
theorem dX5_copyFrom_19 : decode cX5_copyFrom 19 = .ok (.invokestatic 61, 3) := by decide +kernel
theorem dX5_copyFrom_22 : decode cX5_copyFrom 22 = .ok (.aload_n 0, 1) := by decide +kernel
theorem dX5_copyFrom_23 : decode cX5_copyFrom 23 = .ok (.aload_n 1, 1) := by decide +kernel
theorem dX5_copyFrom_24 : decode cX5_copyFrom 24 = .ok (.getfield 57, 3) := by decide +kernel
theorem dX5_copyFrom_27 : decode cX5_copyFrom 27 = .ok (.putfield 57, 3) := by decide +kernel
theorem dX5_copyFrom_30 : decode cX5_copyFrom 30 = .ok (.return_, 1) := by decide +kernel
theorem dX6_init_0 : decode cX6_init 0 = .ok (.aload_n 0, 1) := by decide +kernel
theorem dX6_init_1 : decode cX6_init 1 = .ok (.invokespecial 3, 3) := by decide +kernel
theorem dX6_init_4 : decode cX6_init 4 = .ok (.aload_n 0, 1) := by decide +kernel
theorem dX6_init_5 : decode cX6_init 5 = .ok (.new 9, 3) := by decide +kernel
theorem dX6_init_8 : decode cX6_init 8 = .ok (.dup, 1) := by decide +kernel
theorem dX6_init_9 : decode cX6_init 9 = .ok (.invokespecial 11, 3) := by decide +kernel
theorem dX6_init_12 : decode cX6_init 12 = .ok (.putfield 12, 3) := by decide +kernel
theorem dX6_init_15 : decode cX6_init 15 = .ok (.aload_n 0, 1) := by decide +kernel
theorem dX6_init_16 : decode cX6_init 16 = .ok (.new 9, 3) := by decide +kernel
theorem dX6_init_19 : decode cX6_init 19 = .ok (.dup, 1) := by decide +kernel
theorem dX6_init_20 : decode cX6_init 20 = .ok (.invokespecial 11, 3) := by decide +kernel
theorem dX6_init_23 : decode cX6_init 23 = .ok (.putfield 16, 3) := by decide +kernel
theorem dX6_init_26 : decode cX6_init 26 = .ok (.aload_n 0, 1) := by decide +kernel
theorem dX6_init_27 : decode cX6_init 27 = .ok (.new 9, 3) := by decide +kernel
theorem dX6_init_30 : decode cX6_init 30 = .ok (.dup, 1) := by decide +kernel
theorem dX6_init_31 : decode cX6_init 31 = .ok (.invokespecial 11, 3) := by decide +kernel
theorem dX6_init_34 : decode cX6_init 34 = .ok (.putfield 19, 3) := by decide +kernel
theorem dX6_init_37 : decode cX6_init 37 = .ok (.aload_n 0, 1) := by decide +kernel
theorem dX6_init_38 : decode cX6_init 38 = .ok (.new 9, 3) := by decide +kernel
theorem dX6_init_41 : decode cX6_init 41 = .ok (.dup, 1) := by decide +kernel
theorem dX6_init_42 : decode cX6_init 42 = .ok (.invokespecial 11, 3) := by decide +kernel
theorem dX6_init_45 : decode cX6_init 45 = .ok (.putfield 22, 3) := by decide +kernel
theorem dX6_init_48 : decode cX6_init 48 = .ok (.aload_n 0, 1) := by decide +kernel
theorem dX6_init_49 : decode cX6_init 49 = .ok (.new 25, 3) := by decide +kernel
theorem dX6_init_52 : decode cX6_init 52 = .ok (.dup, 1) := by decide +kernel
theorem dX6_init_53 : decode cX6_init 53 = .ok (.invokespecial 27, 3) := by decide +kernel
theorem dX6_init_56 : decode cX6_init 56 = .ok (.putfield 28, 3) := by decide +kernel
theorem dX6_init_59 : decode cX6_init 59 = .ok (.aload_n 0, 1) := by decide +kernel
theorem dX6_init_60 : decode cX6_init 60 = .ok (.new 32, 3) := by decide +kernel
theorem dX6_init_63 : decode cX6_init 63 = .ok (.dup, 1) := by decide +kernel
theorem dX6_init_64 : decode cX6_init 64 = .ok (.invokespecial 34, 3) := by decide +kernel
theorem dX6_init_67 : decode cX6_init 67 = .ok (.putfield 35, 3) := by decide +kernel
theorem dX6_init_70 : decode cX6_init 70 = .ok (.return_, 1) := by decide +kernel
theorem dX6_readWord_0 : decode cX6_readWord 0 = .ok (.iload_n 1, 1) := by decide +kernel
theorem dX6_readWord_1 : decode cX6_readWord 1 = .ok (.iload_n 2, 1) := by decide +kernel
theorem dX6_readWord_2 : decode cX6_readWord 2 = .ok (.invokestatic 101, 3) := by decide +kernel
theorem dX6_readWord_5 : decode cX6_readWord 5 = .ok (.aload_n 0, 1) := by decide +kernel
theorem dX6_readWord_6 : decode cX6_readWord 6 = .ok (.getfield 12, 3) := by decide +kernel
theorem dX6_readWord_9 : decode cX6_readWord 9 = .ok (.getfield 72, 3) := by decide +kernel
theorem dX6_readWord_12 : decode cX6_readWord 12 = .ok (.iload_n 1, 1) := by decide +kernel
theorem dX6_readWord_13 : decode cX6_readWord 13 = .ok (.iload_n 2, 1) := by decide +kernel
theorem dX6_readWord_14 : decode cX6_readWord 14 = .ok (.invokestatic 104, 3) := by decide +kernel
theorem dX6_readWord_17 : decode cX6_readWord 17 = .ok (.invokevirtual 108, 3) := by decide +kernel
theorem dX6_readWord_20 : decode cX6_readWord 20 = .ok (.ireturn, 1) := by decide +kernel
theorem dX6_writeWord_0 : decode cX6_writeWord 0 = .ok (.iload_n 1, 1) := by decide +kernel
theorem dX6_writeWord_1 : decode cX6_writeWord 1 = .ok (.iload_n 2, 1) := by decide +kernel
theorem dX6_writeWord_2 : decode cX6_writeWord 2 = .ok (.invokestatic 101, 3) := by decide +kernel
theorem dX6_writeWord_5 : decode cX6_writeWord 5 = .ok (.iload_n 3, 1) := by decide +kernel
theorem dX6_writeWord_6 : decode cX6_writeWord 6 = .ok (.invokestatic 111, 3) := by decide +kernel
theorem dX6_writeWord_9 : decode cX6_writeWord 9 = .ok (.iload_n 1, 1) := by decide +kernel
theorem dX6_writeWord_10 : decode cX6_writeWord 10 = .ok (.iload_n 2, 1) := by decide +kernel
theorem dX6_writeWord_11 : decode cX6_writeWord 11 = .ok (.invokestatic 104, 3) := by decide +kernel
theorem dX6_writeWord_14 : decode cX6_writeWord 14 = .ok (.istore 4, 2) := by decide +kernel
theorem dX6_writeWord_16 : decode cX6_writeWord 16 = .ok (.aload_n 0, 1) := by decide +kernel
theorem dX6_writeWord_17 : decode cX6_writeWord 17 = .ok (.getfield 12, 3) := by decide +kernel
theorem dX6_writeWord_20 : decode cX6_writeWord 20 = .ok (.getfield 72, 3) := by decide +kernel
theorem dX6_writeWord_23 : decode cX6_writeWord 23 = .ok (.iload 4, 2) := by decide +kernel
theorem dX6_writeWord_25 : decode cX6_writeWord 25 = .ok (.invokevirtual 108, 3) := by decide +kernel
theorem dX6_writeWord_28 : decode cX6_writeWord 28 = .ok (.istore 5, 2) := by decide +kernel
theorem dX6_writeWord_30 : decode cX6_writeWord 30 = .ok (.aload_n 0, 1) := by decide +kernel
theorem dX6_writeWord_31 : decode cX6_writeWord 31 = .ok (.getfield 12, 3) := by decide +kernel
theorem dX6_writeWord_34 : decode cX6_writeWord 34 = .ok (.getfield 72, 3) := by decide +kernel
theorem dX6_writeWord_37 : decode cX6_writeWord 37 = .ok (.iload 4, 2) := by decide +kernel
theorem dX6_writeWord_39 : decode cX6_writeWord 39 = .ok (.iload_n 3, 1) := by decide +kernel
theorem dX6_writeWord_40 : decode cX6_writeWord 40 = .ok (.invokevirtual 80, 3) := by decide +kernel
theorem dX6_writeWord_43 : decode cX6_writeWord 43 = .ok (.iload 5, 2) := by decide +kernel
theorem dX6_writeWord_45 : decode cX6_writeWord 45 = .ok (.ireturn, 1) := by decide +kernel
theorem dX6_clearTank_0 : decode cX6_clearTank 0 = .ok (.iload_n 1, 1) := by decide +kernel
theorem dX6_clearTank_1 : decode cX6_clearTank 1 = .ok (.invokestatic 114, 3) := by decide +kernel
theorem dX6_clearTank_4 : decode cX6_clearTank 4 = .ok (.aload_n 0, 1) := by decide +kernel
theorem dX6_clearTank_5 : decode cX6_clearTank 5 = .ok (.getfield 12, 3) := by decide +kernel
theorem dX6_clearTank_8 : decode cX6_clearTank 8 = .ok (.getfield 72, 3) := by decide +kernel
theorem dX6_clearTank_11 : decode cX6_clearTank 11 = .ok (.iload_n 1, 1) := by decide +kernel
theorem dX6_clearTank_12 : decode cX6_clearTank 12 = .ok (.invokevirtual 117, 3) := by decide +kernel
theorem dX6_clearTank_15 : decode cX6_clearTank 15 = .ok (.istore_n 2, 1) := by decide +kernel
theorem dX6_clearTank_16 : decode cX6_clearTank 16 = .ok (.aload_n 0, 1) := by decide +kernel
theorem dX6_clearTank_17 : decode cX6_clearTank 17 = .ok (.getfield 12, 3) := by decide +kernel
theorem dX6_clearTank_20 : decode cX6_clearTank 20 = .ok (.getfield 72, 3) := by decide +kernel
theorem dX6_clearTank_23 : decode cX6_clearTank 23 = .ok (.iload_n 1, 1) := by decide +kernel
theorem dX6_clearTank_24 : decode cX6_clearTank 24 = .ok (.invokevirtual 120, 3) := by decide +kernel
theorem dX6_clearTank_27 : decode cX6_clearTank 27 = .ok (.iload_n 2, 1) := by decide +kernel
theorem dX6_clearTank_28 : decode cX6_clearTank 28 = .ok (.ireturn, 1) := by decide +kernel
theorem dX6_swapTanks_0 : decode cX6_swapTanks 0 = .ok (.iload_n 1, 1) := by decide +kernel
theorem dX6_swapTanks_1 : decode cX6_swapTanks 1 = .ok (.invokestatic 114, 3) := by decide +kernel
theorem dX6_swapTanks_4 : decode cX6_swapTanks 4 = .ok (.iload_n 2, 1) := by decide +kernel
theorem dX6_swapTanks_5 : decode cX6_swapTanks 5 = .ok (.invokestatic 114, 3) := by decide +kernel
theorem dX6_swapTanks_8 : decode cX6_swapTanks 8 = .ok (.aload_n 0, 1) := by decide +kernel
theorem dX6_swapTanks_9 : decode cX6_swapTanks 9 = .ok (.getfield 12, 3) := by decide +kernel
theorem dX6_swapTanks_12 : decode cX6_swapTanks 12 = .ok (.getfield 72, 3) := by decide +kernel
theorem dX6_swapTanks_15 : decode cX6_swapTanks 15 = .ok (.iload_n 1, 1) := by decide +kernel
theorem dX6_swapTanks_16 : decode cX6_swapTanks 16 = .ok (.iload_n 2, 1) := by decide +kernel
theorem dX6_swapTanks_17 : decode cX6_swapTanks 17 = .ok (.invokevirtual 123, 3) := by decide +kernel
theorem dX6_swapTanks_20 : decode cX6_swapTanks 20 = .ok (.aload_n 0, 1) := by decide +kernel
theorem dX6_swapTanks_21 : decode cX6_swapTanks 21 = .ok (.getfield 12, 3) := by decide +kernel
theorem dX6_swapTanks_24 : decode cX6_swapTanks 24 = .ok (.getfield 126, 3) := by decide +kernel
theorem dX6_swapTanks_27 : decode cX6_swapTanks 27 = .ok (.iload_n 1, 1) := by decide +kernel
theorem dX6_swapTanks_28 : decode cX6_swapTanks 28 = .ok (.iload_n 2, 1) := by decide +kernel
theorem dX6_swapTanks_29 : decode cX6_swapTanks 29 = .ok (.invokevirtual 130, 3) := by decide +kernel
theorem dX6_swapTanks_32 : decode cX6_swapTanks 32 = .ok (.return_, 1) := by decide +kernel
theorem dX6_bitCount_0 : decode cX6_bitCount 0 = .ok (.iload_n 1, 1) := by decide +kernel
theorem dX6_bitCount_1 : decode cX6_bitCount 1 = .ok (.invokestatic 114, 3) := by decide +kernel
theorem dX6_bitCount_4 : decode cX6_bitCount 4 = .ok (.aload_n 0, 1) := by decide +kernel
theorem dX6_bitCount_5 : decode cX6_bitCount 5 = .ok (.getfield 12, 3) := by decide +kernel
theorem dX6_bitCount_8 : decode cX6_bitCount 8 = .ok (.getfield 72, 3) := by decide +kernel
theorem dX6_bitCount_11 : decode cX6_bitCount 11 = .ok (.iload_n 1, 1) := by decide +kernel
theorem dX6_bitCount_12 : decode cX6_bitCount 12 = .ok (.invokevirtual 117, 3) := by decide +kernel
theorem dX6_bitCount_15 : decode cX6_bitCount 15 = .ok (.ireturn, 1) := by decide +kernel
theorem dX6_slips_0 : decode cX6_slips 0 = .ok (.iload_n 1, 1) := by decide +kernel
theorem dX6_slips_1 : decode cX6_slips 1 = .ok (.invokestatic 114, 3) := by decide +kernel
theorem dX6_slips_4 : decode cX6_slips 4 = .ok (.aload_n 0, 1) := by decide +kernel
theorem dX6_slips_5 : decode cX6_slips 5 = .ok (.getfield 12, 3) := by decide +kernel
theorem dX6_slips_8 : decode cX6_slips 8 = .ok (.getfield 72, 3) := by decide +kernel
theorem dX6_slips_11 : decode cX6_slips 11 = .ok (.iload_n 1, 1) := by decide +kernel
theorem dX6_slips_12 : decode cX6_slips 12 = .ok (.invokevirtual 133, 3) := by decide +kernel
theorem dX6_slips_15 : decode cX6_slips 15 = .ok (.ireturn, 1) := by decide +kernel
theorem dX6_dropouts_0 : decode cX6_dropouts 0 = .ok (.aload_n 0, 1) := by decide +kernel
theorem dX6_dropouts_1 : decode cX6_dropouts 1 = .ok (.getfield 12, 3) := by decide +kernel
theorem dX6_dropouts_4 : decode cX6_dropouts 4 = .ok (.getfield 72, 3) := by decide +kernel
theorem dX6_dropouts_7 : decode cX6_dropouts 7 = .ok (.getfield 136, 3) := by decide +kernel
theorem dX6_dropouts_10 : decode cX6_dropouts 10 = .ok (.ireturn, 1) := by decide +kernel
theorem dX6_setTemperature_0 : decode cX6_setTemperature 0 = .ok (.iload_n 1, 1) := by decide +kernel
theorem dX6_setTemperature_1 : decode cX6_setTemperature 1 = .ok (.invokestatic 114, 3) := by decide +kernel
theorem dX6_setTemperature_4 : decode cX6_setTemperature 4 = .ok (.iload_n 2, 1) := by decide +kernel
theorem dX6_setTemperature_5 : decode cX6_setTemperature 5 = .ok (.invokestatic 139, 3) := by decide +kernel
theorem dX6_setTemperature_8 : decode cX6_setTemperature 8 = .ok (.aload_n 0, 1) := by decide +kernel
theorem dX6_setTemperature_9 : decode cX6_setTemperature 9 = .ok (.getfield 12, 3) := by decide +kernel
theorem dX6_setTemperature_12 : decode cX6_setTemperature 12 = .ok (.getfield 126, 3) := by decide +kernel
theorem dX6_setTemperature_15 : decode cX6_setTemperature 15 = .ok (.iload_n 1, 1) := by decide +kernel
theorem dX6_setTemperature_16 : decode cX6_setTemperature 16 = .ok (.invokevirtual 142, 3) := by decide +kernel
theorem dX6_setTemperature_19 : decode cX6_setTemperature 19 = .ok (.istore_n 3, 1) := by decide +kernel
theorem dX6_setTemperature_20 : decode cX6_setTemperature 20 = .ok (.aload_n 0, 1) := by decide +kernel
theorem dX6_setTemperature_21 : decode cX6_setTemperature 21 = .ok (.getfield 12, 3) := by decide +kernel
theorem dX6_setTemperature_24 : decode cX6_setTemperature 24 = .ok (.getfield 126, 3) := by decide +kernel
theorem dX6_setTemperature_27 : decode cX6_setTemperature 27 = .ok (.iload_n 1, 1) := by decide +kernel
theorem dX6_setTemperature_28 : decode cX6_setTemperature 28 = .ok (.iload_n 2, 1) := by decide +kernel
theorem dX6_setTemperature_29 : decode cX6_setTemperature 29 = .ok (.invokevirtual 145, 3) := by decide +kernel
theorem dX6_setTemperature_32 : decode cX6_setTemperature 32 = .ok (.iload_n 3, 1) := by decide +kernel
theorem dX6_setTemperature_33 : decode cX6_setTemperature 33 = .ok (.ireturn, 1) := by decide +kernel
theorem dX6_temperature_0 : decode cX6_temperature 0 = .ok (.iload_n 1, 1) := by decide +kernel
theorem dX6_temperature_1 : decode cX6_temperature 1 = .ok (.invokestatic 114, 3) := by decide +kernel
theorem dX6_temperature_4 : decode cX6_temperature 4 = .ok (.aload_n 0, 1) := by decide +kernel
theorem dX6_temperature_5 : decode cX6_temperature 5 = .ok (.getfield 12, 3) := by decide +kernel
theorem dX6_temperature_8 : decode cX6_temperature 8 = .ok (.getfield 126, 3) := by decide +kernel
theorem dX6_temperature_11 : decode cX6_temperature 11 = .ok (.iload_n 1, 1) := by decide +kernel
theorem dX6_temperature_12 : decode cX6_temperature 12 = .ok (.invokevirtual 142, 3) := by decide +kernel
theorem dX6_temperature_15 : decode cX6_temperature 15 = .ok (.ireturn, 1) := by decide +kernel
theorem dX6_setOven_0 : decode cX6_setOven 0 = .ok (.iload_n 1, 1) := by decide +kernel
theorem dX6_setOven_1 : decode cX6_setOven 1 = .ok (.invokestatic 139, 3) := by decide +kernel
theorem dX6_setOven_4 : decode cX6_setOven 4 = .ok (.aload_n 0, 1) := by decide +kernel
theorem dX6_setOven_5 : decode cX6_setOven 5 = .ok (.getfield 12, 3) := by decide +kernel
theorem dX6_setOven_8 : decode cX6_setOven 8 = .ok (.getfield 126, 3) := by decide +kernel
theorem dX6_setOven_11 : decode cX6_setOven 11 = .ok (.getfield 148, 3) := by decide +kernel
theorem dX6_setOven_14 : decode cX6_setOven 14 = .ok (.istore_n 2, 1) := by decide +kernel
theorem dX6_setOven_15 : decode cX6_setOven 15 = .ok (.aload_n 0, 1) := by decide +kernel
theorem dX6_setOven_16 : decode cX6_setOven 16 = .ok (.getfield 12, 3) := by decide +kernel
theorem dX6_setOven_19 : decode cX6_setOven 19 = .ok (.getfield 126, 3) := by decide +kernel
theorem dX6_setOven_22 : decode cX6_setOven 22 = .ok (.iload_n 1, 1) := by decide +kernel
theorem dX6_setOven_23 : decode cX6_setOven 23 = .ok (.putfield 148, 3) := by decide +kernel
theorem dX6_setOven_26 : decode cX6_setOven 26 = .ok (.iload_n 2, 1) := by decide +kernel
theorem dX6_setOven_27 : decode cX6_setOven 27 = .ok (.ireturn, 1) := by decide +kernel
theorem dX6_setPilotTemperature_0 : decode cX6_setPilotTemperature 0 = .ok (.iload_n 1, 1) := by decide +kernel
theorem dX6_setPilotTemperature_1 : decode cX6_setPilotTemperature 1 = .ok (.invokestatic 139, 3) := by decide +kernel
theorem dX6_setPilotTemperature_4 : decode cX6_setPilotTemperature 4 = .ok (.aload_n 0, 1) := by decide +kernel
theorem dX6_setPilotTemperature_5 : decode cX6_setPilotTemperature 5 = .ok (.getfield 12, 3) := by decide +kernel
theorem dX6_setPilotTemperature_8 : decode cX6_setPilotTemperature 8 = .ok (.getfield 126, 3) := by decide +kernel
theorem dX6_setPilotTemperature_11 : decode cX6_setPilotTemperature 11 = .ok (.getfield 151, 3) := by decide +kernel
theorem dX6_setPilotTemperature_14 : decode cX6_setPilotTemperature 14 = .ok (.istore_n 2, 1) := by decide +kernel
theorem dX6_setPilotTemperature_15 : decode cX6_setPilotTemperature 15 = .ok (.aload_n 0, 1) := by decide +kernel
theorem dX6_setPilotTemperature_16 : decode cX6_setPilotTemperature 16 = .ok (.getfield 12, 3) := by decide +kernel
theorem dX6_setPilotTemperature_19 : decode cX6_setPilotTemperature 19 = .ok (.getfield 126, 3) := by decide +kernel
theorem dX6_setPilotTemperature_22 : decode cX6_setPilotTemperature 22 = .ok (.iload_n 1, 1) := by decide +kernel
theorem dX6_setPilotTemperature_23 : decode cX6_setPilotTemperature 23 = .ok (.putfield 151, 3) := by decide +kernel
theorem dX6_setPilotTemperature_26 : decode cX6_setPilotTemperature 26 = .ok (.iload_n 2, 1) := by decide +kernel
theorem dX6_setPilotTemperature_27 : decode cX6_setPilotTemperature 27 = .ok (.ireturn, 1) := by decide +kernel
theorem dX6_setPilot_0 : decode cX6_setPilot 0 = .ok (.aload_n 0, 1) := by decide +kernel
theorem dX6_setPilot_1 : decode cX6_setPilot 1 = .ok (.getfield 12, 3) := by decide +kernel
theorem dX6_setPilot_4 : decode cX6_setPilot 4 = .ok (.getfield 126, 3) := by decide +kernel
theorem dX6_setPilot_7 : decode cX6_setPilot 7 = .ok (.getfield 154, 3) := by decide +kernel
theorem dX6_setPilot_10 : decode cX6_setPilot 10 = .ok (.istore_n 2, 1) := by decide +kernel
theorem dX6_setPilot_11 : decode cX6_setPilot 11 = .ok (.aload_n 0, 1) := by decide +kernel
theorem dX6_setPilot_12 : decode cX6_setPilot 12 = .ok (.getfield 12, 3) := by decide +kernel
theorem dX6_setPilot_15 : decode cX6_setPilot 15 = .ok (.getfield 126, 3) := by decide +kernel
theorem dX6_setPilot_18 : decode cX6_setPilot 18 = .ok (.iload_n 1, 1) := by decide +kernel
theorem dX6_setPilot_19 : decode cX6_setPilot 19 = .ok (.putfield 154, 3) := by decide +kernel
theorem dX6_setPilot_22 : decode cX6_setPilot 22 = .ok (.iload_n 2, 1) := by decide +kernel
theorem dX6_setPilot_23 : decode cX6_setPilot 23 = .ok (.ireturn, 1) := by decide +kernel
theorem dX6_setFixedPeriod_0 : decode cX6_setFixedPeriod 0 = .ok (.iload_n 1, 1) := by decide +kernel
theorem dX6_setFixedPeriod_1 : decode cX6_setFixedPeriod 1 = .ok (.ldc 158, 2) := by decide +kernel
theorem dX6_setFixedPeriod_3 : decode cX6_setFixedPeriod 3 = .ok (.if_icmp .lt 9, 3) := by decide +kernel
theorem dX6_setFixedPeriod_6 : decode cX6_setFixedPeriod 6 = .ok (.iload_n 1, 1) := by decide +kernel
theorem dX6_setFixedPeriod_7 : decode cX6_setFixedPeriod 7 = .ok (.ldc 159, 2) := by decide +kernel
theorem dX6_setFixedPeriod_9 : decode cX6_setFixedPeriod 9 = .ok (.if_icmp .le 13, 3) := by decide +kernel
theorem dX6_setFixedPeriod_12 : decode cX6_setFixedPeriod 12 = .ok (.new 63, 3) := by decide +kernel
theorem dX6_setFixedPeriod_15 : decode cX6_setFixedPeriod 15 = .ok (.dup, 1) := by decide +kernel
theorem dX6_setFixedPeriod_16 : decode cX6_setFixedPeriod 16 = .ok (.ldc 160, 2) := by decide +kernel
theorem dX6_setFixedPeriod_18 : decode cX6_setFixedPeriod 18 = .ok (.invokespecial 67, 3) := by decide +kernel
theorem dX6_setFixedPeriod_21 : decode cX6_setFixedPeriod 21 = .ok (.athrow, 1) := by decide +kernel
theorem dX6_setFixedPeriod_22 : decode cX6_setFixedPeriod 22 = .ok (.aload_n 0, 1) := by decide +kernel
theorem dX6_setFixedPeriod_23 : decode cX6_setFixedPeriod 23 = .ok (.getfield 12, 3) := by decide +kernel
theorem dX6_setFixedPeriod_26 : decode cX6_setFixedPeriod 26 = .ok (.getfield 126, 3) := by decide +kernel
theorem dX6_setFixedPeriod_29 : decode cX6_setFixedPeriod 29 = .ok (.getfield 162, 3) := by decide +kernel
theorem dX6_setFixedPeriod_32 : decode cX6_setFixedPeriod 32 = .ok (.istore_n 2, 1) := by decide +kernel
theorem dX6_setFixedPeriod_33 : decode cX6_setFixedPeriod 33 = .ok (.aload_n 0, 1) := by decide +kernel
theorem dX6_setFixedPeriod_34 : decode cX6_setFixedPeriod 34 = .ok (.getfield 12, 3) := by decide +kernel
theorem dX6_setFixedPeriod_37 : decode cX6_setFixedPeriod 37 = .ok (.getfield 126, 3) := by decide +kernel
theorem dX6_setFixedPeriod_40 : decode cX6_setFixedPeriod 40 = .ok (.iload_n 1, 1) := by decide +kernel
theorem dX6_setFixedPeriod_41 : decode cX6_setFixedPeriod 41 = .ok (.putfield 162, 3) := by decide +kernel
theorem dX6_setFixedPeriod_44 : decode cX6_setFixedPeriod 44 = .ok (.iload_n 2, 1) := by decide +kernel
theorem dX6_setFixedPeriod_45 : decode cX6_setFixedPeriod 45 = .ok (.ireturn, 1) := by decide +kernel
theorem dX6_period_0 : decode cX6_period 0 = .ok (.aload_n 0, 1) := by decide +kernel
theorem dX6_period_1 : decode cX6_period 1 = .ok (.getfield 12, 3) := by decide +kernel
theorem dX6_period_4 : decode cX6_period 4 = .ok (.getfield 126, 3) := by decide +kernel
theorem dX6_period_7 : decode cX6_period 7 = .ok (.invokevirtual 165, 3) := by decide +kernel
theorem dX6_period_10 : decode cX6_period 10 = .ok (.ireturn, 1) := by decide +kernel
theorem dX6_mismatch_0 : decode cX6_mismatch 0 = .ok (.iload_n 1, 1) := by decide +kernel
theorem dX6_mismatch_1 : decode cX6_mismatch 1 = .ok (.invokestatic 114, 3) := by decide +kernel
theorem dX6_mismatch_4 : decode cX6_mismatch 4 = .ok (.aload_n 0, 1) := by decide +kernel
theorem dX6_mismatch_5 : decode cX6_mismatch 5 = .ok (.getfield 12, 3) := by decide +kernel
theorem dX6_mismatch_8 : decode cX6_mismatch 8 = .ok (.getfield 126, 3) := by decide +kernel
theorem dX6_mismatch_11 : decode cX6_mismatch 11 = .ok (.astore_n 2, 1) := by decide +kernel
theorem dX6_mismatch_12 : decode cX6_mismatch 12 = .ok (.aload_n 2, 1) := by decide +kernel
theorem dX6_mismatch_13 : decode cX6_mismatch 13 = .ok (.iload_n 1, 1) := by decide +kernel
theorem dX6_mismatch_14 : decode cX6_mismatch 14 = .ok (.invokevirtual 142, 3) := by decide +kernel
theorem dX6_mismatch_17 : decode cX6_mismatch 17 = .ok (.aload_n 2, 1) := by decide +kernel
theorem dX6_mismatch_18 : decode cX6_mismatch 18 = .ok (.invokevirtual 165, 3) := by decide +kernel
theorem dX6_mismatch_21 : decode cX6_mismatch 21 = .ok (.invokestatic 169, 3) := by decide +kernel
theorem dX6_mismatch_24 : decode cX6_mismatch 24 = .ok (.ireturn, 1) := by decide +kernel
theorem dX6_start_0 : decode cX6_start 0 = .ok (.iload_n 1, 1) := by decide +kernel
theorem dX6_start_1 : decode cX6_start 1 = .ok (.iload_n 2, 1) := by decide +kernel
theorem dX6_start_2 : decode cX6_start 2 = .ok (.invokestatic 101, 3) := by decide +kernel
theorem dX6_start_5 : decode cX6_start 5 = .ok (.aload_n 0, 1) := by decide +kernel
theorem dX6_start_6 : decode cX6_start 6 = .ok (.getfield 12, 3) := by decide +kernel
theorem dX6_start_9 : decode cX6_start 9 = .ok (.iload_n 1, 1) := by decide +kernel
theorem dX6_start_10 : decode cX6_start 10 = .ok (.iload_n 2, 1) := by decide +kernel
theorem dX6_start_11 : decode cX6_start 11 = .ok (.invokestatic 104, 3) := by decide +kernel
theorem dX6_start_14 : decode cX6_start 14 = .ok (.invokevirtual 89, 3) := by decide +kernel
theorem dX6_start_17 : decode cX6_start 17 = .ok (.return_, 1) := by decide +kernel
theorem dX6_run_0 : decode cX6_run 0 = .ok (.iload_n 1, 1) := by decide +kernel
theorem dX6_run_1 : decode cX6_run 1 = .ok (.sipush 500, 3) := by decide +kernel
theorem dX6_run_4 : decode cX6_run 4 = .ok (.invokestatic 186, 3) := by decide +kernel
theorem dX6_run_7 : decode cX6_run 7 = .ok (.aload_n 0, 1) := by decide +kernel
theorem dX6_run_8 : decode cX6_run 8 = .ok (.invokevirtual 189, 3) := by decide +kernel
theorem dX6_run_11 : decode cX6_run 11 = .ok (.aload_n 0, 1) := by decide +kernel
theorem dX6_run_12 : decode cX6_run 12 = .ok (.getfield 12, 3) := by decide +kernel
theorem dX6_run_15 : decode cX6_run 15 = .ok (.iload_n 1, 1) := by decide +kernel
theorem dX6_run_16 : decode cX6_run 16 = .ok (.invokevirtual 192, 3) := by decide +kernel
theorem dX6_run_19 : decode cX6_run 19 = .ok (.ireturn, 1) := by decide +kernel
theorem dX6_idle_0 : decode cX6_idle 0 = .ok (.iload_n 1, 1) := by decide +kernel
theorem dX6_idle_1 : decode cX6_idle 1 = .ok (.sipush 3200, 3) := by decide +kernel
theorem dX6_idle_4 : decode cX6_idle 4 = .ok (.invokestatic 186, 3) := by decide +kernel
theorem dX6_idle_7 : decode cX6_idle 7 = .ok (.aload_n 0, 1) := by decide +kernel
theorem dX6_idle_8 : decode cX6_idle 8 = .ok (.getfield 12, 3) := by decide +kernel
theorem dX6_idle_11 : decode cX6_idle 11 = .ok (.iload_n 1, 1) := by decide +kernel
theorem dX6_idle_12 : decode cX6_idle 12 = .ok (.invokevirtual 195, 3) := by decide +kernel
theorem dX6_idle_15 : decode cX6_idle 15 = .ok (.aload_n 0, 1) := by decide +kernel
theorem dX6_idle_16 : decode cX6_idle 16 = .ok (.getfield 12, 3) := by decide +kernel
theorem dX6_idle_19 : decode cX6_idle 19 = .ok (.getfield 198, 3) := by decide +kernel
theorem dX6_idle_22 : decode cX6_idle 22 = .ok (.ireturn, 1) := by decide +kernel
theorem dX6_time_0 : decode cX6_time 0 = .ok (.aload_n 0, 1) := by decide +kernel
theorem dX6_time_1 : decode cX6_time 1 = .ok (.getfield 12, 3) := by decide +kernel
theorem dX6_time_4 : decode cX6_time 4 = .ok (.getfield 198, 3) := by decide +kernel
theorem dX6_time_7 : decode cX6_time 7 = .ok (.ireturn, 1) := by decide +kernel
theorem dX6_state_0 : decode cX6_state 0 = .ok (.aload_n 0, 1) := by decide +kernel
theorem dX6_state_1 : decode cX6_state 1 = .ok (.getfield 12, 3) := by decide +kernel
theorem dX6_state_4 : decode cX6_state 4 = .ok (.getfield 201, 3) := by decide +kernel
theorem dX6_state_7 : decode cX6_state 7 = .ok (.ireturn, 1) := by decide +kernel
theorem dX6_accumulator_0 : decode cX6_accumulator 0 = .ok (.aload_n 0, 1) := by decide +kernel
theorem dX6_accumulator_1 : decode cX6_accumulator 1 = .ok (.getfield 12, 3) := by decide +kernel
theorem dX6_accumulator_4 : decode cX6_accumulator 4 = .ok (.getfield 204, 3) := by decide +kernel
theorem dX6_accumulator_7 : decode cX6_accumulator 7 = .ok (.ireturn, 1) := by decide +kernel
theorem dX6_hasOverflow_0 : decode cX6_hasOverflow 0 = .ok (.aload_n 0, 1) := by decide +kernel
theorem dX6_hasOverflow_1 : decode cX6_hasOverflow 1 = .ok (.getfield 12, 3) := by decide +kernel
theorem dX6_hasOverflow_4 : decode cX6_hasOverflow 4 = .ok (.getfield 207, 3) := by decide +kernel
theorem dX6_hasOverflow_7 : decode cX6_hasOverflow 7 = .ok (.ireturn, 1) := by decide +kernel
theorem dX6_location_0 : decode cX6_location 0 = .ok (.aload_n 0, 1) := by decide +kernel
theorem dX6_location_1 : decode cX6_location 1 = .ok (.getfield 12, 3) := by decide +kernel
theorem dX6_location_4 : decode cX6_location 4 = .ok (.getfield 210, 3) := by decide +kernel
theorem dX6_location_7 : decode cX6_location 7 = .ok (.ireturn, 1) := by decide +kernel
theorem dX6_offerInput_0 : decode cX6_offerInput 0 = .ok (.iload_n 1, 1) := by decide +kernel
theorem dX6_offerInput_1 : decode cX6_offerInput 1 = .ok (.invokestatic 111, 3) := by decide +kernel
theorem dX6_offerInput_4 : decode cX6_offerInput 4 = .ok (.aload_n 0, 1) := by decide +kernel
theorem dX6_offerInput_5 : decode cX6_offerInput 5 = .ok (.getfield 12, 3) := by decide +kernel
theorem dX6_offerInput_8 : decode cX6_offerInput 8 = .ok (.getfield 213, 3) := by decide +kernel
theorem dX6_offerInput_11 : decode cX6_offerInput 11 = .ok (.invokevirtual 217, 3) := by decide +kernel
theorem dX6_offerInput_14 : decode cX6_offerInput 14 = .ok (.ifCond .eq 13, 3) := by decide +kernel
theorem dX6_offerInput_17 : decode cX6_offerInput 17 = .ok (.new 43, 3) := by decide +kernel
theorem dX6_offerInput_20 : decode cX6_offerInput 20 = .ok (.dup, 1) := by decide +kernel
theorem dX6_offerInput_21 : decode cX6_offerInput 21 = .ok (.ldc 222, 2) := by decide +kernel
theorem dX6_offerInput_23 : decode cX6_offerInput 23 = .ok (.invokespecial 47, 3) := by decide +kernel
theorem dX6_offerInput_26 : decode cX6_offerInput 26 = .ok (.athrow, 1) := by decide +kernel
theorem dX6_offerInput_27 : decode cX6_offerInput 27 = .ok (.aload_n 0, 1) := by decide +kernel
theorem dX6_offerInput_28 : decode cX6_offerInput 28 = .ok (.getfield 12, 3) := by decide +kernel
theorem dX6_offerInput_31 : decode cX6_offerInput 31 = .ok (.getfield 213, 3) := by decide +kernel
theorem dX6_offerInput_34 : decode cX6_offerInput 34 = .ok (.iload_n 1, 1) := by decide +kernel
theorem dX6_offerInput_35 : decode cX6_offerInput 35 = .ok (.invokevirtual 224, 3) := by decide +kernel
theorem dX6_offerInput_38 : decode cX6_offerInput 38 = .ok (.aload_n 0, 1) := by decide +kernel
theorem dX6_offerInput_39 : decode cX6_offerInput 39 = .ok (.getfield 12, 3) := by decide +kernel
theorem dX6_offerInput_42 : decode cX6_offerInput 42 = .ok (.getfield 201, 3) := by decide +kernel
theorem dX6_offerInput_45 : decode cX6_offerInput 45 = .ok (.iconst 2, 1) := by decide +kernel
theorem dX6_offerInput_46 : decode cX6_offerInput 46 = .ok (.if_icmp .ne 11, 3) := by decide +kernel
theorem dX6_offerInput_49 : decode cX6_offerInput 49 = .ok (.aload_n 0, 1) := by decide +kernel
theorem dX6_offerInput_50 : decode cX6_offerInput 50 = .ok (.getfield 12, 3) := by decide +kernel
theorem dX6_offerInput_53 : decode cX6_offerInput 53 = .ok (.iconst 0, 1) := by decide +kernel
theorem dX6_offerInput_54 : decode cX6_offerInput 54 = .ok (.putfield 201, 3) := by decide +kernel
theorem dX6_offerInput_57 : decode cX6_offerInput 57 = .ok (.aload_n 0, 1) := by decide +kernel
theorem dX6_offerInput_58 : decode cX6_offerInput 58 = .ok (.getfield 12, 3) := by decide +kernel
theorem dX6_offerInput_61 : decode cX6_offerInput 61 = .ok (.getfield 213, 3) := by decide +kernel
theorem dX6_offerInput_64 : decode cX6_offerInput 64 = .ok (.getfield 227, 3) := by decide +kernel
theorem dX6_offerInput_67 : decode cX6_offerInput 67 = .ok (.ireturn, 1) := by decide +kernel
theorem dX6_takeOutput_0 : decode cX6_takeOutput 0 = .ok (.aload_n 0, 1) := by decide +kernel
theorem dX6_takeOutput_1 : decode cX6_takeOutput 1 = .ok (.getfield 12, 3) := by decide +kernel
theorem dX6_takeOutput_4 : decode cX6_takeOutput 4 = .ok (.getfield 228, 3) := by decide +kernel
theorem dX6_takeOutput_7 : decode cX6_takeOutput 7 = .ok (.getfield 227, 3) := by decide +kernel
theorem dX6_takeOutput_10 : decode cX6_takeOutput 10 = .ok (.ifCond .ne 13, 3) := by decide +kernel
theorem dX6_takeOutput_13 : decode cX6_takeOutput 13 = .ok (.new 231, 3) := by decide +kernel
theorem dX6_takeOutput_16 : decode cX6_takeOutput 16 = .ok (.dup, 1) := by decide +kernel
theorem dX6_takeOutput_17 : decode cX6_takeOutput 17 = .ok (.ldc 233, 2) := by decide +kernel
theorem dX6_takeOutput_19 : decode cX6_takeOutput 19 = .ok (.invokespecial 235, 3) := by decide +kernel
theorem dX6_takeOutput_22 : decode cX6_takeOutput 22 = .ok (.athrow, 1) := by decide +kernel
theorem dX6_takeOutput_23 : decode cX6_takeOutput 23 = .ok (.aload_n 0, 1) := by decide +kernel
theorem dX6_takeOutput_24 : decode cX6_takeOutput 24 = .ok (.getfield 12, 3) := by decide +kernel
theorem dX6_takeOutput_27 : decode cX6_takeOutput 27 = .ok (.getfield 201, 3) := by decide +kernel
theorem dX6_takeOutput_30 : decode cX6_takeOutput 30 = .ok (.iconst 3, 1) := by decide +kernel
theorem dX6_takeOutput_31 : decode cX6_takeOutput 31 = .ok (.if_icmp .ne 11, 3) := by decide +kernel
theorem dX6_takeOutput_34 : decode cX6_takeOutput 34 = .ok (.aload_n 0, 1) := by decide +kernel
theorem dX6_takeOutput_35 : decode cX6_takeOutput 35 = .ok (.getfield 12, 3) := by decide +kernel
theorem dX6_takeOutput_38 : decode cX6_takeOutput 38 = .ok (.iconst 0, 1) := by decide +kernel
theorem dX6_takeOutput_39 : decode cX6_takeOutput 39 = .ok (.putfield 201, 3) := by decide +kernel
theorem dX6_takeOutput_42 : decode cX6_takeOutput 42 = .ok (.aload_n 0, 1) := by decide +kernel
theorem dX6_takeOutput_43 : decode cX6_takeOutput 43 = .ok (.getfield 12, 3) := by decide +kernel
theorem dX6_takeOutput_46 : decode cX6_takeOutput 46 = .ok (.getfield 228, 3) := by decide +kernel
theorem dX6_takeOutput_49 : decode cX6_takeOutput 49 = .ok (.invokevirtual 236, 3) := by decide +kernel
theorem dX6_takeOutput_52 : decode cX6_takeOutput 52 = .ok (.ireturn, 1) := by decide +kernel
theorem dX6_outputLength_0 : decode cX6_outputLength 0 = .ok (.aload_n 0, 1) := by decide +kernel
theorem dX6_outputLength_1 : decode cX6_outputLength 1 = .ok (.getfield 12, 3) := by decide +kernel
theorem dX6_outputLength_4 : decode cX6_outputLength 4 = .ok (.getfield 228, 3) := by decide +kernel
theorem dX6_outputLength_7 : decode cX6_outputLength 7 = .ok (.getfield 227, 3) := by decide +kernel
theorem dX6_outputLength_10 : decode cX6_outputLength 10 = .ok (.ireturn, 1) := by decide +kernel
theorem dX6_executed_0 : decode cX6_executed 0 = .ok (.aload_n 0, 1) := by decide +kernel
theorem dX6_executed_1 : decode cX6_executed 1 = .ok (.getfield 12, 3) := by decide +kernel
theorem dX6_executed_4 : decode cX6_executed 4 = .ok (.getfield 239, 3) := by decide +kernel
theorem dX6_executed_7 : decode cX6_executed 7 = .ok (.ireturn, 1) := by decide +kernel
theorem dX6_executedAt_0 : decode cX6_executedAt 0 = .ok (.iload_n 1, 1) := by decide +kernel
theorem dX6_executedAt_1 : decode cX6_executedAt 1 = .ok (.iload_n 2, 1) := by decide +kernel
theorem dX6_executedAt_2 : decode cX6_executedAt 2 = .ok (.invokestatic 101, 3) := by decide +kernel
theorem dX6_executedAt_5 : decode cX6_executedAt 5 = .ok (.aload_n 0, 1) := by decide +kernel
theorem dX6_executedAt_6 : decode cX6_executedAt 6 = .ok (.getfield 12, 3) := by decide +kernel
theorem dX6_executedAt_9 : decode cX6_executedAt 9 = .ok (.iload_n 1, 1) := by decide +kernel
theorem dX6_executedAt_10 : decode cX6_executedAt 10 = .ok (.iload_n 2, 1) := by decide +kernel
theorem dX6_executedAt_11 : decode cX6_executedAt 11 = .ok (.invokestatic 104, 3) := by decide +kernel
theorem dX6_executedAt_14 : decode cX6_executedAt 14 = .ok (.invokevirtual 242, 3) := by decide +kernel
theorem dX6_executedAt_17 : decode cX6_executedAt 17 = .ok (.ireturn, 1) := by decide +kernel
theorem dX6_waited_0 : decode cX6_waited 0 = .ok (.aload_n 0, 1) := by decide +kernel
theorem dX6_waited_1 : decode cX6_waited 1 = .ok (.getfield 12, 3) := by decide +kernel
theorem dX6_waited_4 : decode cX6_waited 4 = .ok (.getfield 245, 3) := by decide +kernel
theorem dX6_waited_7 : decode cX6_waited 7 = .ok (.ireturn, 1) := by decide +kernel
theorem dX6_predictTime_0 : decode cX6_predictTime 0 = .ok (.iload_n 1, 1) := by decide +kernel
theorem dX6_predictTime_1 : decode cX6_predictTime 1 = .ok (.sipush 500, 3) := by decide +kernel
theorem dX6_predictTime_4 : decode cX6_predictTime 4 = .ok (.invokestatic 186, 3) := by decide +kernel
theorem dX6_predictTime_7 : decode cX6_predictTime 7 = .ok (.aload_n 0, 1) := by decide +kernel
theorem dX6_predictTime_8 : decode cX6_predictTime 8 = .ok (.invokevirtual 189, 3) := by decide +kernel
theorem dX6_predictTime_11 : decode cX6_predictTime 11 = .ok (.aload_n 0, 1) := by decide +kernel
theorem dX6_predictTime_12 : decode cX6_predictTime 12 = .ok (.getfield 16, 3) := by decide +kernel
theorem dX6_predictTime_15 : decode cX6_predictTime 15 = .ok (.aload_n 0, 1) := by decide +kernel
theorem dX6_predictTime_16 : decode cX6_predictTime 16 = .ok (.getfield 12, 3) := by decide +kernel
theorem dX6_predictTime_19 : decode cX6_predictTime 19 = .ok (.invokevirtual 248, 3) := by decide +kernel
theorem dX6_predictTime_22 : decode cX6_predictTime 22 = .ok (.aload_n 0, 1) := by decide +kernel
theorem dX6_predictTime_23 : decode cX6_predictTime 23 = .ok (.getfield 16, 3) := by decide +kernel
theorem dX6_predictTime_26 : decode cX6_predictTime 26 = .ok (.iload_n 1, 1) := by decide +kernel
theorem dX6_predictTime_27 : decode cX6_predictTime 27 = .ok (.invokevirtual 192, 3) := by decide +kernel
theorem dX6_predictTime_30 : decode cX6_predictTime 30 = .ok (.pop, 1) := by decide +kernel
theorem dX6_predictTime_31 : decode cX6_predictTime 31 = .ok (.aload_n 0, 1) := by decide +kernel
theorem dX6_predictTime_32 : decode cX6_predictTime 32 = .ok (.getfield 16, 3) := by decide +kernel
theorem dX6_predictTime_35 : decode cX6_predictTime 35 = .ok (.getfield 198, 3) := by decide +kernel
theorem dX6_predictTime_38 : decode cX6_predictTime 38 = .ok (.aload_n 0, 1) := by decide +kernel
theorem dX6_predictTime_39 : decode cX6_predictTime 39 = .ok (.getfield 12, 3) := by decide +kernel
theorem dX6_predictTime_42 : decode cX6_predictTime 42 = .ok (.getfield 198, 3) := by decide +kernel
theorem dX6_predictTime_45 : decode cX6_predictTime 45 = .ok (.isub, 1) := by decide +kernel
theorem dX6_predictTime_46 : decode cX6_predictTime 46 = .ok (.ireturn, 1) := by decide +kernel
theorem dX6_requireTank_0 : decode cX6_requireTank 0 = .ok (.iload_n 0, 1) := by decide +kernel
theorem dX6_requireTank_1 : decode cX6_requireTank 1 = .ok (.ifCond .lt 9, 3) := by decide +kernel
theorem dX6_requireTank_4 : decode cX6_requireTank 4 = .ok (.iload_n 0, 1) := by decide +kernel
theorem dX6_requireTank_5 : decode cX6_requireTank 5 = .ok (.bipush 8, 2) := by decide +kernel
theorem dX6_requireTank_7 : decode cX6_requireTank 7 = .ok (.if_icmp .lt 14, 3) := by decide +kernel
theorem dX6_requireTank_10 : decode cX6_requireTank 10 = .ok (.new 54, 3) := by decide +kernel
theorem dX6_requireTank_13 : decode cX6_requireTank 13 = .ok (.dup, 1) := by decide +kernel
theorem dX6_requireTank_14 : decode cX6_requireTank 14 = .ok (.ldc_w 326, 3) := by decide +kernel
theorem dX6_requireTank_17 : decode cX6_requireTank 17 = .ok (.invokespecial 58, 3) := by decide +kernel
theorem dX6_requireTank_20 : decode cX6_requireTank 20 = .ok (.athrow, 1) := by decide +kernel
theorem dX6_requireTank_21 : decode cX6_requireTank 21 = .ok (.return_, 1) := by decide +kernel
theorem dX6_requireLocation_0 : decode cX6_requireLocation 0 = .ok (.iload_n 0, 1) := by decide +kernel
theorem dX6_requireLocation_1 : decode cX6_requireLocation 1 = .ok (.ifCond .lt 19, 3) := by decide +kernel
theorem dX6_requireLocation_4 : decode cX6_requireLocation 4 = .ok (.iload_n 0, 1) := by decide +kernel
theorem dX6_requireLocation_5 : decode cX6_requireLocation 5 = .ok (.bipush 8, 2) := by decide +kernel
theorem dX6_requireLocation_7 : decode cX6_requireLocation 7 = .ok (.if_icmp .ge 13, 3) := by decide +kernel
theorem dX6_requireLocation_10 : decode cX6_requireLocation 10 = .ok (.iload_n 1, 1) := by decide +kernel
theorem dX6_requireLocation_11 : decode cX6_requireLocation 11 = .ok (.ifCond .lt 9, 3) := by decide +kernel
theorem dX6_requireLocation_14 : decode cX6_requireLocation 14 = .ok (.iload_n 1, 1) := by decide +kernel
theorem dX6_requireLocation_15 : decode cX6_requireLocation 15 = .ok (.bipush 32, 2) := by decide +kernel
theorem dX6_requireLocation_17 : decode cX6_requireLocation 17 = .ok (.if_icmp .lt 14, 3) := by decide +kernel
theorem dX6_requireLocation_20 : decode cX6_requireLocation 20 = .ok (.new 54, 3) := by decide +kernel
theorem dX6_requireLocation_23 : decode cX6_requireLocation 23 = .ok (.dup, 1) := by decide +kernel
theorem dX6_requireLocation_24 : decode cX6_requireLocation 24 = .ok (.ldc_w 328, 3) := by decide +kernel
theorem dX6_requireLocation_27 : decode cX6_requireLocation 27 = .ok (.invokespecial 58, 3) := by decide +kernel
theorem dX6_requireLocation_30 : decode cX6_requireLocation 30 = .ok (.athrow, 1) := by decide +kernel
theorem dX6_requireLocation_31 : decode cX6_requireLocation 31 = .ok (.return_, 1) := by decide +kernel
theorem dX6_requireWord_0 : decode cX6_requireWord 0 = .ok (.iload_n 0, 1) := by decide +kernel
theorem dX6_requireWord_1 : decode cX6_requireWord 1 = .ok (.ldc_w 330, 3) := by decide +kernel
theorem dX6_requireWord_4 : decode cX6_requireWord 4 = .ok (.if_icmp .lt 10, 3) := by decide +kernel
theorem dX6_requireWord_7 : decode cX6_requireWord 7 = .ok (.iload_n 0, 1) := by decide +kernel
theorem dX6_requireWord_8 : decode cX6_requireWord 8 = .ok (.ldc_w 331, 3) := by decide +kernel
theorem dX6_requireWord_11 : decode cX6_requireWord 11 = .ok (.if_icmp .le 14, 3) := by decide +kernel
theorem dX6_requireWord_14 : decode cX6_requireWord 14 = .ok (.new 63, 3) := by decide +kernel
theorem dX6_requireWord_17 : decode cX6_requireWord 17 = .ok (.dup, 1) := by decide +kernel
theorem dX6_requireWord_18 : decode cX6_requireWord 18 = .ok (.ldc_w 332, 3) := by decide +kernel
theorem dX6_requireWord_21 : decode cX6_requireWord 21 = .ok (.invokespecial 67, 3) := by decide +kernel
theorem dX6_requireWord_24 : decode cX6_requireWord 24 = .ok (.athrow, 1) := by decide +kernel
theorem dX6_requireWord_25 : decode cX6_requireWord 25 = .ok (.return_, 1) := by decide +kernel
theorem dX6_requireTemperature_0 : decode cX6_requireTemperature 0 = .ok (.iload_n 0, 1) := by decide +kernel
theorem dX6_requireTemperature_1 : decode cX6_requireTemperature 1 = .ok (.ifCond .lt 10, 3) := by decide +kernel
theorem dX6_requireTemperature_4 : decode cX6_requireTemperature 4 = .ok (.iload_n 0, 1) := by decide +kernel
theorem dX6_requireTemperature_5 : decode cX6_requireTemperature 5 = .ok (.sipush 1000, 3) := by decide +kernel
theorem dX6_requireTemperature_8 : decode cX6_requireTemperature 8 = .ok (.if_icmp .le 14, 3) := by decide +kernel
theorem dX6_requireTemperature_11 : decode cX6_requireTemperature 11 = .ok (.new 63, 3) := by decide +kernel
theorem dX6_requireTemperature_14 : decode cX6_requireTemperature 14 = .ok (.dup, 1) := by decide +kernel
theorem dX6_requireTemperature_15 : decode cX6_requireTemperature 15 = .ok (.ldc_w 334, 3) := by decide +kernel
theorem dX6_requireTemperature_18 : decode cX6_requireTemperature 18 = .ok (.invokespecial 67, 3) := by decide +kernel
theorem dX6_requireTemperature_21 : decode cX6_requireTemperature 21 = .ok (.athrow, 1) := by decide +kernel
theorem dX6_requireTemperature_22 : decode cX6_requireTemperature 22 = .ok (.return_, 1) := by decide +kernel
theorem dX6_requireCount_0 : decode cX6_requireCount 0 = .ok (.iload_n 0, 1) := by decide +kernel
theorem dX6_requireCount_1 : decode cX6_requireCount 1 = .ok (.iconst 1, 1) := by decide +kernel
theorem dX6_requireCount_2 : decode cX6_requireCount 2 = .ok (.if_icmp .lt 8, 3) := by decide +kernel
theorem dX6_requireCount_5 : decode cX6_requireCount 5 = .ok (.iload_n 0, 1) := by decide +kernel
theorem dX6_requireCount_6 : decode cX6_requireCount 6 = .ok (.iload_n 1, 1) := by decide +kernel
theorem dX6_requireCount_7 : decode cX6_requireCount 7 = .ok (.if_icmp .le 14, 3) := by decide +kernel
theorem dX6_requireCount_10 : decode cX6_requireCount 10 = .ok (.new 63, 3) := by decide +kernel
theorem dX6_requireCount_13 : decode cX6_requireCount 13 = .ok (.dup, 1) := by decide +kernel
theorem dX6_requireCount_14 : decode cX6_requireCount 14 = .ok (.ldc_w 336, 3) := by decide +kernel
theorem dX6_requireCount_17 : decode cX6_requireCount 17 = .ok (.invokespecial 67, 3) := by decide +kernel
theorem dX6_requireCount_20 : decode cX6_requireCount 20 = .ok (.athrow, 1) := by decide +kernel
theorem dX6_requireCount_21 : decode cX6_requireCount 21 = .ok (.return_, 1) := by decide +kernel
theorem dX6_requireReady_0 : decode cX6_requireReady 0 = .ok (.aload_n 0, 1) := by decide +kernel
theorem dX6_requireReady_1 : decode cX6_requireReady 1 = .ok (.getfield 12, 3) := by decide +kernel
theorem dX6_requireReady_4 : decode cX6_requireReady 4 = .ok (.getfield 201, 3) := by decide +kernel
theorem dX6_requireReady_7 : decode cX6_requireReady 7 = .ok (.ifCond .eq 14, 3) := by decide +kernel
theorem dX6_requireReady_10 : decode cX6_requireReady 10 = .ok (.new 43, 3) := by decide +kernel
theorem dX6_requireReady_13 : decode cX6_requireReady 13 = .ok (.dup, 1) := by decide +kernel
theorem dX6_requireReady_14 : decode cX6_requireReady 14 = .ok (.ldc_w 340, 3) := by decide +kernel
theorem dX6_requireReady_17 : decode cX6_requireReady 17 = .ok (.invokespecial 47, 3) := by decide +kernel
theorem dX6_requireReady_20 : decode cX6_requireReady 20 = .ok (.athrow, 1) := by decide +kernel
theorem dX6_requireReady_21 : decode cX6_requireReady 21 = .ok (.return_, 1) := by decide +kernel
theorem dX6_locationOf_0 : decode cX6_locationOf 0 = .ok (.bipush 32, 2) := by decide +kernel
theorem dX6_locationOf_2 : decode cX6_locationOf 2 = .ok (.iload_n 0, 1) := by decide +kernel
theorem dX6_locationOf_3 : decode cX6_locationOf 3 = .ok (.imul, 1) := by decide +kernel
theorem dX6_locationOf_4 : decode cX6_locationOf 4 = .ok (.iload_n 1, 1) := by decide +kernel
theorem dX6_locationOf_5 : decode cX6_locationOf 5 = .ok (.iadd, 1) := by decide +kernel
theorem dX6_locationOf_6 : decode cX6_locationOf 6 = .ok (.ireturn, 1) := by decide +kernel
theorem dX6_cycleOf_0 : decode cX6_cycleOf 0 = .ok (.iload_n 0, 1) := by decide +kernel
theorem dX6_cycleOf_1 : decode cX6_cycleOf 1 = .ok (.bipush 31, 2) := by decide +kernel
theorem dX6_cycleOf_3 : decode cX6_cycleOf 3 = .ok (.iand, 1) := by decide +kernel
theorem dX6_cycleOf_4 : decode cX6_cycleOf 4 = .ok (.ireturn, 1) := by decide +kernel
theorem dX6_waitingUntil_0 : decode cX6_waitingUntil 0 = .ok (.iload_n 0, 1) := by decide +kernel
theorem dX6_waitingUntil_1 : decode cX6_waitingUntil 1 = .ok (.iload_n 1, 1) := by decide +kernel
theorem dX6_waitingUntil_2 : decode cX6_waitingUntil 2 = .ok (.isub, 1) := by decide +kernel
theorem dX6_waitingUntil_3 : decode cX6_waitingUntil 3 = .ok (.bipush 31, 2) := by decide +kernel
theorem dX6_waitingUntil_5 : decode cX6_waitingUntil 5 = .ok (.iand, 1) := by decide +kernel
theorem dX6_waitingUntil_6 : decode cX6_waitingUntil 6 = .ok (.ireturn, 1) := by decide +kernel
theorem dX6_wrap_0 : decode cX6_wrap 0 = .ok (.bipush 44, 2) := by decide +kernel
theorem dX6_wrap_2 : decode cX6_wrap 2 = .ok (.istore_n 2, 1) := by decide +kernel
theorem dX6_wrap_3 : decode cX6_wrap 3 = .ok (.lload_n 0, 1) := by decide +kernel
theorem dX6_wrap_4 : decode cX6_wrap 4 = .ok (.iload_n 2, 1) := by decide +kernel
theorem dX6_wrap_5 : decode cX6_wrap 5 = .ok (.lshl, 1) := by decide +kernel
theorem dX6_wrap_6 : decode cX6_wrap 6 = .ok (.iload_n 2, 1) := by decide +kernel
theorem dX6_wrap_7 : decode cX6_wrap 7 = .ok (.lshr, 1) := by decide +kernel
theorem dX6_wrap_8 : decode cX6_wrap 8 = .ok (.l2i, 1) := by decide +kernel
theorem dX6_wrap_9 : decode cX6_wrap 9 = .ok (.ireturn, 1) := by decide +kernel
theorem dX6_delayOf_0 : decode cX6_delayOf 0 = .ok (.ldc_w 342, 3) := by decide +kernel
theorem dX6_delayOf_3 : decode cX6_delayOf 3 = .ok (.sipush 19200, 3) := by decide +kernel
theorem dX6_delayOf_6 : decode cX6_delayOf 6 = .ok (.iload_n 0, 1) := by decide +kernel
theorem dX6_delayOf_7 : decode cX6_delayOf 7 = .ok (.sipush 400, 3) := by decide +kernel
theorem dX6_delayOf_10 : decode cX6_delayOf 10 = .ok (.isub, 1) := by decide +kernel
theorem dX6_delayOf_11 : decode cX6_delayOf 11 = .ok (.imul, 1) := by decide +kernel
theorem dX6_delayOf_12 : decode cX6_delayOf 12 = .ok (.iadd, 1) := by decide +kernel
theorem dX6_delayOf_13 : decode cX6_delayOf 13 = .ok (.ireturn, 1) := by decide +kernel
theorem dX6_mismatchOf_0 : decode cX6_mismatchOf 0 = .ok (.iload_n 0, 1) := by decide +kernel
theorem dX6_mismatchOf_1 : decode cX6_mismatchOf 1 = .ok (.invokestatic 343, 3) := by decide +kernel
theorem dX6_mismatchOf_4 : decode cX6_mismatchOf 4 = .ok (.sipush 640, 3) := by decide +kernel
theorem dX6_mismatchOf_7 : decode cX6_mismatchOf 7 = .ok (.iload_n 1, 1) := by decide +kernel
theorem dX6_mismatchOf_8 : decode cX6_mismatchOf 8 = .ok (.imul, 1) := by decide +kernel
theorem dX6_mismatchOf_9 : decode cX6_mismatchOf 9 = .ok (.isub, 1) := by decide +kernel
theorem dX6_mismatchOf_10 : decode cX6_mismatchOf 10 = .ok (.ireturn, 1) := by decide +kernel
theorem dX6_copyRow_0 : decode cX6_copyRow 0 = .ok (.aload_n 0, 1) := by decide +kernel
theorem dX6_copyRow_1 : decode cX6_copyRow 1 = .ok (.iconst 0, 1) := by decide +kernel
theorem dX6_copyRow_2 : decode cX6_copyRow 2 = .ok (.aload_n 1, 1) := by decide +kernel
theorem dX6_copyRow_3 : decode cX6_copyRow 3 = .ok (.iconst 0, 1) := by decide +kernel
theorem dX6_copyRow_4 : decode cX6_copyRow 4 = .ok (.aload_n 0, 1) := by decide +kernel
theorem dX6_copyRow_5 : decode cX6_copyRow 5 = .ok (.arraylength, 1) := by decide +kernel
theorem dX6_copyRow_6 : decode cX6_copyRow 6 = .ok (.aload_n 1, 1) := by decide +kernel
theorem dX6_copyRow_7 : decode cX6_copyRow 7 = .ok (.arraylength, 1) := by decide +kernel
theorem dX6_copyRow_8 : decode cX6_copyRow 8 = .ok (.invokestatic 351, 3) := by decide +kernel
theorem dX6_copyRow_11 : decode cX6_copyRow 11 = .ok (.invokestatic 354, 3) := by decide +kernel
theorem dX6_copyRow_14 : decode cX6_copyRow 14 = .ok (.return_, 1) := by decide +kernel
theorem dX7_init_0 : decode cX7_init 0 = .ok (.aload_n 0, 1) := by decide +kernel
theorem dX7_init_1 : decode cX7_init 1 = .ok (.invokespecial 1, 3) := by decide +kernel
theorem dX7_init_4 : decode cX7_init 4 = .ok (.aload_n 0, 1) := by decide +kernel
theorem dX7_init_5 : decode cX7_init 5 = .ok (.iload_n 1, 1) := by decide +kernel
theorem dX7_init_6 : decode cX7_init 6 = .ok (.putfield 7, 3) := by decide +kernel
theorem dX7_init_9 : decode cX7_init 9 = .ok (.return_, 1) := by decide +kernel
theorem dX7_next_0 : decode cX7_next 0 = .ok (.aload_n 0, 1) := by decide +kernel
theorem dX7_next_1 : decode cX7_next 1 = .ok (.aload_n 0, 1) := by decide +kernel
theorem dX7_next_2 : decode cX7_next 2 = .ok (.getfield 7, 3) := by decide +kernel
theorem dX7_next_5 : decode cX7_next 5 = .ok (.ldc 13, 2) := by decide +kernel
theorem dX7_next_7 : decode cX7_next 7 = .ok (.imul, 1) := by decide +kernel
theorem dX7_next_8 : decode cX7_next 8 = .ok (.sipush 12345, 3) := by decide +kernel
theorem dX7_next_11 : decode cX7_next 11 = .ok (.iadd, 1) := by decide +kernel
theorem dX7_next_12 : decode cX7_next 12 = .ok (.putfield 7, 3) := by decide +kernel
theorem dX7_next_15 : decode cX7_next 15 = .ok (.aload_n 0, 1) := by decide +kernel
theorem dX7_next_16 : decode cX7_next 16 = .ok (.getfield 7, 3) := by decide +kernel
theorem dX7_next_19 : decode cX7_next 19 = .ok (.bipush 16, 2) := by decide +kernel
theorem dX7_next_21 : decode cX7_next 21 = .ok (.iushr, 1) := by decide +kernel
theorem dX7_next_22 : decode cX7_next 22 = .ok (.iload_n 1, 1) := by decide +kernel
theorem dX7_next_23 : decode cX7_next 23 = .ok (.irem, 1) := by decide +kernel
theorem dX7_next_24 : decode cX7_next 24 = .ok (.ireturn, 1) := by decide +kernel
theorem dX8_init_0 : decode cX8_init 0 = .ok (.aload_n 0, 1) := by decide +kernel
theorem dX8_init_1 : decode cX8_init 1 = .ok (.invokespecial 1, 3) := by decide +kernel
theorem dX8_init_4 : decode cX8_init 4 = .ok (.aload_n 0, 1) := by decide +kernel
theorem dX8_init_5 : decode cX8_init 5 = .ok (.bipush 8, 2) := by decide +kernel
theorem dX8_init_7 : decode cX8_init 7 = .ok (.sipush 640, 3) := by decide +kernel
theorem dX8_init_10 : decode cX8_init 10 = .ok (.multianewarray 7 2, 4) := by decide +kernel
theorem dX8_init_14 : decode cX8_init 14 = .ok (.putfield 9, 3) := by decide +kernel
theorem dX8_init_17 : decode cX8_init 17 = .ok (.aload_n 0, 1) := by decide +kernel
theorem dX8_init_18 : decode cX8_init 18 = .ok (.bipush 8, 2) := by decide +kernel
theorem dX8_init_20 : decode cX8_init 20 = .ok (.newarray .int, 2) := by decide +kernel
theorem dX8_init_22 : decode cX8_init 22 = .ok (.dup, 1) := by decide +kernel
theorem dX8_init_23 : decode cX8_init 23 = .ok (.iconst 0, 1) := by decide +kernel
theorem dX8_init_24 : decode cX8_init 24 = .ok (.sipush 400, 3) := by decide +kernel
theorem dX8_init_27 : decode cX8_init 27 = .ok (.iastore, 1) := by decide +kernel
theorem dX8_init_28 : decode cX8_init 28 = .ok (.dup, 1) := by decide +kernel
theorem dX8_init_29 : decode cX8_init 29 = .ok (.iconst 1, 1) := by decide +kernel
theorem dX8_init_30 : decode cX8_init 30 = .ok (.sipush 400, 3) := by decide +kernel
theorem dX8_init_33 : decode cX8_init 33 = .ok (.iastore, 1) := by decide +kernel
theorem dX8_init_34 : decode cX8_init 34 = .ok (.dup, 1) := by decide +kernel
theorem dX8_init_35 : decode cX8_init 35 = .ok (.iconst 2, 1) := by decide +kernel
theorem dX8_init_36 : decode cX8_init 36 = .ok (.sipush 400, 3) := by decide +kernel
theorem dX8_init_39 : decode cX8_init 39 = .ok (.iastore, 1) := by decide +kernel
theorem dX8_init_40 : decode cX8_init 40 = .ok (.dup, 1) := by decide +kernel
theorem dX8_init_41 : decode cX8_init 41 = .ok (.iconst 3, 1) := by decide +kernel
theorem dX8_init_42 : decode cX8_init 42 = .ok (.sipush 400, 3) := by decide +kernel
theorem dX8_init_45 : decode cX8_init 45 = .ok (.iastore, 1) := by decide +kernel
theorem dX8_init_46 : decode cX8_init 46 = .ok (.dup, 1) := by decide +kernel
theorem dX8_init_47 : decode cX8_init 47 = .ok (.iconst 4, 1) := by decide +kernel
theorem dX8_init_48 : decode cX8_init 48 = .ok (.sipush 400, 3) := by decide +kernel
theorem dX8_init_51 : decode cX8_init 51 = .ok (.iastore, 1) := by decide +kernel
theorem dX8_init_52 : decode cX8_init 52 = .ok (.dup, 1) := by decide +kernel
theorem dX8_init_53 : decode cX8_init 53 = .ok (.iconst 5, 1) := by decide +kernel
theorem dX8_init_54 : decode cX8_init 54 = .ok (.sipush 400, 3) := by decide +kernel
theorem dX8_init_57 : decode cX8_init 57 = .ok (.iastore, 1) := by decide +kernel
theorem dX8_init_58 : decode cX8_init 58 = .ok (.dup, 1) := by decide +kernel
theorem dX8_init_59 : decode cX8_init 59 = .ok (.bipush 6, 2) := by decide +kernel
theorem dX8_init_61 : decode cX8_init 61 = .ok (.sipush 400, 3) := by decide +kernel
theorem dX8_init_64 : decode cX8_init 64 = .ok (.iastore, 1) := by decide +kernel
theorem dX8_init_65 : decode cX8_init 65 = .ok (.dup, 1) := by decide +kernel
theorem dX8_init_66 : decode cX8_init 66 = .ok (.bipush 7, 2) := by decide +kernel
theorem dX8_init_68 : decode cX8_init 68 = .ok (.sipush 400, 3) := by decide +kernel
theorem dX8_init_71 : decode cX8_init 71 = .ok (.iastore, 1) := by decide +kernel
theorem dX8_init_72 : decode cX8_init 72 = .ok (.putfield 14, 3) := by decide +kernel
theorem dX8_init_75 : decode cX8_init 75 = .ok (.aload_n 0, 1) := by decide +kernel
theorem dX8_init_76 : decode cX8_init 76 = .ok (.bipush 8, 2) := by decide +kernel
theorem dX8_init_78 : decode cX8_init 78 = .ok (.newarray .int, 2) := by decide +kernel
theorem dX8_init_80 : decode cX8_init 80 = .ok (.putfield 18, 3) := by decide +kernel
theorem dX8_init_83 : decode cX8_init 83 = .ok (.aload_n 0, 1) := by decide +kernel
theorem dX8_init_84 : decode cX8_init 84 = .ok (.bipush 8, 2) := by decide +kernel
theorem dX8_init_86 : decode cX8_init 86 = .ok (.bipush 32, 2) := by decide +kernel
theorem dX8_init_88 : decode cX8_init 88 = .ok (.multianewarray 21 2, 4) := by decide +kernel
theorem dX8_init_92 : decode cX8_init 92 = .ok (.putfield 23, 3) := by decide +kernel
theorem dX8_init_95 : decode cX8_init 95 = .ok (.aload_n 0, 1) := by decide +kernel
theorem dX8_init_96 : decode cX8_init 96 = .ok (.new 26, 3) := by decide +kernel
theorem dX8_init_99 : decode cX8_init 99 = .ok (.dup, 1) := by decide +kernel
theorem dX8_init_100 : decode cX8_init 100 = .ok (.invokespecial 28, 3) := by decide +kernel
theorem dX8_init_103 : decode cX8_init 103 = .ok (.putfield 29, 3) := by decide +kernel
theorem dX8_init_106 : decode cX8_init 106 = .ok (.aload_n 0, 1) := by decide +kernel
theorem dX8_init_107 : decode cX8_init 107 = .ok (.new 26, 3) := by decide +kernel
theorem dX8_init_110 : decode cX8_init 110 = .ok (.dup, 1) := by decide +kernel
theorem dX8_init_111 : decode cX8_init 111 = .ok (.invokespecial 28, 3) := by decide +kernel
theorem dX8_init_114 : decode cX8_init 114 = .ok (.putfield 33, 3) := by decide +kernel
theorem dX8_init_117 : decode cX8_init 117 = .ok (.aload_n 0, 1) := by decide +kernel
theorem dX8_init_118 : decode cX8_init 118 = .ok (.iconst 1, 1) := by decide +kernel
theorem dX8_init_119 : decode cX8_init 119 = .ok (.putfield 36, 3) := by decide +kernel
theorem dX8_init_122 : decode cX8_init 122 = .ok (.aload_n 0, 1) := by decide +kernel
theorem dX8_init_123 : decode cX8_init 123 = .ok (.sipush 400, 3) := by decide +kernel
theorem dX8_init_126 : decode cX8_init 126 = .ok (.putfield 40, 3) := by decide +kernel
theorem dX8_init_129 : decode cX8_init 129 = .ok (.aload_n 0, 1) := by decide +kernel
theorem dX8_init_130 : decode cX8_init 130 = .ok (.sipush 400, 3) := by decide +kernel
theorem dX8_init_133 : decode cX8_init 133 = .ok (.putfield 43, 3) := by decide +kernel
theorem dX8_init_136 : decode cX8_init 136 = .ok (.aload_n 0, 1) := by decide +kernel
theorem dX8_init_137 : decode cX8_init 137 = .ok (.ldc 46, 2) := by decide +kernel
theorem dX8_init_139 : decode cX8_init 139 = .ok (.putfield 47, 3) := by decide +kernel
theorem dX8_init_142 : decode cX8_init 142 = .ok (.return_, 1) := by decide +kernel
theorem dX8_copy_0 : decode cX8_copy 0 = .ok (.new 10, 3) := by decide +kernel
theorem dX8_copy_3 : decode cX8_copy 3 = .ok (.dup, 1) := by decide +kernel
theorem dX8_copy_4 : decode cX8_copy 4 = .ok (.invokespecial 50, 3) := by decide +kernel
theorem dX8_copy_7 : decode cX8_copy 7 = .ok (.astore_n 1, 1) := by decide +kernel
theorem dX8_copy_8 : decode cX8_copy 8 = .ok (.iconst 0, 1) := by decide +kernel
theorem dX8_copy_9 : decode cX8_copy 9 = .ok (.istore_n 2, 1) := by decide +kernel
theorem dX8_copy_10 : decode cX8_copy 10 = .ok (.iload_n 2, 1) := by decide +kernel
theorem dX8_copy_11 : decode cX8_copy 11 = .ok (.bipush 8, 2) := by decide +kernel
theorem dX8_copy_13 : decode cX8_copy 13 = .ok (.if_icmp .ge 69, 3) := by decide +kernel
theorem dX8_copy_16 : decode cX8_copy 16 = .ok (.aload_n 1, 1) := by decide +kernel
theorem dX8_copy_17 : decode cX8_copy 17 = .ok (.getfield 9, 3) := by decide +kernel
theorem dX8_copy_20 : decode cX8_copy 20 = .ok (.iload_n 2, 1) := by decide +kernel
theorem dX8_copy_21 : decode cX8_copy 21 = .ok (.aload_n 0, 1) := by decide +kernel
theorem dX8_copy_22 : decode cX8_copy 22 = .ok (.getfield 9, 3) := by decide +kernel
theorem dX8_copy_25 : decode cX8_copy 25 = .ok (.iload_n 2, 1) := by decide +kernel
theorem dX8_copy_26 : decode cX8_copy 26 = .ok (.aaload, 1) := by decide +kernel
theorem dX8_copy_27 : decode cX8_copy 27 = .ok (.invokevirtual 51, 3) := by decide +kernel
theorem dX8_copy_30 : decode cX8_copy 30 = .ok (.checkcast 52, 3) := by decide +kernel
theorem dX8_copy_33 : decode cX8_copy 33 = .ok (.aastore, 1) := by decide +kernel
theorem dX8_copy_34 : decode cX8_copy 34 = .ok (.aload_n 1, 1) := by decide +kernel
theorem dX8_copy_35 : decode cX8_copy 35 = .ok (.getfield 23, 3) := by decide +kernel
theorem dX8_copy_38 : decode cX8_copy 38 = .ok (.iload_n 2, 1) := by decide +kernel
theorem dX8_copy_39 : decode cX8_copy 39 = .ok (.aload_n 0, 1) := by decide +kernel
theorem dX8_copy_40 : decode cX8_copy 40 = .ok (.getfield 23, 3) := by decide +kernel
theorem dX8_copy_43 : decode cX8_copy 43 = .ok (.iload_n 2, 1) := by decide +kernel
theorem dX8_copy_44 : decode cX8_copy 44 = .ok (.aaload, 1) := by decide +kernel
theorem dX8_copy_45 : decode cX8_copy 45 = .ok (.invokevirtual 57, 3) := by decide +kernel
theorem dX8_copy_48 : decode cX8_copy 48 = .ok (.checkcast 58, 3) := by decide +kernel
theorem dX8_copy_51 : decode cX8_copy 51 = .ok (.aastore, 1) := by decide +kernel
theorem dX8_copy_52 : decode cX8_copy 52 = .ok (.aload_n 1, 1) := by decide +kernel
theorem dX8_copy_53 : decode cX8_copy 53 = .ok (.getfield 14, 3) := by decide +kernel
theorem dX8_copy_56 : decode cX8_copy 56 = .ok (.iload_n 2, 1) := by decide +kernel
theorem dX8_copy_57 : decode cX8_copy 57 = .ok (.aload_n 0, 1) := by decide +kernel
theorem dX8_copy_58 : decode cX8_copy 58 = .ok (.getfield 14, 3) := by decide +kernel
theorem dX8_copy_61 : decode cX8_copy 61 = .ok (.iload_n 2, 1) := by decide +kernel
theorem dX8_copy_62 : decode cX8_copy 62 = .ok (.iaload, 1) := by decide +kernel
theorem dX8_copy_63 : decode cX8_copy 63 = .ok (.iastore, 1) := by decide +kernel
theorem dX8_copy_64 : decode cX8_copy 64 = .ok (.aload_n 1, 1) := by decide +kernel
theorem dX8_copy_65 : decode cX8_copy 65 = .ok (.getfield 18, 3) := by decide +kernel
theorem dX8_copy_68 : decode cX8_copy 68 = .ok (.iload_n 2, 1) := by decide +kernel
theorem dX8_copy_69 : decode cX8_copy 69 = .ok (.aload_n 0, 1) := by decide +kernel
theorem dX8_copy_70 : decode cX8_copy 70 = .ok (.getfield 18, 3) := by decide +kernel
theorem dX8_copy_73 : decode cX8_copy 73 = .ok (.iload_n 2, 1) := by decide +kernel
theorem dX8_copy_74 : decode cX8_copy 74 = .ok (.iaload, 1) := by decide +kernel
theorem dX8_copy_75 : decode cX8_copy 75 = .ok (.iastore, 1) := by decide +kernel
theorem dX8_copy_76 : decode cX8_copy 76 = .ok (.iinc 2 1, 3) := by decide +kernel
theorem dX8_copy_79 : decode cX8_copy 79 = .ok (.goto (-69), 3) := by decide +kernel
theorem dX8_copy_82 : decode cX8_copy 82 = .ok (.aload_n 1, 1) := by decide +kernel
theorem dX8_copy_83 : decode cX8_copy 83 = .ok (.getfield 29, 3) := by decide +kernel
theorem dX8_copy_86 : decode cX8_copy 86 = .ok (.aload_n 0, 1) := by decide +kernel
theorem dX8_copy_87 : decode cX8_copy 87 = .ok (.getfield 29, 3) := by decide +kernel
theorem dX8_copy_90 : decode cX8_copy 90 = .ok (.invokevirtual 59, 3) := by decide +kernel
theorem dX8_copy_93 : decode cX8_copy 93 = .ok (.pop, 1) := by decide +kernel
theorem dX8_copy_94 : decode cX8_copy 94 = .ok (.aload_n 1, 1) := by decide +kernel
theorem dX8_copy_95 : decode cX8_copy 95 = .ok (.getfield 33, 3) := by decide +kernel
theorem dX8_copy_98 : decode cX8_copy 98 = .ok (.aload_n 0, 1) := by decide +kernel
theorem dX8_copy_99 : decode cX8_copy 99 = .ok (.getfield 33, 3) := by decide +kernel
theorem dX8_copy_102 : decode cX8_copy 102 = .ok (.invokevirtual 59, 3) := by decide +kernel
theorem dX8_copy_105 : decode cX8_copy 105 = .ok (.pop, 1) := by decide +kernel
theorem dX8_copy_106 : decode cX8_copy 106 = .ok (.aload_n 1, 1) := by decide +kernel
theorem dX8_copy_107 : decode cX8_copy 107 = .ok (.aload_n 0, 1) := by decide +kernel
theorem dX8_copy_108 : decode cX8_copy 108 = .ok (.getfield 63, 3) := by decide +kernel
theorem dX8_copy_111 : decode cX8_copy 111 = .ok (.putfield 63, 3) := by decide +kernel
theorem dX8_copy_114 : decode cX8_copy 114 = .ok (.aload_n 1, 1) := by decide +kernel
theorem dX8_copy_115 : decode cX8_copy 115 = .ok (.aload_n 0, 1) := by decide +kernel
theorem dX8_copy_116 : decode cX8_copy 116 = .ok (.getfield 66, 3) := by decide +kernel
theorem dX8_copy_119 : decode cX8_copy 119 = .ok (.putfield 66, 3) := by decide +kernel
theorem dX8_copy_122 : decode cX8_copy 122 = .ok (.aload_n 1, 1) := by decide +kernel
theorem dX8_copy_123 : decode cX8_copy 123 = .ok (.aload_n 0, 1) := by decide +kernel
theorem dX8_copy_124 : decode cX8_copy 124 = .ok (.getfield 69, 3) := by decide +kernel
theorem dX8_copy_127 : decode cX8_copy 127 = .ok (.putfield 69, 3) := by decide +kernel
theorem dX8_copy_130 : decode cX8_copy 130 = .ok (.aload_n 1, 1) := by decide +kernel
theorem dX8_copy_131 : decode cX8_copy 131 = .ok (.aload_n 0, 1) := by decide +kernel
theorem dX8_copy_132 : decode cX8_copy 132 = .ok (.getfield 72, 3) := by decide +kernel
theorem dX8_copy_135 : decode cX8_copy 135 = .ok (.putfield 72, 3) := by decide +kernel
theorem dX8_copy_138 : decode cX8_copy 138 = .ok (.aload_n 1, 1) := by decide +kernel
theorem dX8_copy_139 : decode cX8_copy 139 = .ok (.aload_n 0, 1) := by decide +kernel
theorem dX8_copy_140 : decode cX8_copy 140 = .ok (.getfield 36, 3) := by decide +kernel
theorem dX8_copy_143 : decode cX8_copy 143 = .ok (.putfield 36, 3) := by decide +kernel
theorem dX8_copy_146 : decode cX8_copy 146 = .ok (.aload_n 1, 1) := by decide +kernel
theorem dX8_copy_147 : decode cX8_copy 147 = .ok (.aload_n 0, 1) := by decide +kernel
theorem dX8_copy_148 : decode cX8_copy 148 = .ok (.getfield 75, 3) := by decide +kernel
theorem dX8_copy_151 : decode cX8_copy 151 = .ok (.putfield 75, 3) := by decide +kernel
theorem dX8_copy_154 : decode cX8_copy 154 = .ok (.aload_n 1, 1) := by decide +kernel
theorem dX8_copy_155 : decode cX8_copy 155 = .ok (.aload_n 0, 1) := by decide +kernel
theorem dX8_copy_156 : decode cX8_copy 156 = .ok (.getfield 78, 3) := by decide +kernel
theorem dX8_copy_159 : decode cX8_copy 159 = .ok (.putfield 78, 3) := by decide +kernel
theorem dX8_copy_162 : decode cX8_copy 162 = .ok (.aload_n 1, 1) := by decide +kernel
theorem dX8_copy_163 : decode cX8_copy 163 = .ok (.aload_n 0, 1) := by decide +kernel
theorem dX8_copy_164 : decode cX8_copy 164 = .ok (.getfield 81, 3) := by decide +kernel
theorem dX8_copy_167 : decode cX8_copy 167 = .ok (.putfield 81, 3) := by decide +kernel
theorem dX8_copy_170 : decode cX8_copy 170 = .ok (.aload_n 1, 1) := by decide +kernel
theorem dX8_copy_171 : decode cX8_copy 171 = .ok (.aload_n 0, 1) := by decide +kernel
theorem dX8_copy_172 : decode cX8_copy 172 = .ok (.getfield 40, 3) := by decide +kernel
theorem dX8_copy_175 : decode cX8_copy 175 = .ok (.putfield 40, 3) := by decide +kernel
theorem dX8_copy_178 : decode cX8_copy 178 = .ok (.aload_n 1, 1) := by decide +kernel
theorem dX8_copy_179 : decode cX8_copy 179 = .ok (.aload_n 0, 1) := by decide +kernel
theorem dX8_copy_180 : decode cX8_copy 180 = .ok (.getfield 43, 3) := by decide +kernel
theorem dX8_copy_183 : decode cX8_copy 183 = .ok (.putfield 43, 3) := by decide +kernel
theorem dX8_copy_186 : decode cX8_copy 186 = .ok (.aload_n 1, 1) := by decide +kernel
theorem dX8_copy_187 : decode cX8_copy 187 = .ok (.aload_n 0, 1) := by decide +kernel
theorem dX8_copy_188 : decode cX8_copy 188 = .ok (.getfield 47, 3) := by decide +kernel
theorem dX8_copy_191 : decode cX8_copy 191 = .ok (.putfield 47, 3) := by decide +kernel
theorem dX8_copy_194 : decode cX8_copy 194 = .ok (.aload_n 1, 1) := by decide +kernel
theorem dX8_copy_195 : decode cX8_copy 195 = .ok (.aload_n 0, 1) := by decide +kernel
theorem dX8_copy_196 : decode cX8_copy 196 = .ok (.getfield 84, 3) := by decide +kernel
theorem dX8_copy_199 : decode cX8_copy 199 = .ok (.putfield 84, 3) := by decide +kernel
theorem dX8_copy_202 : decode cX8_copy 202 = .ok (.aload_n 1, 1) := by decide +kernel
theorem dX8_copy_203 : decode cX8_copy 203 = .ok (.aload_n 0, 1) := by decide +kernel
theorem dX8_copy_204 : decode cX8_copy 204 = .ok (.getfield 88, 3) := by decide +kernel
theorem dX8_copy_207 : decode cX8_copy 207 = .ok (.putfield 88, 3) := by decide +kernel
theorem dX8_copy_210 : decode cX8_copy 210 = .ok (.aload_n 1, 1) := by decide +kernel
theorem dX8_copy_211 : decode cX8_copy 211 = .ok (.areturn, 1) := by decide +kernel
theorem dX8_word_0 : decode cX8_word 0 = .ok (.aload_n 0, 1) := by decide +kernel
theorem dX8_word_1 : decode cX8_word 1 = .ok (.getfield 9, 3) := by decide +kernel
theorem dX8_word_4 : decode cX8_word 4 = .ok (.iload_n 1, 1) := by decide +kernel
theorem dX8_word_5 : decode cX8_word 5 = .ok (.aaload, 1) := by decide +kernel
theorem dX8_word_6 : decode cX8_word 6 = .ok (.bipush 20, 2) := by decide +kernel
theorem dX8_word_8 : decode cX8_word 8 = .ok (.iload_n 2, 1) := by decide +kernel
theorem dX8_word_9 : decode cX8_word 9 = .ok (.imul, 1) := by decide +kernel
theorem dX8_word_10 : decode cX8_word 10 = .ok (.bipush 19, 2) := by decide +kernel
theorem dX8_word_12 : decode cX8_word 12 = .ok (.iadd, 1) := by decide +kernel
theorem dX8_word_13 : decode cX8_word 13 = .ok (.baload, 1) := by decide +kernel
theorem dX8_word_14 : decode cX8_word 14 = .ok (.ifCond .eq 7, 3) := by decide +kernel
theorem dX8_word_17 : decode cX8_word 17 = .ok (.iconst (-1), 1) := by decide +kernel
theorem dX8_word_18 : decode cX8_word 18 = .ok (.goto 4, 3) := by decide +kernel
theorem dX8_word_21 : decode cX8_word 21 = .ok (.iconst 0, 1) := by decide +kernel
theorem dX8_word_22 : decode cX8_word 22 = .ok (.istore_n 3, 1) := by decide +kernel
theorem dX8_word_23 : decode cX8_word 23 = .ok (.bipush 18, 2) := by decide +kernel
theorem dX8_word_25 : decode cX8_word 25 = .ok (.istore 4, 2) := by decide +kernel
theorem dX8_word_27 : decode cX8_word 27 = .ok (.iload 4, 2) := by decide +kernel
theorem dX8_word_29 : decode cX8_word 29 = .ok (.ifCond .lt 36, 3) := by decide +kernel
theorem dX8_word_32 : decode cX8_word 32 = .ok (.iload_n 3, 1) := by decide +kernel
theorem dX8_word_33 : decode cX8_word 33 = .ok (.iconst 2, 1) := by decide +kernel
theorem dX8_word_34 : decode cX8_word 34 = .ok (.imul, 1) := by decide +kernel
theorem dX8_word_35 : decode cX8_word 35 = .ok (.aload_n 0, 1) := by decide +kernel
theorem dX8_word_36 : decode cX8_word 36 = .ok (.getfield 9, 3) := by decide +kernel
theorem dX8_word_39 : decode cX8_word 39 = .ok (.iload_n 1, 1) := by decide +kernel
theorem dX8_word_40 : decode cX8_word 40 = .ok (.aaload, 1) := by decide +kernel
theorem dX8_word_41 : decode cX8_word 41 = .ok (.bipush 20, 2) := by decide +kernel
theorem dX8_word_43 : decode cX8_word 43 = .ok (.iload_n 2, 1) := by decide +kernel
theorem dX8_word_44 : decode cX8_word 44 = .ok (.imul, 1) := by decide +kernel
theorem dX8_word_45 : decode cX8_word 45 = .ok (.iload 4, 2) := by decide +kernel
theorem dX8_word_47 : decode cX8_word 47 = .ok (.iadd, 1) := by decide +kernel
theorem dX8_word_48 : decode cX8_word 48 = .ok (.baload, 1) := by decide +kernel
theorem dX8_word_49 : decode cX8_word 49 = .ok (.ifCond .eq 7, 3) := by decide +kernel
theorem dX8_word_52 : decode cX8_word 52 = .ok (.iconst 1, 1) := by decide +kernel
theorem dX8_word_53 : decode cX8_word 53 = .ok (.goto 4, 3) := by decide +kernel
theorem dX8_word_56 : decode cX8_word 56 = .ok (.iconst 0, 1) := by decide +kernel
theorem dX8_word_57 : decode cX8_word 57 = .ok (.iadd, 1) := by decide +kernel
theorem dX8_word_58 : decode cX8_word 58 = .ok (.istore_n 3, 1) := by decide +kernel
theorem dX8_word_59 : decode cX8_word 59 = .ok (.iinc 4 (-1), 3) := by decide +kernel
theorem dX8_word_62 : decode cX8_word 62 = .ok (.goto (-35), 3) := by decide +kernel
theorem dX8_word_65 : decode cX8_word 65 = .ok (.iload_n 3, 1) := by decide +kernel
theorem dX8_word_66 : decode cX8_word 66 = .ok (.ireturn, 1) := by decide +kernel
theorem dX8_set_0 : decode cX8_set 0 = .ok (.iconst 0, 1) := by decide +kernel
theorem dX8_set_1 : decode cX8_set 1 = .ok (.istore 4, 2) := by decide +kernel
theorem dX8_set_3 : decode cX8_set 3 = .ok (.iload 4, 2) := by decide +kernel
theorem dX8_set_5 : decode cX8_set 5 = .ok (.bipush 20, 2) := by decide +kernel
theorem dX8_set_7 : decode cX8_set 7 = .ok (.if_icmp .ge 38, 3) := by decide +kernel
theorem dX8_set_10 : decode cX8_set 10 = .ok (.aload_n 0, 1) := by decide +kernel
theorem dX8_set_11 : decode cX8_set 11 = .ok (.getfield 9, 3) := by decide +kernel
theorem dX8_set_14 : decode cX8_set 14 = .ok (.iload_n 1, 1) := by decide +kernel
theorem dX8_set_15 : decode cX8_set 15 = .ok (.aaload, 1) := by decide +kernel
theorem dX8_set_16 : decode cX8_set 16 = .ok (.bipush 20, 2) := by decide +kernel
theorem dX8_set_18 : decode cX8_set 18 = .ok (.iload_n 2, 1) := by decide +kernel
theorem dX8_set_19 : decode cX8_set 19 = .ok (.imul, 1) := by decide +kernel
theorem dX8_set_20 : decode cX8_set 20 = .ok (.iload 4, 2) := by decide +kernel
theorem dX8_set_22 : decode cX8_set 22 = .ok (.iadd, 1) := by decide +kernel
theorem dX8_set_23 : decode cX8_set 23 = .ok (.iload_n 3, 1) := by decide +kernel
theorem dX8_set_24 : decode cX8_set 24 = .ok (.iload 4, 2) := by decide +kernel
theorem dX8_set_26 : decode cX8_set 26 = .ok (.ishr, 1) := by decide +kernel
theorem dX8_set_27 : decode cX8_set 27 = .ok (.iconst 1, 1) := by decide +kernel
theorem dX8_set_28 : decode cX8_set 28 = .ok (.iand, 1) := by decide +kernel
theorem dX8_set_29 : decode cX8_set 29 = .ok (.iconst 1, 1) := by decide +kernel
theorem dX8_set_30 : decode cX8_set 30 = .ok (.if_icmp .ne 7, 3) := by decide +kernel
theorem dX8_set_33 : decode cX8_set 33 = .ok (.iconst 1, 1) := by decide +kernel
theorem dX8_set_34 : decode cX8_set 34 = .ok (.goto 4, 3) := by decide +kernel
theorem dX8_set_37 : decode cX8_set 37 = .ok (.iconst 0, 1) := by decide +kernel
theorem dX8_set_38 : decode cX8_set 38 = .ok (.bastore, 1) := by decide +kernel
theorem dX8_set_39 : decode cX8_set 39 = .ok (.iinc 4 1, 3) := by decide +kernel
theorem dX8_set_42 : decode cX8_set 42 = .ok (.goto (-39), 3) := by decide +kernel
theorem dX8_set_45 : decode cX8_set 45 = .ok (.return_, 1) := by decide +kernel
theorem dX8_ones_0 : decode cX8_ones 0 = .ok (.iconst 0, 1) := by decide +kernel
theorem dX8_ones_1 : decode cX8_ones 1 = .ok (.istore_n 2, 1) := by decide +kernel
theorem dX8_ones_2 : decode cX8_ones 2 = .ok (.aload_n 0, 1) := by decide +kernel
theorem dX8_ones_3 : decode cX8_ones 3 = .ok (.getfield 9, 3) := by decide +kernel
theorem dX8_ones_6 : decode cX8_ones 6 = .ok (.iload_n 1, 1) := by decide +kernel
theorem dX8_ones_7 : decode cX8_ones 7 = .ok (.aaload, 1) := by decide +kernel
theorem dX8_ones_8 : decode cX8_ones 8 = .ok (.astore_n 3, 1) := by decide +kernel
theorem dX8_ones_9 : decode cX8_ones 9 = .ok (.aload_n 3, 1) := by decide +kernel
theorem dX8_ones_10 : decode cX8_ones 10 = .ok (.arraylength, 1) := by decide +kernel
theorem dX8_ones_11 : decode cX8_ones 11 = .ok (.istore 4, 2) := by decide +kernel
theorem dX8_ones_13 : decode cX8_ones 13 = .ok (.iconst 0, 1) := by decide +kernel
theorem dX8_ones_14 : decode cX8_ones 14 = .ok (.istore 5, 2) := by decide +kernel
theorem dX8_ones_16 : decode cX8_ones 16 = .ok (.iload 5, 2) := by decide +kernel
theorem dX8_ones_18 : decode cX8_ones 18 = .ok (.iload 4, 2) := by decide +kernel
theorem dX8_ones_20 : decode cX8_ones 20 = .ok (.if_icmp .ge 28, 3) := by decide +kernel
theorem dX8_ones_23 : decode cX8_ones 23 = .ok (.aload_n 3, 1) := by decide +kernel
theorem dX8_ones_24 : decode cX8_ones 24 = .ok (.iload 5, 2) := by decide +kernel
theorem dX8_ones_26 : decode cX8_ones 26 = .ok (.baload, 1) := by decide +kernel
theorem dX8_ones_27 : decode cX8_ones 27 = .ok (.istore 6, 2) := by decide +kernel
theorem dX8_ones_29 : decode cX8_ones 29 = .ok (.iload_n 2, 1) := by decide +kernel
theorem dX8_ones_30 : decode cX8_ones 30 = .ok (.iload 6, 2) := by decide +kernel
theorem dX8_ones_32 : decode cX8_ones 32 = .ok (.ifCond .eq 7, 3) := by decide +kernel
theorem dX8_ones_35 : decode cX8_ones 35 = .ok (.iconst 1, 1) := by decide +kernel
theorem dX8_ones_36 : decode cX8_ones 36 = .ok (.goto 4, 3) := by decide +kernel
theorem dX8_ones_39 : decode cX8_ones 39 = .ok (.iconst 0, 1) := by decide +kernel
theorem dX8_ones_40 : decode cX8_ones 40 = .ok (.iadd, 1) := by decide +kernel
theorem dX8_ones_41 : decode cX8_ones 41 = .ok (.istore_n 2, 1) := by decide +kernel
theorem dX8_ones_42 : decode cX8_ones 42 = .ok (.iinc 5 1, 3) := by decide +kernel
theorem dX8_ones_45 : decode cX8_ones 45 = .ok (.goto (-29), 3) := by decide +kernel
theorem dX8_ones_48 : decode cX8_ones 48 = .ok (.iload_n 2, 1) := by decide +kernel
theorem dX8_ones_49 : decode cX8_ones 49 = .ok (.ireturn, 1) := by decide +kernel
theorem dX8_period_0 : decode cX8_period 0 = .ok (.aload_n 0, 1) := by decide +kernel
theorem dX8_period_1 : decode cX8_period 1 = .ok (.getfield 84, 3) := by decide +kernel
theorem dX8_period_4 : decode cX8_period 4 = .ok (.ifCond .eq 25, 3) := by decide +kernel
theorem dX8_period_7 : decode cX8_period 7 = .ok (.ldc 91, 2) := by decide +kernel
theorem dX8_period_9 : decode cX8_period 9 = .ok (.sipush 19200, 3) := by decide +kernel
theorem dX8_period_12 : decode cX8_period 12 = .ok (.aload_n 0, 1) := by decide +kernel
theorem dX8_period_13 : decode cX8_period 13 = .ok (.getfield 43, 3) := by decide +kernel
theorem dX8_period_16 : decode cX8_period 16 = .ok (.sipush 400, 3) := by decide +kernel
theorem dX8_period_19 : decode cX8_period 19 = .ok (.isub, 1) := by decide +kernel
theorem dX8_period_20 : decode cX8_period 20 = .ok (.imul, 1) := by decide +kernel
theorem dX8_period_21 : decode cX8_period 21 = .ok (.iadd, 1) := by decide +kernel
theorem dX8_period_22 : decode cX8_period 22 = .ok (.sipush 640, 3) := by decide +kernel
theorem dX8_period_25 : decode cX8_period 25 = .ok (.idiv, 1) := by decide +kernel
theorem dX8_period_26 : decode cX8_period 26 = .ok (.goto 7, 3) := by decide +kernel
theorem dX8_period_29 : decode cX8_period 29 = .ok (.aload_n 0, 1) := by decide +kernel
theorem dX8_period_30 : decode cX8_period 30 = .ok (.getfield 47, 3) := by decide +kernel
theorem dX8_period_33 : decode cX8_period 33 = .ok (.ireturn, 1) := by decide +kernel
theorem dX8_mismatch_0 : decode cX8_mismatch 0 = .ok (.ldc 91, 2) := by decide +kernel
theorem dX8_mismatch_2 : decode cX8_mismatch 2 = .ok (.sipush 19200, 3) := by decide +kernel
theorem dX8_mismatch_5 : decode cX8_mismatch 5 = .ok (.iload_n 1, 1) := by decide +kernel
theorem dX8_mismatch_6 : decode cX8_mismatch 6 = .ok (.sipush 400, 3) := by decide +kernel
theorem dX8_mismatch_9 : decode cX8_mismatch 9 = .ok (.isub, 1) := by decide +kernel
theorem dX8_mismatch_10 : decode cX8_mismatch 10 = .ok (.imul, 1) := by decide +kernel
theorem dX8_mismatch_11 : decode cX8_mismatch 11 = .ok (.iadd, 1) := by decide +kernel
theorem dX8_mismatch_12 : decode cX8_mismatch 12 = .ok (.sipush 640, 3) := by decide +kernel
theorem dX8_mismatch_15 : decode cX8_mismatch 15 = .ok (.aload_n 0, 1) := by decide +kernel
theorem dX8_mismatch_16 : decode cX8_mismatch 16 = .ok (.invokevirtual 92, 3) := by decide +kernel
theorem dX8_mismatch_19 : decode cX8_mismatch 19 = .ok (.imul, 1) := by decide +kernel
theorem dX8_mismatch_20 : decode cX8_mismatch 20 = .ok (.isub, 1) := by decide +kernel
theorem dX8_mismatch_21 : decode cX8_mismatch 21 = .ok (.ireturn, 1) := by decide +kernel
theorem dX8_isSafe_0 : decode cX8_isSafe 0 = .ok (.aload_n 0, 1) := by decide +kernel
theorem dX8_isSafe_1 : decode cX8_isSafe 1 = .ok (.iload_n 1, 1) := by decide +kernel
theorem dX8_isSafe_2 : decode cX8_isSafe 2 = .ok (.invokevirtual 96, 3) := by decide +kernel
theorem dX8_isSafe_5 : decode cX8_isSafe 5 = .ok (.invokestatic 100, 3) := by decide +kernel
theorem dX8_isSafe_8 : decode cX8_isSafe 8 = .ok (.aload_n 0, 1) := by decide +kernel
theorem dX8_isSafe_9 : decode cX8_isSafe 9 = .ok (.invokevirtual 92, 3) := by decide +kernel
theorem dX8_isSafe_12 : decode cX8_isSafe 12 = .ok (.iconst 4, 1) := by decide +kernel
theorem dX8_isSafe_13 : decode cX8_isSafe 13 = .ok (.idiv, 1) := by decide +kernel
theorem dX8_isSafe_14 : decode cX8_isSafe 14 = .ok (.if_icmp .gt 7, 3) := by decide +kernel
theorem dX8_isSafe_17 : decode cX8_isSafe 17 = .ok (.iconst 1, 1) := by decide +kernel
theorem dX8_isSafe_18 : decode cX8_isSafe 18 = .ok (.goto 4, 3) := by decide +kernel
theorem dX8_isSafe_21 : decode cX8_isSafe 21 = .ok (.iconst 0, 1) := by decide +kernel
theorem dX8_isSafe_22 : decode cX8_isSafe 22 = .ok (.ireturn, 1) := by decide +kernel
theorem dX8_areSafe_0 : decode cX8_areSafe 0 = .ok (.aload_n 0, 1) := by decide +kernel
theorem dX8_areSafe_1 : decode cX8_areSafe 1 = .ok (.getfield 14, 3) := by decide +kernel
theorem dX8_areSafe_4 : decode cX8_areSafe 4 = .ok (.astore_n 1, 1) := by decide +kernel
theorem dX8_areSafe_5 : decode cX8_areSafe 5 = .ok (.aload_n 1, 1) := by decide +kernel
theorem dX8_areSafe_6 : decode cX8_areSafe 6 = .ok (.arraylength, 1) := by decide +kernel
theorem dX8_areSafe_7 : decode cX8_areSafe 7 = .ok (.istore_n 2, 1) := by decide +kernel
theorem dX8_areSafe_8 : decode cX8_areSafe 8 = .ok (.iconst 0, 1) := by decide +kernel
theorem dX8_areSafe_9 : decode cX8_areSafe 9 = .ok (.istore_n 3, 1) := by decide +kernel
theorem dX8_areSafe_10 : decode cX8_areSafe 10 = .ok (.iload_n 3, 1) := by decide +kernel
theorem dX8_areSafe_11 : decode cX8_areSafe 11 = .ok (.iload_n 2, 1) := by decide +kernel
theorem dX8_areSafe_12 : decode cX8_areSafe 12 = .ok (.if_icmp .ge 25, 3) := by decide +kernel
theorem dX8_areSafe_15 : decode cX8_areSafe 15 = .ok (.aload_n 1, 1) := by decide +kernel
theorem dX8_areSafe_16 : decode cX8_areSafe 16 = .ok (.iload_n 3, 1) := by decide +kernel
theorem dX8_areSafe_17 : decode cX8_areSafe 17 = .ok (.iaload, 1) := by decide +kernel
theorem dX8_areSafe_18 : decode cX8_areSafe 18 = .ok (.istore 4, 2) := by decide +kernel
theorem dX8_areSafe_20 : decode cX8_areSafe 20 = .ok (.aload_n 0, 1) := by decide +kernel
theorem dX8_areSafe_21 : decode cX8_areSafe 21 = .ok (.iload 4, 2) := by decide +kernel
theorem dX8_areSafe_23 : decode cX8_areSafe 23 = .ok (.invokevirtual 105, 3) := by decide +kernel
theorem dX8_areSafe_26 : decode cX8_areSafe 26 = .ok (.ifCond .ne 5, 3) := by decide +kernel
theorem dX8_areSafe_29 : decode cX8_areSafe 29 = .ok (.iconst 0, 1) := by decide +kernel
theorem dX8_areSafe_30 : decode cX8_areSafe 30 = .ok (.ireturn, 1) := by decide +kernel
theorem dX8_areSafe_31 : decode cX8_areSafe 31 = .ok (.iinc 3 1, 3) := by decide +kernel
theorem dX8_areSafe_34 : decode cX8_areSafe 34 = .ok (.goto (-24), 3) := by decide +kernel
theorem dX8_areSafe_37 : decode cX8_areSafe 37 = .ok (.iconst 1, 1) := by decide +kernel
theorem dX8_areSafe_38 : decode cX8_areSafe 38 = .ok (.ireturn, 1) := by decide +kernel
theorem dX8_warms_0 : decode cX8_warms 0 = .ok (.iconst 0, 1) := by decide +kernel
theorem dX8_warms_1 : decode cX8_warms 1 = .ok (.istore_n 1, 1) := by decide +kernel
theorem dX8_warms_2 : decode cX8_warms 2 = .ok (.iload_n 1, 1) := by decide +kernel
theorem dX8_warms_3 : decode cX8_warms 3 = .ok (.bipush 8, 2) := by decide +kernel
theorem dX8_warms_5 : decode cX8_warms 5 = .ok (.if_icmp .ge 32, 3) := by decide +kernel
theorem dX8_warms_8 : decode cX8_warms 8 = .ok (.aload_n 0, 1) := by decide +kernel
theorem dX8_warms_9 : decode cX8_warms 9 = .ok (.getfield 14, 3) := by decide +kernel
theorem dX8_warms_12 : decode cX8_warms 12 = .ok (.iload_n 1, 1) := by decide +kernel
theorem dX8_warms_13 : decode cX8_warms 13 = .ok (.dup2, 1) := by decide +kernel
theorem dX8_warms_14 : decode cX8_warms 14 = .ok (.iaload, 1) := by decide +kernel
theorem dX8_warms_15 : decode cX8_warms 15 = .ok (.aload_n 0, 1) := by decide +kernel
theorem dX8_warms_16 : decode cX8_warms 16 = .ok (.getfield 40, 3) := by decide +kernel
theorem dX8_warms_19 : decode cX8_warms 19 = .ok (.aload_n 0, 1) := by decide +kernel
theorem dX8_warms_20 : decode cX8_warms 20 = .ok (.getfield 14, 3) := by decide +kernel
theorem dX8_warms_23 : decode cX8_warms 23 = .ok (.iload_n 1, 1) := by decide +kernel
theorem dX8_warms_24 : decode cX8_warms 24 = .ok (.iaload, 1) := by decide +kernel
theorem dX8_warms_25 : decode cX8_warms 25 = .ok (.isub, 1) := by decide +kernel
theorem dX8_warms_26 : decode cX8_warms 26 = .ok (.bipush 8, 2) := by decide +kernel
theorem dX8_warms_28 : decode cX8_warms 28 = .ok (.idiv, 1) := by decide +kernel
theorem dX8_warms_29 : decode cX8_warms 29 = .ok (.iadd, 1) := by decide +kernel
theorem dX8_warms_30 : decode cX8_warms 30 = .ok (.iastore, 1) := by decide +kernel
theorem dX8_warms_31 : decode cX8_warms 31 = .ok (.iinc 1 1, 3) := by decide +kernel
theorem dX8_warms_34 : decode cX8_warms 34 = .ok (.goto (-32), 3) := by decide +kernel
theorem dX8_warms_37 : decode cX8_warms 37 = .ok (.aload_n 0, 1) := by decide +kernel
theorem dX8_warms_38 : decode cX8_warms 38 = .ok (.dup, 1) := by decide +kernel
theorem dX8_warms_39 : decode cX8_warms 39 = .ok (.getfield 43, 3) := by decide +kernel
theorem dX8_warms_42 : decode cX8_warms 42 = .ok (.aload_n 0, 1) := by decide +kernel
theorem dX8_warms_43 : decode cX8_warms 43 = .ok (.getfield 40, 3) := by decide +kernel
theorem dX8_warms_46 : decode cX8_warms 46 = .ok (.aload_n 0, 1) := by decide +kernel
theorem dX8_warms_47 : decode cX8_warms 47 = .ok (.getfield 43, 3) := by decide +kernel
theorem dX8_warms_50 : decode cX8_warms 50 = .ok (.isub, 1) := by decide +kernel
theorem dX8_warms_51 : decode cX8_warms 51 = .ok (.bipush 8, 2) := by decide +kernel
theorem dX8_warms_53 : decode cX8_warms 53 = .ok (.idiv, 1) := by decide +kernel
theorem dX8_warms_54 : decode cX8_warms 54 = .ok (.iadd, 1) := by decide +kernel
theorem dX8_warms_55 : decode cX8_warms 55 = .ok (.putfield 43, 3) := by decide +kernel
theorem dX8_warms_58 : decode cX8_warms 58 = .ok (.return_, 1) := by decide +kernel
theorem dX8_passes_0 : decode cX8_passes 0 = .ok (.iconst 0, 1) := by decide +kernel
theorem dX8_passes_1 : decode cX8_passes 1 = .ok (.istore_n 2, 1) := by decide +kernel
theorem dX8_passes_2 : decode cX8_passes 2 = .ok (.iload_n 2, 1) := by decide +kernel
theorem dX8_passes_3 : decode cX8_passes 3 = .ok (.iload_n 1, 1) := by decide +kernel
theorem dX8_passes_4 : decode cX8_passes 4 = .ok (.if_icmp .ge 227, 3) := by decide +kernel
theorem dX8_passes_7 : decode cX8_passes 7 = .ok (.aload_n 0, 1) := by decide +kernel
theorem dX8_passes_8 : decode cX8_passes 8 = .ok (.dup, 1) := by decide +kernel
theorem dX8_passes_9 : decode cX8_passes 9 = .ok (.getfield 63, 3) := by decide +kernel
theorem dX8_passes_12 : decode cX8_passes 12 = .ok (.iconst 1, 1) := by decide +kernel
theorem dX8_passes_13 : decode cX8_passes 13 = .ok (.iadd, 1) := by decide +kernel
theorem dX8_passes_14 : decode cX8_passes 14 = .ok (.putfield 63, 3) := by decide +kernel
theorem dX8_passes_17 : decode cX8_passes 17 = .ok (.aload_n 0, 1) := by decide +kernel
theorem dX8_passes_18 : decode cX8_passes 18 = .ok (.getfield 63, 3) := by decide +kernel
theorem dX8_passes_21 : decode cX8_passes 21 = .ok (.bipush 32, 2) := by decide +kernel
theorem dX8_passes_23 : decode cX8_passes 23 = .ok (.irem, 1) := by decide +kernel
theorem dX8_passes_24 : decode cX8_passes 24 = .ok (.ifCond .eq 6, 3) := by decide +kernel
theorem dX8_passes_27 : decode cX8_passes 27 = .ok (.goto 198, 3) := by decide +kernel
theorem dX8_passes_30 : decode cX8_passes 30 = .ok (.aload_n 0, 1) := by decide +kernel
theorem dX8_passes_31 : decode cX8_passes 31 = .ok (.invokevirtual 92, 3) := by decide +kernel
theorem dX8_passes_34 : decode cX8_passes 34 = .ok (.istore_n 3, 1) := by decide +kernel
theorem dX8_passes_35 : decode cX8_passes 35 = .ok (.iconst 0, 1) := by decide +kernel
theorem dX8_passes_36 : decode cX8_passes 36 = .ok (.istore 4, 2) := by decide +kernel
theorem dX8_passes_38 : decode cX8_passes 38 = .ok (.iload 4, 2) := by decide +kernel
theorem dX8_passes_40 : decode cX8_passes 40 = .ok (.bipush 8, 2) := by decide +kernel
theorem dX8_passes_42 : decode cX8_passes 42 = .ok (.if_icmp .ge 179, 3) := by decide +kernel
theorem dX8_passes_45 : decode cX8_passes 45 = .ok (.aload_n 0, 1) := by decide +kernel
theorem dX8_passes_46 : decode cX8_passes 46 = .ok (.aload_n 0, 1) := by decide +kernel
theorem dX8_passes_47 : decode cX8_passes 47 = .ok (.getfield 14, 3) := by decide +kernel
theorem dX8_passes_50 : decode cX8_passes 50 = .ok (.iload 4, 2) := by decide +kernel
theorem dX8_passes_52 : decode cX8_passes 52 = .ok (.iaload, 1) := by decide +kernel
theorem dX8_passes_53 : decode cX8_passes 53 = .ok (.invokevirtual 96, 3) := by decide +kernel
theorem dX8_passes_56 : decode cX8_passes 56 = .ok (.istore 5, 2) := by decide +kernel
theorem dX8_passes_58 : decode cX8_passes 58 = .ok (.iload 5, 2) := by decide +kernel
theorem dX8_passes_60 : decode cX8_passes 60 = .ok (.iload_n 3, 1) := by decide +kernel
theorem dX8_passes_61 : decode cX8_passes 61 = .ok (.iconst 2, 1) := by decide +kernel
theorem dX8_passes_62 : decode cX8_passes 62 = .ok (.idiv, 1) := by decide +kernel
theorem dX8_passes_63 : decode cX8_passes 63 = .ok (.iadd, 1) := by decide +kernel
theorem dX8_passes_64 : decode cX8_passes 64 = .ok (.iload_n 3, 1) := by decide +kernel
theorem dX8_passes_65 : decode cX8_passes 65 = .ok (.invokestatic 109, 3) := by decide +kernel
theorem dX8_passes_68 : decode cX8_passes 68 = .ok (.istore 6, 2) := by decide +kernel
theorem dX8_passes_70 : decode cX8_passes 70 = .ok (.sipush 640, 3) := by decide +kernel
theorem dX8_passes_73 : decode cX8_passes 73 = .ok (.newarray .boolean, 2) := by decide +kernel
theorem dX8_passes_75 : decode cX8_passes 75 = .ok (.astore 7, 2) := by decide +kernel
theorem dX8_passes_77 : decode cX8_passes 77 = .ok (.iconst 0, 1) := by decide +kernel
theorem dX8_passes_78 : decode cX8_passes 78 = .ok (.istore 8, 2) := by decide +kernel
theorem dX8_passes_80 : decode cX8_passes 80 = .ok (.iload 8, 2) := by decide +kernel
theorem dX8_passes_82 : decode cX8_passes 82 = .ok (.sipush 640, 3) := by decide +kernel
theorem dX8_passes_85 : decode cX8_passes 85 = .ok (.if_icmp .ge 33, 3) := by decide +kernel
theorem dX8_passes_88 : decode cX8_passes 88 = .ok (.aload 7, 2) := by decide +kernel
theorem dX8_passes_90 : decode cX8_passes 90 = .ok (.iload 8, 2) := by decide +kernel
theorem dX8_passes_92 : decode cX8_passes 92 = .ok (.iload 6, 2) := by decide +kernel
theorem dX8_passes_94 : decode cX8_passes 94 = .ok (.iadd, 1) := by decide +kernel
theorem dX8_passes_95 : decode cX8_passes 95 = .ok (.sipush 640, 3) := by decide +kernel
theorem dX8_passes_98 : decode cX8_passes 98 = .ok (.invokestatic 113, 3) := by decide +kernel
theorem dX8_passes_101 : decode cX8_passes 101 = .ok (.aload_n 0, 1) := by decide +kernel
theorem dX8_passes_102 : decode cX8_passes 102 = .ok (.getfield 9, 3) := by decide +kernel
theorem dX8_passes_105 : decode cX8_passes 105 = .ok (.iload 4, 2) := by decide +kernel
theorem dX8_passes_107 : decode cX8_passes 107 = .ok (.aaload, 1) := by decide +kernel
theorem dX8_passes_108 : decode cX8_passes 108 = .ok (.iload 8, 2) := by decide +kernel
theorem dX8_passes_110 : decode cX8_passes 110 = .ok (.baload, 1) := by decide +kernel
theorem dX8_passes_111 : decode cX8_passes 111 = .ok (.bastore, 1) := by decide +kernel
theorem dX8_passes_112 : decode cX8_passes 112 = .ok (.iinc 8 1, 3) := by decide +kernel
theorem dX8_passes_115 : decode cX8_passes 115 = .ok (.goto (-35), 3) := by decide +kernel
theorem dX8_passes_118 : decode cX8_passes 118 = .ok (.aload_n 0, 1) := by decide +kernel
theorem dX8_passes_119 : decode cX8_passes 119 = .ok (.getfield 9, 3) := by decide +kernel
theorem dX8_passes_122 : decode cX8_passes 122 = .ok (.iload 4, 2) := by decide +kernel
theorem dX8_passes_124 : decode cX8_passes 124 = .ok (.aload 7, 2) := by decide +kernel
theorem dX8_passes_126 : decode cX8_passes 126 = .ok (.aastore, 1) := by decide +kernel
theorem dX8_passes_127 : decode cX8_passes 127 = .ok (.aload_n 0, 1) := by decide +kernel
theorem dX8_passes_128 : decode cX8_passes 128 = .ok (.getfield 18, 3) := by decide +kernel
theorem dX8_passes_131 : decode cX8_passes 131 = .ok (.iload 4, 2) := by decide +kernel
theorem dX8_passes_133 : decode cX8_passes 133 = .ok (.dup2, 1) := by decide +kernel
theorem dX8_passes_134 : decode cX8_passes 134 = .ok (.iaload, 1) := by decide +kernel
theorem dX8_passes_135 : decode cX8_passes 135 = .ok (.iload 6, 2) := by decide +kernel
theorem dX8_passes_137 : decode cX8_passes 137 = .ok (.invokestatic 100, 3) := by decide +kernel
theorem dX8_passes_140 : decode cX8_passes 140 = .ok (.iadd, 1) := by decide +kernel
theorem dX8_passes_141 : decode cX8_passes 141 = .ok (.iastore, 1) := by decide +kernel
theorem dX8_passes_142 : decode cX8_passes 142 = .ok (.bipush 7, 2) := by decide +kernel
theorem dX8_passes_144 : decode cX8_passes 144 = .ok (.aload_n 0, 1) := by decide +kernel
theorem dX8_passes_145 : decode cX8_passes 145 = .ok (.getfield 63, 3) := by decide +kernel
theorem dX8_passes_148 : decode cX8_passes 148 = .ok (.bipush 32, 2) := by decide +kernel
theorem dX8_passes_150 : decode cX8_passes 150 = .ok (.idiv, 1) := by decide +kernel
theorem dX8_passes_151 : decode cX8_passes 151 = .ok (.imul, 1) := by decide +kernel
theorem dX8_passes_152 : decode cX8_passes 152 = .ok (.iload 4, 2) := by decide +kernel
theorem dX8_passes_154 : decode cX8_passes 154 = .ok (.iadd, 1) := by decide +kernel
theorem dX8_passes_155 : decode cX8_passes 155 = .ok (.sipush 640, 3) := by decide +kernel
theorem dX8_passes_158 : decode cX8_passes 158 = .ok (.irem, 1) := by decide +kernel
theorem dX8_passes_159 : decode cX8_passes 159 = .ok (.istore 8, 2) := by decide +kernel
theorem dX8_passes_161 : decode cX8_passes 161 = .ok (.iload 5, 2) := by decide +kernel
theorem dX8_passes_163 : decode cX8_passes 163 = .ok (.iload 6, 2) := by decide +kernel
theorem dX8_passes_165 : decode cX8_passes 165 = .ok (.iload_n 3, 1) := by decide +kernel
theorem dX8_passes_166 : decode cX8_passes 166 = .ok (.imul, 1) := by decide +kernel
theorem dX8_passes_167 : decode cX8_passes 167 = .ok (.isub, 1) := by decide +kernel
theorem dX8_passes_168 : decode cX8_passes 168 = .ok (.invokestatic 100, 3) := by decide +kernel
theorem dX8_passes_171 : decode cX8_passes 171 = .ok (.iload_n 3, 1) := by decide +kernel
theorem dX8_passes_172 : decode cX8_passes 172 = .ok (.iconst 4, 1) := by decide +kernel
theorem dX8_passes_173 : decode cX8_passes 173 = .ok (.idiv, 1) := by decide +kernel
theorem dX8_passes_174 : decode cX8_passes 174 = .ok (.if_icmp .le 41, 3) := by decide +kernel
theorem dX8_passes_177 : decode cX8_passes 177 = .ok (.aload_n 0, 1) := by decide +kernel
theorem dX8_passes_178 : decode cX8_passes 178 = .ok (.dup, 1) := by decide +kernel
theorem dX8_passes_179 : decode cX8_passes 179 = .ok (.getfield 81, 3) := by decide +kernel
theorem dX8_passes_182 : decode cX8_passes 182 = .ok (.aload_n 0, 1) := by decide +kernel
theorem dX8_passes_183 : decode cX8_passes 183 = .ok (.getfield 9, 3) := by decide +kernel
theorem dX8_passes_186 : decode cX8_passes 186 = .ok (.iload 4, 2) := by decide +kernel
theorem dX8_passes_188 : decode cX8_passes 188 = .ok (.aaload, 1) := by decide +kernel
theorem dX8_passes_189 : decode cX8_passes 189 = .ok (.iload 8, 2) := by decide +kernel
theorem dX8_passes_191 : decode cX8_passes 191 = .ok (.baload, 1) := by decide +kernel
theorem dX8_passes_192 : decode cX8_passes 192 = .ok (.ifCond .eq 7, 3) := by decide +kernel
theorem dX8_passes_195 : decode cX8_passes 195 = .ok (.iconst 1, 1) := by decide +kernel
theorem dX8_passes_196 : decode cX8_passes 196 = .ok (.goto 4, 3) := by decide +kernel
theorem dX8_passes_199 : decode cX8_passes 199 = .ok (.iconst 0, 1) := by decide +kernel
theorem dX8_passes_200 : decode cX8_passes 200 = .ok (.iadd, 1) := by decide +kernel
theorem dX8_passes_201 : decode cX8_passes 201 = .ok (.putfield 81, 3) := by decide +kernel
theorem dX8_passes_204 : decode cX8_passes 204 = .ok (.aload_n 0, 1) := by decide +kernel
theorem dX8_passes_205 : decode cX8_passes 205 = .ok (.getfield 9, 3) := by decide +kernel
theorem dX8_passes_208 : decode cX8_passes 208 = .ok (.iload 4, 2) := by decide +kernel
theorem dX8_passes_210 : decode cX8_passes 210 = .ok (.aaload, 1) := by decide +kernel
theorem dX8_passes_211 : decode cX8_passes 211 = .ok (.iload 8, 2) := by decide +kernel
theorem dX8_passes_213 : decode cX8_passes 213 = .ok (.iconst 0, 1) := by decide +kernel
theorem dX8_passes_214 : decode cX8_passes 214 = .ok (.bastore, 1) := by decide +kernel
theorem dX8_passes_215 : decode cX8_passes 215 = .ok (.iinc 4 1, 3) := by decide +kernel
theorem dX8_passes_218 : decode cX8_passes 218 = .ok (.goto (-180), 3) := by decide +kernel
theorem dX8_passes_221 : decode cX8_passes 221 = .ok (.aload_n 0, 1) := by decide +kernel
theorem dX8_passes_222 : decode cX8_passes 222 = .ok (.invokevirtual 116, 3) := by decide +kernel
theorem dX8_passes_225 : decode cX8_passes 225 = .ok (.iinc 2 1, 3) := by decide +kernel
theorem dX8_passes_228 : decode cX8_passes 228 = .ok (.goto (-226), 3) := by decide +kernel
theorem dX8_passes_231 : decode cX8_passes 231 = .ok (.return_, 1) := by decide +kernel
theorem dX8_waitsFor_0 : decode cX8_waitsFor 0 = .ok (.aload_n 0, 1) := by decide +kernel
theorem dX8_waitsFor_1 : decode cX8_waitsFor 1 = .ok (.getfield 63, 3) := by decide +kernel
theorem dX8_waitsFor_4 : decode cX8_waitsFor 4 = .ok (.bipush 32, 2) := by decide +kernel
theorem dX8_waitsFor_6 : decode cX8_waitsFor 6 = .ok (.irem, 1) := by decide +kernel
theorem dX8_waitsFor_7 : decode cX8_waitsFor 7 = .ok (.iload_n 1, 1) := by decide +kernel
theorem dX8_waitsFor_8 : decode cX8_waitsFor 8 = .ok (.if_icmp .eq 21, 3) := by decide +kernel
theorem dX8_waitsFor_11 : decode cX8_waitsFor 11 = .ok (.aload_n 0, 1) := by decide +kernel
theorem dX8_waitsFor_12 : decode cX8_waitsFor 12 = .ok (.dup, 1) := by decide +kernel
theorem dX8_waitsFor_13 : decode cX8_waitsFor 13 = .ok (.getfield 78, 3) := by decide +kernel
theorem dX8_waitsFor_16 : decode cX8_waitsFor 16 = .ok (.iconst 1, 1) := by decide +kernel
theorem dX8_waitsFor_17 : decode cX8_waitsFor 17 = .ok (.iadd, 1) := by decide +kernel
theorem dX8_waitsFor_18 : decode cX8_waitsFor 18 = .ok (.putfield 78, 3) := by decide +kernel
theorem dX8_waitsFor_21 : decode cX8_waitsFor 21 = .ok (.aload_n 0, 1) := by decide +kernel
theorem dX8_waitsFor_22 : decode cX8_waitsFor 22 = .ok (.iconst 1, 1) := by decide +kernel
theorem dX8_waitsFor_23 : decode cX8_waitsFor 23 = .ok (.invokevirtual 119, 3) := by decide +kernel
theorem dX8_waitsFor_26 : decode cX8_waitsFor 26 = .ok (.goto (-26), 3) := by decide +kernel
theorem dX8_waitsFor_29 : decode cX8_waitsFor 29 = .ok (.return_, 1) := by decide +kernel
theorem dX8_wrap_0 : decode cX8_wrap 0 = .ok (.lload_n 0, 1) := by decide +kernel
theorem dX8_wrap_1 : decode cX8_wrap 1 = .ok (.bipush 44, 2) := by decide +kernel
theorem dX8_wrap_3 : decode cX8_wrap 3 = .ok (.lshl, 1) := by decide +kernel
theorem dX8_wrap_4 : decode cX8_wrap 4 = .ok (.bipush 44, 2) := by decide +kernel
theorem dX8_wrap_6 : decode cX8_wrap 6 = .ok (.lshr, 1) := by decide +kernel
theorem dX8_wrap_7 : decode cX8_wrap 7 = .ok (.l2i, 1) := by decide +kernel
theorem dX8_wrap_8 : decode cX8_wrap 8 = .ok (.ireturn, 1) := by decide +kernel
theorem dX8_result_0 : decode cX8_result 0 = .ok (.aload_n 0, 1) := by decide +kernel
theorem dX8_result_1 : decode cX8_result 1 = .ok (.lload_n 1, 1) := by decide +kernel
theorem dX8_result_2 : decode cX8_result 2 = .ok (.invokestatic 123, 3) := by decide +kernel
theorem dX8_result_5 : decode cX8_result 5 = .ok (.putfield 66, 3) := by decide +kernel
theorem dX8_result_8 : decode cX8_result 8 = .ok (.aload_n 0, 1) := by decide +kernel
theorem dX8_result_9 : decode cX8_result 9 = .ok (.aload_n 0, 1) := by decide +kernel
theorem dX8_result_10 : decode cX8_result 10 = .ok (.getfield 88, 3) := by decide +kernel
theorem dX8_result_13 : decode cX8_result 13 = .ok (.ifCond .ne 17, 3) := by decide +kernel
theorem dX8_result_16 : decode cX8_result 16 = .ok (.iload_n 3, 1) := by decide +kernel
theorem dX8_result_17 : decode cX8_result 17 = .ok (.ifCond .eq 17, 3) := by decide +kernel
theorem dX8_result_20 : decode cX8_result 20 = .ok (.aload_n 0, 1) := by decide +kernel
theorem dX8_result_21 : decode cX8_result 21 = .ok (.getfield 66, 3) := by decide +kernel
theorem dX8_result_24 : decode cX8_result 24 = .ok (.i2l, 1) := by decide +kernel
theorem dX8_result_25 : decode cX8_result 25 = .ok (.lload_n 1, 1) := by decide +kernel
theorem dX8_result_26 : decode cX8_result 26 = .ok (.lcmp, 1) := by decide +kernel
theorem dX8_result_27 : decode cX8_result 27 = .ok (.ifCond .eq 7, 3) := by decide +kernel
theorem dX8_result_30 : decode cX8_result 30 = .ok (.iconst 1, 1) := by decide +kernel
theorem dX8_result_31 : decode cX8_result 31 = .ok (.goto 4, 3) := by decide +kernel
theorem dX8_result_34 : decode cX8_result 34 = .ok (.iconst 0, 1) := by decide +kernel
theorem dX8_result_35 : decode cX8_result 35 = .ok (.putfield 88, 3) := by decide +kernel
theorem dX8_result_38 : decode cX8_result 38 = .ok (.return_, 1) := by decide +kernel
theorem dX8_step_0 : decode cX8_step 0 = .ok (.aload_n 0, 1) := by decide +kernel
theorem dX8_step_1 : decode cX8_step 1 = .ok (.aload_n 0, 1) := by decide +kernel
theorem dX8_step_2 : decode cX8_step 2 = .ok (.getfield 72, 3) := by decide +kernel
theorem dX8_step_5 : decode cX8_step 5 = .ok (.invokevirtual 127, 3) := by decide +kernel
theorem dX8_step_8 : decode cX8_step 8 = .ok (.aload_n 0, 1) := by decide +kernel
theorem dX8_step_9 : decode cX8_step 9 = .ok (.aload_n 0, 1) := by decide +kernel
theorem dX8_step_10 : decode cX8_step 10 = .ok (.getfield 69, 3) := by decide +kernel
theorem dX8_step_13 : decode cX8_step 13 = .ok (.aload_n 0, 1) := by decide +kernel
theorem dX8_step_14 : decode cX8_step 14 = .ok (.getfield 72, 3) := by decide +kernel
theorem dX8_step_17 : decode cX8_step 17 = .ok (.invokevirtual 130, 3) := by decide +kernel
theorem dX8_step_20 : decode cX8_step 20 = .ok (.istore_n 1, 1) := by decide +kernel
theorem dX8_step_21 : decode cX8_step 21 = .ok (.aload_n 0, 1) := by decide +kernel
theorem dX8_step_22 : decode cX8_step 22 = .ok (.iconst 1, 1) := by decide +kernel
theorem dX8_step_23 : decode cX8_step 23 = .ok (.invokevirtual 119, 3) := by decide +kernel
theorem dX8_step_26 : decode cX8_step 26 = .ok (.iload_n 1, 1) := by decide +kernel
theorem dX8_step_27 : decode cX8_step 27 = .ok (.bipush 15, 2) := by decide +kernel
theorem dX8_step_29 : decode cX8_step 29 = .ok (.iand, 1) := by decide +kernel
theorem dX8_step_30 : decode cX8_step 30 = .ok (.istore_n 2, 1) := by decide +kernel
theorem dX8_step_31 : decode cX8_step 31 = .ok (.iload_n 1, 1) := by decide +kernel
theorem dX8_step_32 : decode cX8_step 32 = .ok (.iconst 4, 1) := by decide +kernel
theorem dX8_step_33 : decode cX8_step 33 = .ok (.ishr, 1) := by decide +kernel
theorem dX8_step_34 : decode cX8_step 34 = .ok (.bipush 7, 2) := by decide +kernel
theorem dX8_step_36 : decode cX8_step 36 = .ok (.iand, 1) := by decide +kernel
theorem dX8_step_37 : decode cX8_step 37 = .ok (.istore_n 3, 1) := by decide +kernel
theorem dX8_step_38 : decode cX8_step 38 = .ok (.iload_n 1, 1) := by decide +kernel
theorem dX8_step_39 : decode cX8_step 39 = .ok (.bipush 7, 2) := by decide +kernel
theorem dX8_step_41 : decode cX8_step 41 = .ok (.ishr, 1) := by decide +kernel
theorem dX8_step_42 : decode cX8_step 42 = .ok (.bipush 31, 2) := by decide +kernel
theorem dX8_step_44 : decode cX8_step 44 = .ok (.iand, 1) := by decide +kernel
theorem dX8_step_45 : decode cX8_step 45 = .ok (.istore 4, 2) := by decide +kernel
theorem dX8_step_47 : decode cX8_step 47 = .ok (.iload_n 2, 1) := by decide +kernel
theorem dX8_step_48 : decode cX8_step 48 = .ok (.bipush 13, 2) := by decide +kernel
theorem dX8_step_50 : decode cX8_step 50 = .ok (.if_icmp .ne 13, 3) := by decide +kernel
theorem dX8_step_53 : decode cX8_step 53 = .ok (.aload_n 0, 1) := by decide +kernel
theorem dX8_step_54 : decode cX8_step 54 = .ok (.getfield 29, 3) := by decide +kernel
theorem dX8_step_57 : decode cX8_step 57 = .ok (.invokevirtual 133, 3) := by decide +kernel
theorem dX8_step_60 : decode cX8_step 60 = .ok (.ifCond .ne 21, 3) := by decide +kernel
theorem dX8_step_63 : decode cX8_step 63 = .ok (.iload_n 2, 1) := by decide +kernel
theorem dX8_step_64 : decode cX8_step 64 = .ok (.bipush 14, 2) := by decide +kernel
theorem dX8_step_66 : decode cX8_step 66 = .ok (.if_icmp .ne 32, 3) := by decide +kernel
theorem dX8_step_69 : decode cX8_step 69 = .ok (.aload_n 0, 1) := by decide +kernel
theorem dX8_step_70 : decode cX8_step 70 = .ok (.getfield 33, 3) := by decide +kernel
theorem dX8_step_73 : decode cX8_step 73 = .ok (.invokevirtual 137, 3) := by decide +kernel
theorem dX8_step_76 : decode cX8_step 76 = .ok (.bipush 64, 2) := by decide +kernel
theorem dX8_step_78 : decode cX8_step 78 = .ok (.if_icmp .ne 20, 3) := by decide +kernel
theorem dX8_step_81 : decode cX8_step 81 = .ok (.aload_n 0, 1) := by decide +kernel
theorem dX8_step_82 : decode cX8_step 82 = .ok (.iload_n 2, 1) := by decide +kernel
theorem dX8_step_83 : decode cX8_step 83 = .ok (.bipush 13, 2) := by decide +kernel
theorem dX8_step_85 : decode cX8_step 85 = .ok (.if_icmp .ne 7, 3) := by decide +kernel
theorem dX8_step_88 : decode cX8_step 88 = .ok (.iconst 2, 1) := by decide +kernel
theorem dX8_step_89 : decode cX8_step 89 = .ok (.goto 4, 3) := by decide +kernel
theorem dX8_step_92 : decode cX8_step 92 = .ok (.iconst 3, 1) := by decide +kernel
theorem dX8_step_93 : decode cX8_step 93 = .ok (.putfield 36, 3) := by decide +kernel
theorem dX8_step_96 : decode cX8_step 96 = .ok (.iconst 0, 1) := by decide +kernel
theorem dX8_step_97 : decode cX8_step 97 = .ok (.ireturn, 1) := by decide +kernel
theorem dX8_step_98 : decode cX8_step 98 = .ok (.iconst 0, 1) := by decide +kernel
theorem dX8_step_99 : decode cX8_step 99 = .ok (.istore 5, 2) := by decide +kernel
theorem dX8_step_101 : decode cX8_step 101 = .ok (.iload_n 2, 1) := by decide +kernel
theorem dX8_step_102 : decode cX8_step 102 = .ok (.ifCond .le 9, 3) := by decide +kernel
theorem dX8_step_105 : decode cX8_step 105 = .ok (.iload_n 2, 1) := by decide +kernel
theorem dX8_step_106 : decode cX8_step 106 = .ok (.bipush 8, 2) := by decide +kernel
theorem dX8_step_108 : decode cX8_step 108 = .ok (.if_icmp .lt 9, 3) := by decide +kernel
theorem dX8_step_111 : decode cX8_step 111 = .ok (.iload_n 2, 1) := by decide +kernel
theorem dX8_step_112 : decode cX8_step 112 = .ok (.bipush 15, 2) := by decide +kernel
theorem dX8_step_114 : decode cX8_step 114 = .ok (.if_icmp .ne 9, 3) := by decide +kernel
theorem dX8_step_117 : decode cX8_step 117 = .ok (.aload_n 0, 1) := by decide +kernel
theorem dX8_step_118 : decode cX8_step 118 = .ok (.iload 4, 2) := by decide +kernel
theorem dX8_step_120 : decode cX8_step 120 = .ok (.invokevirtual 127, 3) := by decide +kernel
theorem dX8_step_123 : decode cX8_step 123 = .ok (.aload_n 0, 1) := by decide +kernel
theorem dX8_step_124 : decode cX8_step 124 = .ok (.iload_n 3, 1) := by decide +kernel
theorem dX8_step_125 : decode cX8_step 125 = .ok (.iload 4, 2) := by decide +kernel
theorem dX8_step_127 : decode cX8_step 127 = .ok (.invokevirtual 130, 3) := by decide +kernel
theorem dX8_step_130 : decode cX8_step 130 = .ok (.istore 6, 2) := by decide +kernel
theorem dX8_step_132 : decode cX8_step 132 = .ok (.iload_n 2, 1) := by decide +kernel
theorem dX8_step_133 : decode cX8_step 133 = .ok (.tableswitch 310 0 14 #[75, 83, 92, 106, 123, 140, 154, 168, 185, 203, 223, 240, 257, 271, 292], 75) := by decide +kernel
theorem dX8_step_208 : decode cX8_step 208 = .ok (.aload_n 0, 1) := by decide +kernel
theorem dX8_step_209 : decode cX8_step 209 = .ok (.iconst 1, 1) := by decide +kernel
theorem dX8_step_210 : decode cX8_step 210 = .ok (.putfield 36, 3) := by decide +kernel
theorem dX8_step_213 : decode cX8_step 213 = .ok (.goto 259, 3) := by decide +kernel
theorem dX8_step_216 : decode cX8_step 216 = .ok (.aload_n 0, 1) := by decide +kernel
theorem dX8_step_217 : decode cX8_step 217 = .ok (.iload 6, 2) := by decide +kernel
theorem dX8_step_219 : decode cX8_step 219 = .ok (.putfield 66, 3) := by decide +kernel
theorem dX8_step_222 : decode cX8_step 222 = .ok (.goto 250, 3) := by decide +kernel
theorem dX8_step_225 : decode cX8_step 225 = .ok (.aload_n 0, 1) := by decide +kernel
theorem dX8_step_226 : decode cX8_step 226 = .ok (.iload_n 3, 1) := by decide +kernel
theorem dX8_step_227 : decode cX8_step 227 = .ok (.iload 4, 2) := by decide +kernel
theorem dX8_step_229 : decode cX8_step 229 = .ok (.aload_n 0, 1) := by decide +kernel
theorem dX8_step_230 : decode cX8_step 230 = .ok (.getfield 66, 3) := by decide +kernel
theorem dX8_step_233 : decode cX8_step 233 = .ok (.invokevirtual 140, 3) := by decide +kernel
theorem dX8_step_236 : decode cX8_step 236 = .ok (.goto 236, 3) := by decide +kernel
theorem dX8_step_239 : decode cX8_step 239 = .ok (.aload_n 0, 1) := by decide +kernel
theorem dX8_step_240 : decode cX8_step 240 = .ok (.aload_n 0, 1) := by decide +kernel
theorem dX8_step_241 : decode cX8_step 241 = .ok (.getfield 66, 3) := by decide +kernel
theorem dX8_step_244 : decode cX8_step 244 = .ok (.i2l, 1) := by decide +kernel
theorem dX8_step_245 : decode cX8_step 245 = .ok (.iload 6, 2) := by decide +kernel
theorem dX8_step_247 : decode cX8_step 247 = .ok (.i2l, 1) := by decide +kernel
theorem dX8_step_248 : decode cX8_step 248 = .ok (.ladd, 1) := by decide +kernel
theorem dX8_step_249 : decode cX8_step 249 = .ok (.iconst 1, 1) := by decide +kernel
theorem dX8_step_250 : decode cX8_step 250 = .ok (.invokevirtual 144, 3) := by decide +kernel
theorem dX8_step_253 : decode cX8_step 253 = .ok (.goto 219, 3) := by decide +kernel
theorem dX8_step_256 : decode cX8_step 256 = .ok (.aload_n 0, 1) := by decide +kernel
theorem dX8_step_257 : decode cX8_step 257 = .ok (.aload_n 0, 1) := by decide +kernel
theorem dX8_step_258 : decode cX8_step 258 = .ok (.getfield 66, 3) := by decide +kernel
theorem dX8_step_261 : decode cX8_step 261 = .ok (.i2l, 1) := by decide +kernel
theorem dX8_step_262 : decode cX8_step 262 = .ok (.iload 6, 2) := by decide +kernel
theorem dX8_step_264 : decode cX8_step 264 = .ok (.i2l, 1) := by decide +kernel
theorem dX8_step_265 : decode cX8_step 265 = .ok (.lsub, 1) := by decide +kernel
theorem dX8_step_266 : decode cX8_step 266 = .ok (.iconst 1, 1) := by decide +kernel
theorem dX8_step_267 : decode cX8_step 267 = .ok (.invokevirtual 144, 3) := by decide +kernel
theorem dX8_step_270 : decode cX8_step 270 = .ok (.goto 202, 3) := by decide +kernel
theorem dX8_step_273 : decode cX8_step 273 = .ok (.aload_n 0, 1) := by decide +kernel
theorem dX8_step_274 : decode cX8_step 274 = .ok (.dup, 1) := by decide +kernel
theorem dX8_step_275 : decode cX8_step 275 = .ok (.getfield 66, 3) := by decide +kernel
theorem dX8_step_278 : decode cX8_step 278 = .ok (.iload 6, 2) := by decide +kernel
theorem dX8_step_280 : decode cX8_step 280 = .ok (.iand, 1) := by decide +kernel
theorem dX8_step_281 : decode cX8_step 281 = .ok (.putfield 66, 3) := by decide +kernel
theorem dX8_step_284 : decode cX8_step 284 = .ok (.goto 188, 3) := by decide +kernel
theorem dX8_step_287 : decode cX8_step 287 = .ok (.aload_n 0, 1) := by decide +kernel
theorem dX8_step_288 : decode cX8_step 288 = .ok (.dup, 1) := by decide +kernel
theorem dX8_step_289 : decode cX8_step 289 = .ok (.getfield 66, 3) := by decide +kernel
theorem dX8_step_292 : decode cX8_step 292 = .ok (.iload 6, 2) := by decide +kernel
theorem dX8_step_294 : decode cX8_step 294 = .ok (.ixor, 1) := by decide +kernel
theorem dX8_step_295 : decode cX8_step 295 = .ok (.putfield 66, 3) := by decide +kernel
theorem dX8_step_298 : decode cX8_step 298 = .ok (.goto 174, 3) := by decide +kernel
theorem dX8_step_301 : decode cX8_step 301 = .ok (.aload_n 0, 1) := by decide +kernel
theorem dX8_step_302 : decode cX8_step 302 = .ok (.aload_n 0, 1) := by decide +kernel
theorem dX8_step_303 : decode cX8_step 303 = .ok (.getfield 66, 3) := by decide +kernel
theorem dX8_step_306 : decode cX8_step 306 = .ok (.i2l, 1) := by decide +kernel
theorem dX8_step_307 : decode cX8_step 307 = .ok (.iload 6, 2) := by decide +kernel
theorem dX8_step_309 : decode cX8_step 309 = .ok (.i2l, 1) := by decide +kernel
theorem dX8_step_310 : decode cX8_step 310 = .ok (.lmul, 1) := by decide +kernel
theorem dX8_step_311 : decode cX8_step 311 = .ok (.iconst 1, 1) := by decide +kernel
theorem dX8_step_312 : decode cX8_step 312 = .ok (.invokevirtual 144, 3) := by decide +kernel
theorem dX8_step_315 : decode cX8_step 315 = .ok (.goto 157, 3) := by decide +kernel
theorem dX8_step_318 : decode cX8_step 318 = .ok (.aload_n 0, 1) := by decide +kernel
theorem dX8_step_319 : decode cX8_step 319 = .ok (.aload_n 0, 1) := by decide +kernel
theorem dX8_step_320 : decode cX8_step 320 = .ok (.getfield 66, 3) := by decide +kernel
theorem dX8_step_323 : decode cX8_step 323 = .ok (.i2l, 1) := by decide +kernel
theorem dX8_step_324 : decode cX8_step 324 = .ok (.lconst 1, 1) := by decide +kernel
theorem dX8_step_325 : decode cX8_step 325 = .ok (.iload 4, 2) := by decide +kernel
theorem dX8_step_327 : decode cX8_step 327 = .ok (.lshl, 1) := by decide +kernel
theorem dX8_step_328 : decode cX8_step 328 = .ok (.lmul, 1) := by decide +kernel
theorem dX8_step_329 : decode cX8_step 329 = .ok (.iconst 0, 1) := by decide +kernel
theorem dX8_step_330 : decode cX8_step 330 = .ok (.invokevirtual 144, 3) := by decide +kernel
theorem dX8_step_333 : decode cX8_step 333 = .ok (.goto 139, 3) := by decide +kernel
theorem dX8_step_336 : decode cX8_step 336 = .ok (.aload_n 0, 1) := by decide +kernel
theorem dX8_step_337 : decode cX8_step 337 = .ok (.aload_n 0, 1) := by decide +kernel
theorem dX8_step_338 : decode cX8_step 338 = .ok (.getfield 66, 3) := by decide +kernel
theorem dX8_step_341 : decode cX8_step 341 = .ok (.i2l, 1) := by decide +kernel
theorem dX8_step_342 : decode cX8_step 342 = .ok (.lconst 1, 1) := by decide +kernel
theorem dX8_step_343 : decode cX8_step 343 = .ok (.iload 4, 2) := by decide +kernel
theorem dX8_step_345 : decode cX8_step 345 = .ok (.lshl, 1) := by decide +kernel
theorem dX8_step_346 : decode cX8_step 346 = .ok (.invokestatic 148, 3) := by decide +kernel
theorem dX8_step_349 : decode cX8_step 349 = .ok (.iconst 0, 1) := by decide +kernel
theorem dX8_step_350 : decode cX8_step 350 = .ok (.invokevirtual 144, 3) := by decide +kernel
theorem dX8_step_353 : decode cX8_step 353 = .ok (.goto 119, 3) := by decide +kernel
theorem dX8_step_356 : decode cX8_step 356 = .ok (.aload_n 0, 1) := by decide +kernel
theorem dX8_step_357 : decode cX8_step 357 = .ok (.getfield 66, 3) := by decide +kernel
theorem dX8_step_360 : decode cX8_step 360 = .ok (.ifCond .ge 7, 3) := by decide +kernel
theorem dX8_step_363 : decode cX8_step 363 = .ok (.iconst 1, 1) := by decide +kernel
theorem dX8_step_364 : decode cX8_step 364 = .ok (.goto 4, 3) := by decide +kernel
theorem dX8_step_367 : decode cX8_step 367 = .ok (.iconst 0, 1) := by decide +kernel
theorem dX8_step_368 : decode cX8_step 368 = .ok (.istore 5, 2) := by decide +kernel
theorem dX8_step_370 : decode cX8_step 370 = .ok (.goto 102, 3) := by decide +kernel
theorem dX8_step_373 : decode cX8_step 373 = .ok (.aload_n 0, 1) := by decide +kernel
theorem dX8_step_374 : decode cX8_step 374 = .ok (.getfield 66, 3) := by decide +kernel
theorem dX8_step_377 : decode cX8_step 377 = .ok (.ifCond .ne 7, 3) := by decide +kernel
theorem dX8_step_380 : decode cX8_step 380 = .ok (.iconst 1, 1) := by decide +kernel
theorem dX8_step_381 : decode cX8_step 381 = .ok (.goto 4, 3) := by decide +kernel
theorem dX8_step_384 : decode cX8_step 384 = .ok (.iconst 0, 1) := by decide +kernel
theorem dX8_step_385 : decode cX8_step 385 = .ok (.istore 5, 2) := by decide +kernel
theorem dX8_step_387 : decode cX8_step 387 = .ok (.goto 85, 3) := by decide +kernel
theorem dX8_step_390 : decode cX8_step 390 = .ok (.aload_n 0, 1) := by decide +kernel
theorem dX8_step_391 : decode cX8_step 391 = .ok (.getfield 88, 3) := by decide +kernel
theorem dX8_step_394 : decode cX8_step 394 = .ok (.istore 5, 2) := by decide +kernel
theorem dX8_step_396 : decode cX8_step 396 = .ok (.aload_n 0, 1) := by decide +kernel
theorem dX8_step_397 : decode cX8_step 397 = .ok (.iconst 0, 1) := by decide +kernel
theorem dX8_step_398 : decode cX8_step 398 = .ok (.putfield 88, 3) := by decide +kernel
theorem dX8_step_401 : decode cX8_step 401 = .ok (.goto 71, 3) := by decide +kernel
theorem dX8_step_404 : decode cX8_step 404 = .ok (.aload_n 0, 1) := by decide +kernel
theorem dX8_step_405 : decode cX8_step 405 = .ok (.aload_n 0, 1) := by decide +kernel
theorem dX8_step_406 : decode cX8_step 406 = .ok (.getfield 29, 3) := by decide +kernel
theorem dX8_step_409 : decode cX8_step 409 = .ok (.iconst 0, 1) := by decide +kernel
theorem dX8_step_410 : decode cX8_step 410 = .ok (.invokevirtual 151, 3) := by decide +kernel
theorem dX8_step_413 : decode cX8_step 413 = .ok (.checkcast 155, 3) := by decide +kernel
theorem dX8_step_416 : decode cX8_step 416 = .ok (.invokevirtual 157, 3) := by decide +kernel
theorem dX8_step_419 : decode cX8_step 419 = .ok (.putfield 66, 3) := by decide +kernel
theorem dX8_step_422 : decode cX8_step 422 = .ok (.goto 50, 3) := by decide +kernel
theorem dX8_step_425 : decode cX8_step 425 = .ok (.aload_n 0, 1) := by decide +kernel
theorem dX8_step_426 : decode cX8_step 426 = .ok (.getfield 33, 3) := by decide +kernel
theorem dX8_step_429 : decode cX8_step 429 = .ok (.aload_n 0, 1) := by decide +kernel
theorem dX8_step_430 : decode cX8_step 430 = .ok (.getfield 66, 3) := by decide +kernel
theorem dX8_step_433 : decode cX8_step 433 = .ok (.invokestatic 160, 3) := by decide +kernel
theorem dX8_step_436 : decode cX8_step 436 = .ok (.invokevirtual 164, 3) := by decide +kernel
theorem dX8_step_439 : decode cX8_step 439 = .ok (.pop, 1) := by decide +kernel
theorem dX8_step_440 : decode cX8_step 440 = .ok (.goto 32, 3) := by decide +kernel
theorem dX8_step_443 : decode cX8_step 443 = .ok (.aload_n 0, 1) := by decide +kernel
theorem dX8_step_444 : decode cX8_step 444 = .ok (.iload 6, 2) := by decide +kernel
theorem dX8_step_446 : decode cX8_step 446 = .ok (.i2l, 1) := by decide +kernel
theorem dX8_step_447 : decode cX8_step 447 = .ok (.lconst 1, 1) := by decide +kernel
theorem dX8_step_448 : decode cX8_step 448 = .ok (.lsub, 1) := by decide +kernel
theorem dX8_step_449 : decode cX8_step 449 = .ok (.invokestatic 123, 3) := by decide +kernel
theorem dX8_step_452 : decode cX8_step 452 = .ok (.putfield 66, 3) := by decide +kernel
theorem dX8_step_455 : decode cX8_step 455 = .ok (.aload_n 0, 1) := by decide +kernel
theorem dX8_step_456 : decode cX8_step 456 = .ok (.bipush 32, 2) := by decide +kernel
theorem dX8_step_458 : decode cX8_step 458 = .ok (.invokevirtual 119, 3) := by decide +kernel
theorem dX8_step_461 : decode cX8_step 461 = .ok (.aload_n 0, 1) := by decide +kernel
theorem dX8_step_462 : decode cX8_step 462 = .ok (.iload_n 3, 1) := by decide +kernel
theorem dX8_step_463 : decode cX8_step 463 = .ok (.iload 4, 2) := by decide +kernel
theorem dX8_step_465 : decode cX8_step 465 = .ok (.aload_n 0, 1) := by decide +kernel
theorem dX8_step_466 : decode cX8_step 466 = .ok (.getfield 66, 3) := by decide +kernel
theorem dX8_step_469 : decode cX8_step 469 = .ok (.invokevirtual 140, 3) := by decide +kernel
theorem dX8_step_472 : decode cX8_step 472 = .ok (.aload_n 0, 1) := by decide +kernel
theorem dX8_step_473 : decode cX8_step 473 = .ok (.iload_n 2, 1) := by decide +kernel
theorem dX8_step_474 : decode cX8_step 474 = .ok (.ifCond .ne 7, 3) := by decide +kernel
theorem dX8_step_477 : decode cX8_step 477 = .ok (.iconst 0, 1) := by decide +kernel
theorem dX8_step_478 : decode cX8_step 478 = .ok (.goto 34, 3) := by decide +kernel
theorem dX8_step_481 : decode cX8_step 481 = .ok (.iload_n 2, 1) := by decide +kernel
theorem dX8_step_482 : decode cX8_step 482 = .ok (.bipush 7, 2) := by decide +kernel
theorem dX8_step_484 : decode cX8_step 484 = .ok (.if_icmp .ne 8, 3) := by decide +kernel
theorem dX8_step_487 : decode cX8_step 487 = .ok (.bipush 21, 2) := by decide +kernel
theorem dX8_step_489 : decode cX8_step 489 = .ok (.goto 23, 3) := by decide +kernel
theorem dX8_step_492 : decode cX8_step 492 = .ok (.iload_n 2, 1) := by decide +kernel
theorem dX8_step_493 : decode cX8_step 493 = .ok (.bipush 8, 2) := by decide +kernel
theorem dX8_step_495 : decode cX8_step 495 = .ok (.if_icmp .eq 9, 3) := by decide +kernel
theorem dX8_step_498 : decode cX8_step 498 = .ok (.iload_n 2, 1) := by decide +kernel
theorem dX8_step_499 : decode cX8_step 499 = .ok (.bipush 9, 2) := by decide +kernel
theorem dX8_step_501 : decode cX8_step 501 = .ok (.if_icmp .ne 10, 3) := by decide +kernel
theorem dX8_step_504 : decode cX8_step 504 = .ok (.iconst 1, 1) := by decide +kernel
theorem dX8_step_505 : decode cX8_step 505 = .ok (.iload 4, 2) := by decide +kernel
theorem dX8_step_507 : decode cX8_step 507 = .ok (.iadd, 1) := by decide +kernel
theorem dX8_step_508 : decode cX8_step 508 = .ok (.goto 4, 3) := by decide +kernel
theorem dX8_step_511 : decode cX8_step 511 = .ok (.iconst 1, 1) := by decide +kernel
theorem dX8_step_512 : decode cX8_step 512 = .ok (.invokevirtual 119, 3) := by decide +kernel
theorem dX8_step_515 : decode cX8_step 515 = .ok (.aload_n 0, 1) := by decide +kernel
theorem dX8_step_516 : decode cX8_step 516 = .ok (.getfield 23, 3) := by decide +kernel
theorem dX8_step_519 : decode cX8_step 519 = .ok (.aload_n 0, 1) := by decide +kernel
theorem dX8_step_520 : decode cX8_step 520 = .ok (.getfield 69, 3) := by decide +kernel
theorem dX8_step_523 : decode cX8_step 523 = .ok (.aaload, 1) := by decide +kernel
theorem dX8_step_524 : decode cX8_step 524 = .ok (.aload_n 0, 1) := by decide +kernel
theorem dX8_step_525 : decode cX8_step 525 = .ok (.getfield 72, 3) := by decide +kernel
theorem dX8_step_528 : decode cX8_step 528 = .ok (.dup2, 1) := by decide +kernel
theorem dX8_step_529 : decode cX8_step 529 = .ok (.iaload, 1) := by decide +kernel
theorem dX8_step_530 : decode cX8_step 530 = .ok (.iconst 1, 1) := by decide +kernel
theorem dX8_step_531 : decode cX8_step 531 = .ok (.iadd, 1) := by decide +kernel
theorem dX8_step_532 : decode cX8_step 532 = .ok (.iastore, 1) := by decide +kernel
theorem dX8_step_533 : decode cX8_step 533 = .ok (.aload_n 0, 1) := by decide +kernel
theorem dX8_step_534 : decode cX8_step 534 = .ok (.dup, 1) := by decide +kernel
theorem dX8_step_535 : decode cX8_step 535 = .ok (.getfield 75, 3) := by decide +kernel
theorem dX8_step_538 : decode cX8_step 538 = .ok (.iconst 1, 1) := by decide +kernel
theorem dX8_step_539 : decode cX8_step 539 = .ok (.iadd, 1) := by decide +kernel
theorem dX8_step_540 : decode cX8_step 540 = .ok (.putfield 75, 3) := by decide +kernel
theorem dX8_step_543 : decode cX8_step 543 = .ok (.aload_n 0, 1) := by decide +kernel
theorem dX8_step_544 : decode cX8_step 544 = .ok (.iload 5, 2) := by decide +kernel
theorem dX8_step_546 : decode cX8_step 546 = .ok (.ifCond .eq 7, 3) := by decide +kernel
theorem dX8_step_549 : decode cX8_step 549 = .ok (.iload_n 3, 1) := by decide +kernel
theorem dX8_step_550 : decode cX8_step 550 = .ok (.goto 10, 3) := by decide +kernel
theorem dX8_step_553 : decode cX8_step 553 = .ok (.iload_n 1, 1) := by decide +kernel
theorem dX8_step_554 : decode cX8_step 554 = .ok (.bipush 12, 2) := by decide +kernel
theorem dX8_step_556 : decode cX8_step 556 = .ok (.ishr, 1) := by decide +kernel
theorem dX8_step_557 : decode cX8_step 557 = .ok (.bipush 7, 2) := by decide +kernel
theorem dX8_step_559 : decode cX8_step 559 = .ok (.iand, 1) := by decide +kernel
theorem dX8_step_560 : decode cX8_step 560 = .ok (.putfield 69, 3) := by decide +kernel
theorem dX8_step_563 : decode cX8_step 563 = .ok (.aload_n 0, 1) := by decide +kernel
theorem dX8_step_564 : decode cX8_step 564 = .ok (.iload 5, 2) := by decide +kernel
theorem dX8_step_566 : decode cX8_step 566 = .ok (.ifCond .eq 8, 3) := by decide +kernel
theorem dX8_step_569 : decode cX8_step 569 = .ok (.iload 4, 2) := by decide +kernel
theorem dX8_step_571 : decode cX8_step 571 = .ok (.goto 10, 3) := by decide +kernel
theorem dX8_step_574 : decode cX8_step 574 = .ok (.iload_n 1, 1) := by decide +kernel
theorem dX8_step_575 : decode cX8_step 575 = .ok (.bipush 15, 2) := by decide +kernel
theorem dX8_step_577 : decode cX8_step 577 = .ok (.ishr, 1) := by decide +kernel
theorem dX8_step_578 : decode cX8_step 578 = .ok (.bipush 31, 2) := by decide +kernel
theorem dX8_step_580 : decode cX8_step 580 = .ok (.iand, 1) := by decide +kernel
theorem dX8_step_581 : decode cX8_step 581 = .ok (.putfield 72, 3) := by decide +kernel
theorem dX8_step_584 : decode cX8_step 584 = .ok (.iconst 1, 1) := by decide +kernel
theorem dX8_step_585 : decode cX8_step 585 = .ok (.ireturn, 1) := by decide +kernel
theorem dX8_run_0 : decode cX8_run 0 = .ok (.iconst 0, 1) := by decide +kernel
theorem dX8_run_1 : decode cX8_run 1 = .ok (.istore_n 2, 1) := by decide +kernel
theorem dX8_run_2 : decode cX8_run 2 = .ok (.iload_n 2, 1) := by decide +kernel
theorem dX8_run_3 : decode cX8_run 3 = .ok (.iload_n 1, 1) := by decide +kernel
theorem dX8_run_4 : decode cX8_run 4 = .ok (.if_icmp .ge 23, 3) := by decide +kernel
theorem dX8_run_7 : decode cX8_run 7 = .ok (.aload_n 0, 1) := by decide +kernel
theorem dX8_run_8 : decode cX8_run 8 = .ok (.getfield 36, 3) := by decide +kernel
theorem dX8_run_11 : decode cX8_run 11 = .ok (.ifCond .ne 16, 3) := by decide +kernel
theorem dX8_run_14 : decode cX8_run 14 = .ok (.aload_n 0, 1) := by decide +kernel
theorem dX8_run_15 : decode cX8_run 15 = .ok (.invokevirtual 168, 3) := by decide +kernel
theorem dX8_run_18 : decode cX8_run 18 = .ok (.ifCond .eq 9, 3) := by decide +kernel
theorem dX8_run_21 : decode cX8_run 21 = .ok (.iinc 2 1, 3) := by decide +kernel
theorem dX8_run_24 : decode cX8_run 24 = .ok (.goto (-22), 3) := by decide +kernel
theorem dX8_run_27 : decode cX8_run 27 = .ok (.iload_n 2, 1) := by decide +kernel
theorem dX8_run_28 : decode cX8_run 28 = .ok (.ireturn, 1) := by decide +kernel
