theorem d_SQ_init_0 : decode b_SQ_init 0 = .ok (.aload_n 0, 1) := by decide +kernel
theorem d_SQ_init_1 : decode b_SQ_init 1 = .ok (.invokespecial 3, 3) := by decide +kernel
theorem d_SQ_init_4 : decode b_SQ_init 4 = .ok (.aload_n 0, 1) := by decide +kernel
theorem d_SQ_init_5 : decode b_SQ_init 5 = .ok (.sipush 2000, 3) := by decide +kernel
theorem d_SQ_init_8 : decode b_SQ_init 8 = .ok (.newarray .int, 2) := by decide +kernel
theorem d_SQ_init_10 : decode b_SQ_init 10 = .ok (.putfield 9, 3) := by decide +kernel
theorem d_SQ_init_13 : decode b_SQ_init 13 = .ok (.aload_n 0, 1) := by decide +kernel
theorem d_SQ_init_14 : decode b_SQ_init 14 = .ok (.sipush 2000, 3) := by decide +kernel
theorem d_SQ_init_17 : decode b_SQ_init 17 = .ok (.newarray .int, 2) := by decide +kernel
theorem d_SQ_init_19 : decode b_SQ_init 19 = .ok (.putfield 15, 3) := by decide +kernel
theorem d_SQ_init_22 : decode b_SQ_init 22 = .ok (.aload_n 0, 1) := by decide +kernel
theorem d_SQ_init_23 : decode b_SQ_init 23 = .ok (.iconst 0, 1) := by decide +kernel
theorem d_SQ_init_24 : decode b_SQ_init 24 = .ok (.putfield 18, 3) := by decide +kernel
theorem d_SQ_init_27 : decode b_SQ_init 27 = .ok (.aload_n 0, 1) := by decide +kernel
theorem d_SQ_init_28 : decode b_SQ_init 28 = .ok (.iconst 0, 1) := by decide +kernel
theorem d_SQ_init_29 : decode b_SQ_init 29 = .ok (.putfield 22, 3) := by decide +kernel
theorem d_SQ_init_32 : decode b_SQ_init 32 = .ok (.aload_n 0, 1) := by decide +kernel
theorem d_SQ_init_33 : decode b_SQ_init 33 = .ok (.iconst 0, 1) := by decide +kernel
theorem d_SQ_init_34 : decode b_SQ_init 34 = .ok (.putfield 25, 3) := by decide +kernel
theorem d_SQ_init_37 : decode b_SQ_init 37 = .ok (.aload_n 0, 1) := by decide +kernel
theorem d_SQ_init_38 : decode b_SQ_init 38 = .ok (.iconst 0, 1) := by decide +kernel
theorem d_SQ_init_39 : decode b_SQ_init 39 = .ok (.putfield 28, 3) := by decide +kernel
theorem d_SQ_init_42 : decode b_SQ_init 42 = .ok (.aload_n 0, 1) := by decide +kernel
theorem d_SQ_init_43 : decode b_SQ_init 43 = .ok (.aload_n 1, 1) := by decide +kernel
theorem d_SQ_init_44 : decode b_SQ_init 44 = .ok (.putfield 31, 3) := by decide +kernel
theorem d_SQ_init_47 : decode b_SQ_init 47 = .ok (.return_, 1) := by decide +kernel
theorem d_SQ_startAt_0 : decode b_SQ_startAt 0 = .ok (.aload_n 0, 1) := by decide +kernel
theorem d_SQ_startAt_1 : decode b_SQ_startAt 1 = .ok (.iconst 0, 1) := by decide +kernel
theorem d_SQ_startAt_2 : decode b_SQ_startAt 2 = .ok (.putfield 18, 3) := by decide +kernel
theorem d_SQ_startAt_5 : decode b_SQ_startAt 5 = .ok (.aload_n 0, 1) := by decide +kernel
theorem d_SQ_startAt_6 : decode b_SQ_startAt 6 = .ok (.iload_n 1, 1) := by decide +kernel
theorem d_SQ_startAt_7 : decode b_SQ_startAt 7 = .ok (.invokestatic 35, 3) := by decide +kernel
theorem d_SQ_startAt_10 : decode b_SQ_startAt 10 = .ok (.putfield 22, 3) := by decide +kernel
theorem d_SQ_startAt_13 : decode b_SQ_startAt 13 = .ok (.return_, 1) := by decide +kernel
theorem d_SQ_append_0 : decode b_SQ_append 0 = .ok (.aload_n 0, 1) := by decide +kernel
theorem d_SQ_append_1 : decode b_SQ_append 1 = .ok (.getfield 18, 3) := by decide +kernel
theorem d_SQ_append_4 : decode b_SQ_append 4 = .ok (.sipush 2000, 3) := by decide +kernel
theorem d_SQ_append_7 : decode b_SQ_append 7 = .ok (.if_icmp .lt 4, 3) := by decide +kernel
theorem d_SQ_append_10 : decode b_SQ_append 10 = .ok (.return_, 1) := by decide +kernel
theorem d_SQ_append_11 : decode b_SQ_append 11 = .ok (.aload_n 0, 1) := by decide +kernel
theorem d_SQ_append_12 : decode b_SQ_append 12 = .ok (.getfield 9, 3) := by decide +kernel
theorem d_SQ_append_15 : decode b_SQ_append 15 = .ok (.aload_n 0, 1) := by decide +kernel
theorem d_SQ_append_16 : decode b_SQ_append 16 = .ok (.getfield 18, 3) := by decide +kernel
theorem d_SQ_append_19 : decode b_SQ_append 19 = .ok (.iload_n 1, 1) := by decide +kernel
theorem d_SQ_append_20 : decode b_SQ_append 20 = .ok (.iastore, 1) := by decide +kernel
theorem d_SQ_append_21 : decode b_SQ_append 21 = .ok (.aload_n 0, 1) := by decide +kernel
theorem d_SQ_append_22 : decode b_SQ_append 22 = .ok (.getfield 15, 3) := by decide +kernel
theorem d_SQ_append_25 : decode b_SQ_append 25 = .ok (.aload_n 0, 1) := by decide +kernel
theorem d_SQ_append_26 : decode b_SQ_append 26 = .ok (.getfield 18, 3) := by decide +kernel
theorem d_SQ_append_29 : decode b_SQ_append 29 = .ok (.aload_n 0, 1) := by decide +kernel
theorem d_SQ_append_30 : decode b_SQ_append 30 = .ok (.getfield 31, 3) := by decide +kernel
theorem d_SQ_append_33 : decode b_SQ_append 33 = .ok (.getfield 39, 3) := by decide +kernel
theorem d_SQ_append_36 : decode b_SQ_append 36 = .ok (.iload_n 1, 1) := by decide +kernel
theorem d_SQ_append_37 : decode b_SQ_append 37 = .ok (.iaload, 1) := by decide +kernel
theorem d_SQ_append_38 : decode b_SQ_append 38 = .ok (.iastore, 1) := by decide +kernel
theorem d_SQ_append_39 : decode b_SQ_append 39 = .ok (.aload_n 0, 1) := by decide +kernel
theorem d_SQ_append_40 : decode b_SQ_append 40 = .ok (.dup, 1) := by decide +kernel
theorem d_SQ_append_41 : decode b_SQ_append 41 = .ok (.getfield 18, 3) := by decide +kernel
theorem d_SQ_append_44 : decode b_SQ_append 44 = .ok (.iconst 1, 1) := by decide +kernel
theorem d_SQ_append_45 : decode b_SQ_append 45 = .ok (.iadd, 1) := by decide +kernel
theorem d_SQ_append_46 : decode b_SQ_append 46 = .ok (.putfield 18, 3) := by decide +kernel
theorem d_SQ_append_49 : decode b_SQ_append 49 = .ok (.return_, 1) := by decide +kernel
theorem d_SQ_writeKinds_0 : decode b_SQ_writeKinds 0 = .ok (.iconst 0, 1) := by decide +kernel
theorem d_SQ_writeKinds_1 : decode b_SQ_writeKinds 1 = .ok (.istore_n 1, 1) := by decide +kernel
theorem d_SQ_writeKinds_2 : decode b_SQ_writeKinds 2 = .ok (.iload_n 1, 1) := by decide +kernel
theorem d_SQ_writeKinds_3 : decode b_SQ_writeKinds 3 = .ok (.aload_n 0, 1) := by decide +kernel
theorem d_SQ_writeKinds_4 : decode b_SQ_writeKinds 4 = .ok (.getfield 18, 3) := by decide +kernel
theorem d_SQ_writeKinds_7 : decode b_SQ_writeKinds 7 = .ok (.if_icmp .ge 29, 3) := by decide +kernel
theorem d_SQ_writeKinds_10 : decode b_SQ_writeKinds 10 = .ok (.aload_n 0, 1) := by decide +kernel
theorem d_SQ_writeKinds_11 : decode b_SQ_writeKinds 11 = .ok (.getfield 31, 3) := by decide +kernel
theorem d_SQ_writeKinds_14 : decode b_SQ_writeKinds 14 = .ok (.getfield 39, 3) := by decide +kernel
theorem d_SQ_writeKinds_17 : decode b_SQ_writeKinds 17 = .ok (.aload_n 0, 1) := by decide +kernel
theorem d_SQ_writeKinds_18 : decode b_SQ_writeKinds 18 = .ok (.getfield 9, 3) := by decide +kernel
theorem d_SQ_writeKinds_21 : decode b_SQ_writeKinds 21 = .ok (.iload_n 1, 1) := by decide +kernel
theorem d_SQ_writeKinds_22 : decode b_SQ_writeKinds 22 = .ok (.iaload, 1) := by decide +kernel
theorem d_SQ_writeKinds_23 : decode b_SQ_writeKinds 23 = .ok (.aload_n 0, 1) := by decide +kernel
theorem d_SQ_writeKinds_24 : decode b_SQ_writeKinds 24 = .ok (.getfield 15, 3) := by decide +kernel
theorem d_SQ_writeKinds_27 : decode b_SQ_writeKinds 27 = .ok (.iload_n 1, 1) := by decide +kernel
theorem d_SQ_writeKinds_28 : decode b_SQ_writeKinds 28 = .ok (.iaload, 1) := by decide +kernel
theorem d_SQ_writeKinds_29 : decode b_SQ_writeKinds 29 = .ok (.iastore, 1) := by decide +kernel
theorem d_SQ_writeKinds_30 : decode b_SQ_writeKinds 30 = .ok (.iinc 1 1, 3) := by decide +kernel
theorem d_SQ_writeKinds_33 : decode b_SQ_writeKinds 33 = .ok (.goto (-31), 3) := by decide +kernel
theorem d_SQ_writeKinds_36 : decode b_SQ_writeKinds 36 = .ok (.return_, 1) := by decide +kernel
theorem d_SQ_isNow_0 : decode b_SQ_isNow 0 = .ok (.iload_n 1, 1) := by decide +kernel
theorem d_SQ_isNow_1 : decode b_SQ_isNow 1 = .ok (.ifCond .lt 25, 3) := by decide +kernel
theorem d_SQ_isNow_4 : decode b_SQ_isNow 4 = .ok (.iload_n 1, 1) := by decide +kernel
theorem d_SQ_isNow_5 : decode b_SQ_isNow 5 = .ok (.aload_n 0, 1) := by decide +kernel
theorem d_SQ_isNow_6 : decode b_SQ_isNow 6 = .ok (.getfield 18, 3) := by decide +kernel
theorem d_SQ_isNow_9 : decode b_SQ_isNow 9 = .ok (.if_icmp .ge 17, 3) := by decide +kernel
theorem d_SQ_isNow_12 : decode b_SQ_isNow 12 = .ok (.aload_n 0, 1) := by decide +kernel
theorem d_SQ_isNow_13 : decode b_SQ_isNow 13 = .ok (.getfield 15, 3) := by decide +kernel
theorem d_SQ_isNow_16 : decode b_SQ_isNow 16 = .ok (.iload_n 1, 1) := by decide +kernel
theorem d_SQ_isNow_17 : decode b_SQ_isNow 17 = .ok (.iaload, 1) := by decide +kernel
theorem d_SQ_isNow_18 : decode b_SQ_isNow 18 = .ok (.iload_n 2, 1) := by decide +kernel
theorem d_SQ_isNow_19 : decode b_SQ_isNow 19 = .ok (.if_icmp .ne 7, 3) := by decide +kernel
theorem d_SQ_isNow_22 : decode b_SQ_isNow 22 = .ok (.iconst 1, 1) := by decide +kernel
theorem d_SQ_isNow_23 : decode b_SQ_isNow 23 = .ok (.goto 4, 3) := by decide +kernel
theorem d_SQ_isNow_26 : decode b_SQ_isNow 26 = .ok (.iconst 0, 1) := by decide +kernel
theorem d_SQ_isNow_27 : decode b_SQ_isNow 27 = .ok (.ireturn, 1) := by decide +kernel
theorem d_SQ_wasMark_0 : decode b_SQ_wasMark 0 = .ok (.iload_n 1, 1) := by decide +kernel
theorem d_SQ_wasMark_1 : decode b_SQ_wasMark 1 = .ok (.ifCond .lt 34, 3) := by decide +kernel
theorem d_SQ_wasMark_4 : decode b_SQ_wasMark 4 = .ok (.iload_n 1, 1) := by decide +kernel
theorem d_SQ_wasMark_5 : decode b_SQ_wasMark 5 = .ok (.aload_n 0, 1) := by decide +kernel
theorem d_SQ_wasMark_6 : decode b_SQ_wasMark 6 = .ok (.getfield 18, 3) := by decide +kernel
theorem d_SQ_wasMark_9 : decode b_SQ_wasMark 9 = .ok (.if_icmp .ge 26, 3) := by decide +kernel
theorem d_SQ_wasMark_12 : decode b_SQ_wasMark 12 = .ok (.aload_n 0, 1) := by decide +kernel
theorem d_SQ_wasMark_13 : decode b_SQ_wasMark 13 = .ok (.getfield 31, 3) := by decide +kernel
theorem d_SQ_wasMark_16 : decode b_SQ_wasMark 16 = .ok (.getfield 39, 3) := by decide +kernel
theorem d_SQ_wasMark_19 : decode b_SQ_wasMark 19 = .ok (.aload_n 0, 1) := by decide +kernel
theorem d_SQ_wasMark_20 : decode b_SQ_wasMark 20 = .ok (.getfield 9, 3) := by decide +kernel
theorem d_SQ_wasMark_23 : decode b_SQ_wasMark 23 = .ok (.iload_n 1, 1) := by decide +kernel
theorem d_SQ_wasMark_24 : decode b_SQ_wasMark 24 = .ok (.iaload, 1) := by decide +kernel
theorem d_SQ_wasMark_25 : decode b_SQ_wasMark 25 = .ok (.iaload, 1) := by decide +kernel
theorem d_SQ_wasMark_26 : decode b_SQ_wasMark 26 = .ok (.bipush 8, 2) := by decide +kernel
theorem d_SQ_wasMark_28 : decode b_SQ_wasMark 28 = .ok (.if_icmp .ne 7, 3) := by decide +kernel
theorem d_SQ_wasMark_31 : decode b_SQ_wasMark 31 = .ok (.iconst 1, 1) := by decide +kernel
theorem d_SQ_wasMark_32 : decode b_SQ_wasMark 32 = .ok (.goto 4, 3) := by decide +kernel
theorem d_SQ_wasMark_35 : decode b_SQ_wasMark 35 = .ok (.iconst 0, 1) := by decide +kernel
theorem d_SQ_wasMark_36 : decode b_SQ_wasMark 36 = .ok (.ireturn, 1) := by decide +kernel
theorem d_SQ_sideAt_0 : decode b_SQ_sideAt 0 = .ok (.iload_n 1, 1) := by decide +kernel
theorem d_SQ_sideAt_1 : decode b_SQ_sideAt 1 = .ok (.ifCond .ge 8, 3) := by decide +kernel
theorem d_SQ_sideAt_4 : decode b_SQ_sideAt 4 = .ok (.aload_n 0, 1) := by decide +kernel
theorem d_SQ_sideAt_5 : decode b_SQ_sideAt 5 = .ok (.getfield 25, 3) := by decide +kernel
theorem d_SQ_sideAt_8 : decode b_SQ_sideAt 8 = .ok (.ireturn, 1) := by decide +kernel
theorem d_SQ_sideAt_9 : decode b_SQ_sideAt 9 = .ok (.iload_n 1, 1) := by decide +kernel
theorem d_SQ_sideAt_10 : decode b_SQ_sideAt 10 = .ok (.aload_n 0, 1) := by decide +kernel
theorem d_SQ_sideAt_11 : decode b_SQ_sideAt 11 = .ok (.getfield 18, 3) := by decide +kernel
theorem d_SQ_sideAt_14 : decode b_SQ_sideAt 14 = .ok (.if_icmp .lt 8, 3) := by decide +kernel
theorem d_SQ_sideAt_17 : decode b_SQ_sideAt 17 = .ok (.aload_n 0, 1) := by decide +kernel
theorem d_SQ_sideAt_18 : decode b_SQ_sideAt 18 = .ok (.getfield 28, 3) := by decide +kernel
theorem d_SQ_sideAt_21 : decode b_SQ_sideAt 21 = .ok (.ireturn, 1) := by decide +kernel
theorem d_SQ_sideAt_22 : decode b_SQ_sideAt 22 = .ok (.aload_n 0, 1) := by decide +kernel
theorem d_SQ_sideAt_23 : decode b_SQ_sideAt 23 = .ok (.getfield 15, 3) := by decide +kernel
theorem d_SQ_sideAt_26 : decode b_SQ_sideAt 26 = .ok (.iload_n 1, 1) := by decide +kernel
theorem d_SQ_sideAt_27 : decode b_SQ_sideAt 27 = .ok (.iaload, 1) := by decide +kernel
theorem d_SQ_sideAt_28 : decode b_SQ_sideAt 28 = .ok (.tableswitch 48 0 6 #[44, 46, 48, 46, 48, 48, 46], 44) := by decide +kernel
theorem d_SQ_sideAt_72 : decode b_SQ_sideAt 72 = .ok (.iconst 0, 1) := by decide +kernel
theorem d_SQ_sideAt_73 : decode b_SQ_sideAt 73 = .ok (.ireturn, 1) := by decide +kernel
theorem d_SQ_sideAt_74 : decode b_SQ_sideAt 74 = .ok (.iconst 1, 1) := by decide +kernel
theorem d_SQ_sideAt_75 : decode b_SQ_sideAt 75 = .ok (.ireturn, 1) := by decide +kernel
theorem d_SQ_sideAt_76 : decode b_SQ_sideAt 76 = .ok (.iconst (-1), 1) := by decide +kernel
theorem d_SQ_sideAt_77 : decode b_SQ_sideAt 77 = .ok (.ireturn, 1) := by decide +kernel
theorem d_SQ_settleNeutrals_0 : decode b_SQ_settleNeutrals 0 = .ok (.iconst 0, 1) := by decide +kernel
theorem d_SQ_settleNeutrals_1 : decode b_SQ_settleNeutrals 1 = .ok (.istore_n 1, 1) := by decide +kernel
theorem d_SQ_settleNeutrals_2 : decode b_SQ_settleNeutrals 2 = .ok (.iconst 0, 1) := by decide +kernel
theorem d_SQ_settleNeutrals_3 : decode b_SQ_settleNeutrals 3 = .ok (.istore_n 2, 1) := by decide +kernel
theorem d_SQ_settleNeutrals_4 : decode b_SQ_settleNeutrals 4 = .ok (.iload_n 2, 1) := by decide +kernel
theorem d_SQ_settleNeutrals_5 : decode b_SQ_settleNeutrals 5 = .ok (.aload_n 0, 1) := by decide +kernel
theorem d_SQ_settleNeutrals_6 : decode b_SQ_settleNeutrals 6 = .ok (.getfield 18, 3) := by decide +kernel
theorem d_SQ_settleNeutrals_9 : decode b_SQ_settleNeutrals 9 = .ok (.if_icmp .gt 69, 3) := by decide +kernel
theorem d_SQ_settleNeutrals_12 : decode b_SQ_settleNeutrals 12 = .ok (.aload_n 0, 1) := by decide +kernel
theorem d_SQ_settleNeutrals_13 : decode b_SQ_settleNeutrals 13 = .ok (.iload_n 2, 1) := by decide +kernel
theorem d_SQ_settleNeutrals_14 : decode b_SQ_settleNeutrals 14 = .ok (.invokevirtual 44, 3) := by decide +kernel
theorem d_SQ_settleNeutrals_17 : decode b_SQ_settleNeutrals 17 = .ok (.istore_n 3, 1) := by decide +kernel
theorem d_SQ_settleNeutrals_18 : decode b_SQ_settleNeutrals 18 = .ok (.iload_n 3, 1) := by decide +kernel
theorem d_SQ_settleNeutrals_19 : decode b_SQ_settleNeutrals 19 = .ok (.iconst (-1), 1) := by decide +kernel
theorem d_SQ_settleNeutrals_20 : decode b_SQ_settleNeutrals 20 = .ok (.if_icmp .eq 52, 3) := by decide +kernel
theorem d_SQ_settleNeutrals_23 : decode b_SQ_settleNeutrals 23 = .ok (.aload_n 0, 1) := by decide +kernel
theorem d_SQ_settleNeutrals_24 : decode b_SQ_settleNeutrals 24 = .ok (.iload_n 1, 1) := by decide +kernel
theorem d_SQ_settleNeutrals_25 : decode b_SQ_settleNeutrals 25 = .ok (.iconst 1, 1) := by decide +kernel
theorem d_SQ_settleNeutrals_26 : decode b_SQ_settleNeutrals 26 = .ok (.isub, 1) := by decide +kernel
theorem d_SQ_settleNeutrals_27 : decode b_SQ_settleNeutrals 27 = .ok (.invokevirtual 44, 3) := by decide +kernel
theorem d_SQ_settleNeutrals_30 : decode b_SQ_settleNeutrals 30 = .ok (.iload_n 3, 1) := by decide +kernel
theorem d_SQ_settleNeutrals_31 : decode b_SQ_settleNeutrals 31 = .ok (.if_icmp .ne 7, 3) := by decide +kernel
theorem d_SQ_settleNeutrals_34 : decode b_SQ_settleNeutrals 34 = .ok (.iload_n 3, 1) := by decide +kernel
theorem d_SQ_settleNeutrals_35 : decode b_SQ_settleNeutrals 35 = .ok (.goto 7, 3) := by decide +kernel
theorem d_SQ_settleNeutrals_38 : decode b_SQ_settleNeutrals 38 = .ok (.aload_n 0, 1) := by decide +kernel
theorem d_SQ_settleNeutrals_39 : decode b_SQ_settleNeutrals 39 = .ok (.getfield 22, 3) := by decide +kernel
theorem d_SQ_settleNeutrals_42 : decode b_SQ_settleNeutrals 42 = .ok (.istore 4, 2) := by decide +kernel
theorem d_SQ_settleNeutrals_44 : decode b_SQ_settleNeutrals 44 = .ok (.iload_n 1, 1) := by decide +kernel
theorem d_SQ_settleNeutrals_45 : decode b_SQ_settleNeutrals 45 = .ok (.istore 5, 2) := by decide +kernel
theorem d_SQ_settleNeutrals_47 : decode b_SQ_settleNeutrals 47 = .ok (.iload 5, 2) := by decide +kernel
theorem d_SQ_settleNeutrals_49 : decode b_SQ_settleNeutrals 49 = .ok (.iload_n 2, 1) := by decide +kernel
theorem d_SQ_settleNeutrals_50 : decode b_SQ_settleNeutrals 50 = .ok (.if_icmp .ge 18, 3) := by decide +kernel
theorem d_SQ_settleNeutrals_53 : decode b_SQ_settleNeutrals 53 = .ok (.aload_n 0, 1) := by decide +kernel
theorem d_SQ_settleNeutrals_54 : decode b_SQ_settleNeutrals 54 = .ok (.getfield 15, 3) := by decide +kernel
theorem d_SQ_settleNeutrals_57 : decode b_SQ_settleNeutrals 57 = .ok (.iload 5, 2) := by decide +kernel
theorem d_SQ_settleNeutrals_59 : decode b_SQ_settleNeutrals 59 = .ok (.iload 4, 2) := by decide +kernel
theorem d_SQ_settleNeutrals_61 : decode b_SQ_settleNeutrals 61 = .ok (.iastore, 1) := by decide +kernel
theorem d_SQ_settleNeutrals_62 : decode b_SQ_settleNeutrals 62 = .ok (.iinc 5 1, 3) := by decide +kernel
theorem d_SQ_settleNeutrals_65 : decode b_SQ_settleNeutrals 65 = .ok (.goto (-18), 3) := by decide +kernel
theorem d_SQ_settleNeutrals_68 : decode b_SQ_settleNeutrals 68 = .ok (.iload_n 2, 1) := by decide +kernel
theorem d_SQ_settleNeutrals_69 : decode b_SQ_settleNeutrals 69 = .ok (.iconst 1, 1) := by decide +kernel
theorem d_SQ_settleNeutrals_70 : decode b_SQ_settleNeutrals 70 = .ok (.iadd, 1) := by decide +kernel
theorem d_SQ_settleNeutrals_71 : decode b_SQ_settleNeutrals 71 = .ok (.istore_n 1, 1) := by decide +kernel
theorem d_SQ_settleNeutrals_72 : decode b_SQ_settleNeutrals 72 = .ok (.iinc 2 1, 3) := by decide +kernel
theorem d_SQ_settleNeutrals_75 : decode b_SQ_settleNeutrals 75 = .ok (.goto (-71), 3) := by decide +kernel
theorem d_SQ_settleNeutrals_78 : decode b_SQ_settleNeutrals 78 = .ok (.return_, 1) := by decide +kernel
theorem d_WK_init_0 : decode b_WK_init 0 = .ok (.aload_n 0, 1) := by decide +kernel
theorem d_WK_init_1 : decode b_WK_init 1 = .ok (.invokespecial 3, 3) := by decide +kernel
theorem d_WK_init_4 : decode b_WK_init 4 = .ok (.aload_n 0, 1) := by decide +kernel
theorem d_WK_init_5 : decode b_WK_init 5 = .ok (.aload_n 1, 1) := by decide +kernel
theorem d_WK_init_6 : decode b_WK_init 6 = .ok (.putfield 9, 3) := by decide +kernel
theorem d_WK_init_9 : decode b_WK_init 9 = .ok (.aload_n 0, 1) := by decide +kernel
theorem d_WK_init_10 : decode b_WK_init 10 = .ok (.aload_n 2, 1) := by decide +kernel
theorem d_WK_init_11 : decode b_WK_init 11 = .ok (.putfield 15, 3) := by decide +kernel
theorem d_WK_init_14 : decode b_WK_init 14 = .ok (.return_, 1) := by decide +kernel
theorem d_WK_apply_0 : decode b_WK_apply 0 = .ok (.aload_n 0, 1) := by decide +kernel
theorem d_WK_apply_1 : decode b_WK_apply 1 = .ok (.invokevirtual 19, 3) := by decide +kernel
theorem d_WK_apply_4 : decode b_WK_apply 4 = .ok (.aload_n 0, 1) := by decide +kernel
theorem d_WK_apply_5 : decode b_WK_apply 5 = .ok (.invokevirtual 22, 3) := by decide +kernel
theorem d_WK_apply_8 : decode b_WK_apply 8 = .ok (.aload_n 0, 1) := by decide +kernel
theorem d_WK_apply_9 : decode b_WK_apply 9 = .ok (.invokevirtual 25, 3) := by decide +kernel
theorem d_WK_apply_12 : decode b_WK_apply 12 = .ok (.aload_n 0, 1) := by decide +kernel
theorem d_WK_apply_13 : decode b_WK_apply 13 = .ok (.invokevirtual 28, 3) := by decide +kernel
theorem d_WK_apply_16 : decode b_WK_apply 16 = .ok (.aload_n 0, 1) := by decide +kernel
theorem d_WK_apply_17 : decode b_WK_apply 17 = .ok (.invokevirtual 31, 3) := by decide +kernel
theorem d_WK_apply_20 : decode b_WK_apply 20 = .ok (.aload_n 0, 1) := by decide +kernel
theorem d_WK_apply_21 : decode b_WK_apply 21 = .ok (.invokevirtual 34, 3) := by decide +kernel
theorem d_WK_apply_24 : decode b_WK_apply 24 = .ok (.aload_n 0, 1) := by decide +kernel
theorem d_WK_apply_25 : decode b_WK_apply 25 = .ok (.invokevirtual 37, 3) := by decide +kernel
theorem d_WK_apply_28 : decode b_WK_apply 28 = .ok (.return_, 1) := by decide +kernel
theorem d_WK_settleMarks_0 : decode b_WK_settleMarks 0 = .ok (.iconst 0, 1) := by decide +kernel
theorem d_WK_settleMarks_1 : decode b_WK_settleMarks 1 = .ok (.istore_n 1, 1) := by decide +kernel
theorem d_WK_settleMarks_2 : decode b_WK_settleMarks 2 = .ok (.iload_n 1, 1) := by decide +kernel
theorem d_WK_settleMarks_3 : decode b_WK_settleMarks 3 = .ok (.aload_n 0, 1) := by decide +kernel
theorem d_WK_settleMarks_4 : decode b_WK_settleMarks 4 = .ok (.getfield 15, 3) := by decide +kernel
theorem d_WK_settleMarks_7 : decode b_WK_settleMarks 7 = .ok (.getfield 40, 3) := by decide +kernel
theorem d_WK_settleMarks_10 : decode b_WK_settleMarks 10 = .ok (.if_icmp .ge 37, 3) := by decide +kernel
theorem d_WK_settleMarks_13 : decode b_WK_settleMarks 13 = .ok (.aload_n 0, 1) := by decide +kernel
theorem d_WK_settleMarks_14 : decode b_WK_settleMarks 14 = .ok (.getfield 15, 3) := by decide +kernel
theorem d_WK_settleMarks_17 : decode b_WK_settleMarks 17 = .ok (.getfield 46, 3) := by decide +kernel
theorem d_WK_settleMarks_20 : decode b_WK_settleMarks 20 = .ok (.iload_n 1, 1) := by decide +kernel
theorem d_WK_settleMarks_21 : decode b_WK_settleMarks 21 = .ok (.iaload, 1) := by decide +kernel
theorem d_WK_settleMarks_22 : decode b_WK_settleMarks 22 = .ok (.bipush 8, 2) := by decide +kernel
theorem d_WK_settleMarks_24 : decode b_WK_settleMarks 24 = .ok (.if_icmp .ne 17, 3) := by decide +kernel
theorem d_WK_settleMarks_27 : decode b_WK_settleMarks 27 = .ok (.aload_n 0, 1) := by decide +kernel
theorem d_WK_settleMarks_28 : decode b_WK_settleMarks 28 = .ok (.getfield 15, 3) := by decide +kernel
theorem d_WK_settleMarks_31 : decode b_WK_settleMarks 31 = .ok (.getfield 46, 3) := by decide +kernel
theorem d_WK_settleMarks_34 : decode b_WK_settleMarks 34 = .ok (.iload_n 1, 1) := by decide +kernel
theorem d_WK_settleMarks_35 : decode b_WK_settleMarks 35 = .ok (.aload_n 0, 1) := by decide +kernel
theorem d_WK_settleMarks_36 : decode b_WK_settleMarks 36 = .ok (.iload_n 1, 1) := by decide +kernel
theorem d_WK_settleMarks_37 : decode b_WK_settleMarks 37 = .ok (.invokevirtual 50, 3) := by decide +kernel
theorem d_WK_settleMarks_40 : decode b_WK_settleMarks 40 = .ok (.iastore, 1) := by decide +kernel
theorem d_WK_settleMarks_41 : decode b_WK_settleMarks 41 = .ok (.iinc 1 1, 3) := by decide +kernel
theorem d_WK_settleMarks_44 : decode b_WK_settleMarks 44 = .ok (.goto (-42), 3) := by decide +kernel
theorem d_WK_settleMarks_47 : decode b_WK_settleMarks 47 = .ok (.return_, 1) := by decide +kernel
theorem d_WK_classForMark_0 : decode b_WK_classForMark 0 = .ok (.iload_n 1, 1) := by decide +kernel
theorem d_WK_classForMark_1 : decode b_WK_classForMark 1 = .ok (.ifCond .ne 11, 3) := by decide +kernel
theorem d_WK_classForMark_4 : decode b_WK_classForMark 4 = .ok (.aload_n 0, 1) := by decide +kernel
theorem d_WK_classForMark_5 : decode b_WK_classForMark 5 = .ok (.getfield 15, 3) := by decide +kernel
theorem d_WK_classForMark_8 : decode b_WK_classForMark 8 = .ok (.getfield 54, 3) := by decide +kernel
theorem d_WK_classForMark_11 : decode b_WK_classForMark 11 = .ok (.ireturn, 1) := by decide +kernel
theorem d_WK_classForMark_12 : decode b_WK_classForMark 12 = .ok (.aload_n 0, 1) := by decide +kernel
theorem d_WK_classForMark_13 : decode b_WK_classForMark 13 = .ok (.getfield 9, 3) := by decide +kernel
theorem d_WK_classForMark_16 : decode b_WK_classForMark 16 = .ok (.getfield 57, 3) := by decide +kernel
theorem d_WK_classForMark_19 : decode b_WK_classForMark 19 = .ok (.aload_n 0, 1) := by decide +kernel
theorem d_WK_classForMark_20 : decode b_WK_classForMark 20 = .ok (.getfield 15, 3) := by decide +kernel
theorem d_WK_classForMark_23 : decode b_WK_classForMark 23 = .ok (.getfield 62, 3) := by decide +kernel
theorem d_WK_classForMark_26 : decode b_WK_classForMark 26 = .ok (.iload_n 1, 1) := by decide +kernel
theorem d_WK_classForMark_27 : decode b_WK_classForMark 27 = .ok (.iconst 1, 1) := by decide +kernel
theorem d_WK_classForMark_28 : decode b_WK_classForMark 28 = .ok (.isub, 1) := by decide +kernel
theorem d_WK_classForMark_29 : decode b_WK_classForMark 29 = .ok (.iaload, 1) := by decide +kernel
theorem d_WK_classForMark_30 : decode b_WK_classForMark 30 = .ok (.iaload, 1) := by decide +kernel
theorem d_WK_classForMark_31 : decode b_WK_classForMark 31 = .ok (.istore_n 2, 1) := by decide +kernel
theorem d_WK_classForMark_32 : decode b_WK_classForMark 32 = .ok (.iload_n 2, 1) := by decide +kernel
theorem d_WK_classForMark_33 : decode b_WK_classForMark 33 = .ok (.invokestatic 65, 3) := by decide +kernel
theorem d_WK_classForMark_36 : decode b_WK_classForMark 36 = .ok (.ifCond .ne 9, 3) := by decide +kernel
theorem d_WK_classForMark_39 : decode b_WK_classForMark 39 = .ok (.iload_n 2, 1) := by decide +kernel
theorem d_WK_classForMark_40 : decode b_WK_classForMark 40 = .ok (.bipush 22, 2) := by decide +kernel
theorem d_WK_classForMark_42 : decode b_WK_classForMark 42 = .ok (.if_icmp .ne 8, 3) := by decide +kernel
theorem d_WK_classForMark_45 : decode b_WK_classForMark 45 = .ok (.bipush 13, 2) := by decide +kernel
theorem d_WK_classForMark_47 : decode b_WK_classForMark 47 = .ok (.goto 14, 3) := by decide +kernel
theorem d_WK_classForMark_50 : decode b_WK_classForMark 50 = .ok (.aload_n 0, 1) := by decide +kernel
theorem d_WK_classForMark_51 : decode b_WK_classForMark 51 = .ok (.getfield 15, 3) := by decide +kernel
theorem d_WK_classForMark_54 : decode b_WK_classForMark 54 = .ok (.getfield 46, 3) := by decide +kernel
theorem d_WK_classForMark_57 : decode b_WK_classForMark 57 = .ok (.iload_n 1, 1) := by decide +kernel
theorem d_WK_classForMark_58 : decode b_WK_classForMark 58 = .ok (.iconst 1, 1) := by decide +kernel
theorem d_WK_classForMark_59 : decode b_WK_classForMark 59 = .ok (.isub, 1) := by decide +kernel
theorem d_WK_classForMark_60 : decode b_WK_classForMark 60 = .ok (.iaload, 1) := by decide +kernel
theorem d_WK_classForMark_61 : decode b_WK_classForMark 61 = .ok (.ireturn, 1) := by decide +kernel
theorem d_WK_arabicNumbers_0 : decode b_WK_arabicNumbers 0 = .ok (.aload_n 0, 1) := by decide +kernel
theorem d_WK_arabicNumbers_1 : decode b_WK_arabicNumbers 1 = .ok (.getfield 15, 3) := by decide +kernel
theorem d_WK_arabicNumbers_4 : decode b_WK_arabicNumbers 4 = .ok (.getfield 54, 3) := by decide +kernel
theorem d_WK_arabicNumbers_7 : decode b_WK_arabicNumbers 7 = .ok (.istore_n 1, 1) := by decide +kernel
theorem d_WK_arabicNumbers_8 : decode b_WK_arabicNumbers 8 = .ok (.iconst 0, 1) := by decide +kernel
theorem d_WK_arabicNumbers_9 : decode b_WK_arabicNumbers 9 = .ok (.istore_n 2, 1) := by decide +kernel
theorem d_WK_arabicNumbers_10 : decode b_WK_arabicNumbers 10 = .ok (.iload_n 2, 1) := by decide +kernel
theorem d_WK_arabicNumbers_11 : decode b_WK_arabicNumbers 11 = .ok (.aload_n 0, 1) := by decide +kernel
theorem d_WK_arabicNumbers_12 : decode b_WK_arabicNumbers 12 = .ok (.getfield 15, 3) := by decide +kernel
theorem d_WK_arabicNumbers_15 : decode b_WK_arabicNumbers 15 = .ok (.getfield 40, 3) := by decide +kernel
theorem d_WK_arabicNumbers_18 : decode b_WK_arabicNumbers 18 = .ok (.if_icmp .ge 59, 3) := by decide +kernel
theorem d_WK_arabicNumbers_21 : decode b_WK_arabicNumbers 21 = .ok (.aload_n 0, 1) := by decide +kernel
theorem d_WK_arabicNumbers_22 : decode b_WK_arabicNumbers 22 = .ok (.getfield 15, 3) := by decide +kernel
theorem d_WK_arabicNumbers_25 : decode b_WK_arabicNumbers 25 = .ok (.getfield 46, 3) := by decide +kernel
theorem d_WK_arabicNumbers_28 : decode b_WK_arabicNumbers 28 = .ok (.iload_n 2, 1) := by decide +kernel
theorem d_WK_arabicNumbers_29 : decode b_WK_arabicNumbers 29 = .ok (.iaload, 1) := by decide +kernel
theorem d_WK_arabicNumbers_30 : decode b_WK_arabicNumbers 30 = .ok (.istore_n 3, 1) := by decide +kernel
theorem d_WK_arabicNumbers_31 : decode b_WK_arabicNumbers 31 = .ok (.iload_n 3, 1) := by decide +kernel
theorem d_WK_arabicNumbers_32 : decode b_WK_arabicNumbers 32 = .ok (.ifCond .eq 13, 3) := by decide +kernel
theorem d_WK_arabicNumbers_35 : decode b_WK_arabicNumbers 35 = .ok (.iload_n 3, 1) := by decide +kernel
theorem d_WK_arabicNumbers_36 : decode b_WK_arabicNumbers 36 = .ok (.iconst 1, 1) := by decide +kernel
theorem d_WK_arabicNumbers_37 : decode b_WK_arabicNumbers 37 = .ok (.if_icmp .eq 8, 3) := by decide +kernel
theorem d_WK_arabicNumbers_40 : decode b_WK_arabicNumbers 40 = .ok (.iload_n 3, 1) := by decide +kernel
theorem d_WK_arabicNumbers_41 : decode b_WK_arabicNumbers 41 = .ok (.iconst 2, 1) := by decide +kernel
theorem d_WK_arabicNumbers_42 : decode b_WK_arabicNumbers 42 = .ok (.if_icmp .ne 8, 3) := by decide +kernel
theorem d_WK_arabicNumbers_45 : decode b_WK_arabicNumbers 45 = .ok (.iload_n 3, 1) := by decide +kernel
theorem d_WK_arabicNumbers_46 : decode b_WK_arabicNumbers 46 = .ok (.istore_n 1, 1) := by decide +kernel
theorem d_WK_arabicNumbers_47 : decode b_WK_arabicNumbers 47 = .ok (.goto 24, 3) := by decide +kernel
theorem d_WK_arabicNumbers_50 : decode b_WK_arabicNumbers 50 = .ok (.iload_n 3, 1) := by decide +kernel
theorem d_WK_arabicNumbers_51 : decode b_WK_arabicNumbers 51 = .ok (.iconst 3, 1) := by decide +kernel
theorem d_WK_arabicNumbers_52 : decode b_WK_arabicNumbers 52 = .ok (.if_icmp .ne 19, 3) := by decide +kernel
theorem d_WK_arabicNumbers_55 : decode b_WK_arabicNumbers 55 = .ok (.iload_n 1, 1) := by decide +kernel
theorem d_WK_arabicNumbers_56 : decode b_WK_arabicNumbers 56 = .ok (.iconst 2, 1) := by decide +kernel
theorem d_WK_arabicNumbers_57 : decode b_WK_arabicNumbers 57 = .ok (.if_icmp .ne 14, 3) := by decide +kernel
theorem d_WK_arabicNumbers_60 : decode b_WK_arabicNumbers 60 = .ok (.aload_n 0, 1) := by decide +kernel
theorem d_WK_arabicNumbers_61 : decode b_WK_arabicNumbers 61 = .ok (.getfield 15, 3) := by decide +kernel
theorem d_WK_arabicNumbers_64 : decode b_WK_arabicNumbers 64 = .ok (.getfield 46, 3) := by decide +kernel
theorem d_WK_arabicNumbers_67 : decode b_WK_arabicNumbers 67 = .ok (.iload_n 2, 1) := by decide +kernel
theorem d_WK_arabicNumbers_68 : decode b_WK_arabicNumbers 68 = .ok (.bipush 6, 2) := by decide +kernel
theorem d_WK_arabicNumbers_70 : decode b_WK_arabicNumbers 70 = .ok (.iastore, 1) := by decide +kernel
theorem d_WK_arabicNumbers_71 : decode b_WK_arabicNumbers 71 = .ok (.iinc 2 1, 3) := by decide +kernel
theorem d_WK_arabicNumbers_74 : decode b_WK_arabicNumbers 74 = .ok (.goto (-64), 3) := by decide +kernel
theorem d_WK_arabicNumbers_77 : decode b_WK_arabicNumbers 77 = .ok (.return_, 1) := by decide +kernel
theorem d_WK_arabicLetters_0 : decode b_WK_arabicLetters 0 = .ok (.iconst 0, 1) := by decide +kernel
theorem d_WK_arabicLetters_1 : decode b_WK_arabicLetters 1 = .ok (.istore_n 1, 1) := by decide +kernel
theorem d_WK_arabicLetters_2 : decode b_WK_arabicLetters 2 = .ok (.iload_n 1, 1) := by decide +kernel
theorem d_WK_arabicLetters_3 : decode b_WK_arabicLetters 3 = .ok (.aload_n 0, 1) := by decide +kernel
theorem d_WK_arabicLetters_4 : decode b_WK_arabicLetters 4 = .ok (.getfield 15, 3) := by decide +kernel
theorem d_WK_arabicLetters_7 : decode b_WK_arabicLetters 7 = .ok (.getfield 40, 3) := by decide +kernel
theorem d_WK_arabicLetters_10 : decode b_WK_arabicLetters 10 = .ok (.if_icmp .ge 32, 3) := by decide +kernel
theorem d_WK_arabicLetters_13 : decode b_WK_arabicLetters 13 = .ok (.aload_n 0, 1) := by decide +kernel
theorem d_WK_arabicLetters_14 : decode b_WK_arabicLetters 14 = .ok (.getfield 15, 3) := by decide +kernel
theorem d_WK_arabicLetters_17 : decode b_WK_arabicLetters 17 = .ok (.getfield 46, 3) := by decide +kernel
theorem d_WK_arabicLetters_20 : decode b_WK_arabicLetters 20 = .ok (.iload_n 1, 1) := by decide +kernel
theorem d_WK_arabicLetters_21 : decode b_WK_arabicLetters 21 = .ok (.iaload, 1) := by decide +kernel
theorem d_WK_arabicLetters_22 : decode b_WK_arabicLetters 22 = .ok (.iconst 2, 1) := by decide +kernel
theorem d_WK_arabicLetters_23 : decode b_WK_arabicLetters 23 = .ok (.if_icmp .ne 13, 3) := by decide +kernel
theorem d_WK_arabicLetters_26 : decode b_WK_arabicLetters 26 = .ok (.aload_n 0, 1) := by decide +kernel
theorem d_WK_arabicLetters_27 : decode b_WK_arabicLetters 27 = .ok (.getfield 15, 3) := by decide +kernel
theorem d_WK_arabicLetters_30 : decode b_WK_arabicLetters 30 = .ok (.getfield 46, 3) := by decide +kernel
theorem d_WK_arabicLetters_33 : decode b_WK_arabicLetters 33 = .ok (.iload_n 1, 1) := by decide +kernel
theorem d_WK_arabicLetters_34 : decode b_WK_arabicLetters 34 = .ok (.iconst 1, 1) := by decide +kernel
theorem d_WK_arabicLetters_35 : decode b_WK_arabicLetters 35 = .ok (.iastore, 1) := by decide +kernel
theorem d_WK_arabicLetters_36 : decode b_WK_arabicLetters 36 = .ok (.iinc 1 1, 3) := by decide +kernel
theorem d_WK_arabicLetters_39 : decode b_WK_arabicLetters 39 = .ok (.goto (-37), 3) := by decide +kernel
theorem d_WK_arabicLetters_42 : decode b_WK_arabicLetters 42 = .ok (.return_, 1) := by decide +kernel
theorem d_WK_separators_0 : decode b_WK_separators 0 = .ok (.iconst 0, 1) := by decide +kernel
theorem d_WK_separators_1 : decode b_WK_separators 1 = .ok (.istore_n 1, 1) := by decide +kernel
theorem d_WK_separators_2 : decode b_WK_separators 2 = .ok (.iload_n 1, 1) := by decide +kernel
theorem d_WK_separators_3 : decode b_WK_separators 3 = .ok (.aload_n 0, 1) := by decide +kernel
theorem d_WK_separators_4 : decode b_WK_separators 4 = .ok (.getfield 15, 3) := by decide +kernel
theorem d_WK_separators_7 : decode b_WK_separators 7 = .ok (.getfield 40, 3) := by decide +kernel
theorem d_WK_separators_10 : decode b_WK_separators 10 = .ok (.if_icmp .ge 79, 3) := by decide +kernel
theorem d_WK_separators_13 : decode b_WK_separators 13 = .ok (.aload_n 0, 1) := by decide +kernel
theorem d_WK_separators_14 : decode b_WK_separators 14 = .ok (.getfield 15, 3) := by decide +kernel
theorem d_WK_separators_17 : decode b_WK_separators 17 = .ok (.getfield 46, 3) := by decide +kernel
theorem d_WK_separators_20 : decode b_WK_separators 20 = .ok (.iload_n 1, 1) := by decide +kernel
theorem d_WK_separators_21 : decode b_WK_separators 21 = .ok (.iaload, 1) := by decide +kernel
theorem d_WK_separators_22 : decode b_WK_separators 22 = .ok (.istore_n 2, 1) := by decide +kernel
theorem d_WK_separators_23 : decode b_WK_separators 23 = .ok (.iload_n 2, 1) := by decide +kernel
theorem d_WK_separators_24 : decode b_WK_separators 24 = .ok (.iconst 4, 1) := by decide +kernel
theorem d_WK_separators_25 : decode b_WK_separators 25 = .ok (.if_icmp .eq 9, 3) := by decide +kernel
theorem d_WK_separators_28 : decode b_WK_separators 28 = .ok (.iload_n 2, 1) := by decide +kernel
theorem d_WK_separators_29 : decode b_WK_separators 29 = .ok (.bipush 7, 2) := by decide +kernel
theorem d_WK_separators_31 : decode b_WK_separators 31 = .ok (.if_icmp .ne 25, 3) := by decide +kernel
theorem d_WK_separators_34 : decode b_WK_separators 34 = .ok (.aload_n 0, 1) := by decide +kernel
theorem d_WK_separators_35 : decode b_WK_separators 35 = .ok (.iload_n 1, 1) := by decide +kernel
theorem d_WK_separators_36 : decode b_WK_separators 36 = .ok (.iconst 3, 1) := by decide +kernel
theorem d_WK_separators_37 : decode b_WK_separators 37 = .ok (.invokevirtual 69, 3) := by decide +kernel
theorem d_WK_separators_40 : decode b_WK_separators 40 = .ok (.ifCond .eq 16, 3) := by decide +kernel
theorem d_WK_separators_43 : decode b_WK_separators 43 = .ok (.aload_n 0, 1) := by decide +kernel
theorem d_WK_separators_44 : decode b_WK_separators 44 = .ok (.getfield 15, 3) := by decide +kernel
theorem d_WK_separators_47 : decode b_WK_separators 47 = .ok (.getfield 46, 3) := by decide +kernel
theorem d_WK_separators_50 : decode b_WK_separators 50 = .ok (.iload_n 1, 1) := by decide +kernel
theorem d_WK_separators_51 : decode b_WK_separators 51 = .ok (.iconst 3, 1) := by decide +kernel
theorem d_WK_separators_52 : decode b_WK_separators 52 = .ok (.iastore, 1) := by decide +kernel
theorem d_WK_separators_53 : decode b_WK_separators 53 = .ok (.goto 30, 3) := by decide +kernel
theorem d_WK_separators_56 : decode b_WK_separators 56 = .ok (.iload_n 2, 1) := by decide +kernel
theorem d_WK_separators_57 : decode b_WK_separators 57 = .ok (.bipush 7, 2) := by decide +kernel
theorem d_WK_separators_59 : decode b_WK_separators 59 = .ok (.if_icmp .ne 24, 3) := by decide +kernel
theorem d_WK_separators_62 : decode b_WK_separators 62 = .ok (.aload_n 0, 1) := by decide +kernel
theorem d_WK_separators_63 : decode b_WK_separators 63 = .ok (.iload_n 1, 1) := by decide +kernel
theorem d_WK_separators_64 : decode b_WK_separators 64 = .ok (.bipush 6, 2) := by decide +kernel
theorem d_WK_separators_66 : decode b_WK_separators 66 = .ok (.invokevirtual 69, 3) := by decide +kernel
theorem d_WK_separators_69 : decode b_WK_separators 69 = .ok (.ifCond .eq 14, 3) := by decide +kernel
theorem d_WK_separators_72 : decode b_WK_separators 72 = .ok (.aload_n 0, 1) := by decide +kernel
theorem d_WK_separators_73 : decode b_WK_separators 73 = .ok (.getfield 15, 3) := by decide +kernel
theorem d_WK_separators_76 : decode b_WK_separators 76 = .ok (.getfield 46, 3) := by decide +kernel
theorem d_WK_separators_79 : decode b_WK_separators 79 = .ok (.iload_n 1, 1) := by decide +kernel
theorem d_WK_separators_80 : decode b_WK_separators 80 = .ok (.bipush 6, 2) := by decide +kernel
theorem d_WK_separators_82 : decode b_WK_separators 82 = .ok (.iastore, 1) := by decide +kernel
theorem d_WK_separators_83 : decode b_WK_separators 83 = .ok (.iinc 1 1, 3) := by decide +kernel
theorem d_WK_separators_86 : decode b_WK_separators 86 = .ok (.goto (-84), 3) := by decide +kernel
theorem d_WK_separators_89 : decode b_WK_separators 89 = .ok (.return_, 1) := by decide +kernel
theorem d_WK_isBetween_0 : decode b_WK_isBetween 0 = .ok (.aload_n 0, 1) := by decide +kernel
theorem d_WK_isBetween_1 : decode b_WK_isBetween 1 = .ok (.getfield 15, 3) := by decide +kernel
theorem d_WK_isBetween_4 : decode b_WK_isBetween 4 = .ok (.iload_n 1, 1) := by decide +kernel
theorem d_WK_isBetween_5 : decode b_WK_isBetween 5 = .ok (.iconst 1, 1) := by decide +kernel
theorem d_WK_isBetween_6 : decode b_WK_isBetween 6 = .ok (.isub, 1) := by decide +kernel
theorem d_WK_isBetween_7 : decode b_WK_isBetween 7 = .ok (.iload_n 2, 1) := by decide +kernel
theorem d_WK_isBetween_8 : decode b_WK_isBetween 8 = .ok (.invokevirtual 73, 3) := by decide +kernel
theorem d_WK_isBetween_11 : decode b_WK_isBetween 11 = .ok (.ifCond .eq 21, 3) := by decide +kernel
theorem d_WK_isBetween_14 : decode b_WK_isBetween 14 = .ok (.aload_n 0, 1) := by decide +kernel
theorem d_WK_isBetween_15 : decode b_WK_isBetween 15 = .ok (.getfield 15, 3) := by decide +kernel
theorem d_WK_isBetween_18 : decode b_WK_isBetween 18 = .ok (.iload_n 1, 1) := by decide +kernel
theorem d_WK_isBetween_19 : decode b_WK_isBetween 19 = .ok (.iconst 1, 1) := by decide +kernel
theorem d_WK_isBetween_20 : decode b_WK_isBetween 20 = .ok (.iadd, 1) := by decide +kernel
theorem d_WK_isBetween_21 : decode b_WK_isBetween 21 = .ok (.iload_n 2, 1) := by decide +kernel
theorem d_WK_isBetween_22 : decode b_WK_isBetween 22 = .ok (.invokevirtual 73, 3) := by decide +kernel
theorem d_WK_isBetween_25 : decode b_WK_isBetween 25 = .ok (.ifCond .eq 7, 3) := by decide +kernel
theorem d_WK_isBetween_28 : decode b_WK_isBetween 28 = .ok (.iconst 1, 1) := by decide +kernel
theorem d_WK_isBetween_29 : decode b_WK_isBetween 29 = .ok (.goto 4, 3) := by decide +kernel
theorem d_WK_isBetween_32 : decode b_WK_isBetween 32 = .ok (.iconst 0, 1) := by decide +kernel
theorem d_WK_isBetween_33 : decode b_WK_isBetween 33 = .ok (.ireturn, 1) := by decide +kernel
theorem d_WK_terminators_0 : decode b_WK_terminators 0 = .ok (.iconst 0, 1) := by decide +kernel
theorem d_WK_terminators_1 : decode b_WK_terminators 1 = .ok (.istore_n 1, 1) := by decide +kernel
theorem d_WK_terminators_2 : decode b_WK_terminators 2 = .ok (.iconst 0, 1) := by decide +kernel
theorem d_WK_terminators_3 : decode b_WK_terminators 3 = .ok (.istore_n 2, 1) := by decide +kernel
theorem d_WK_terminators_4 : decode b_WK_terminators 4 = .ok (.iload_n 2, 1) := by decide +kernel
theorem d_WK_terminators_5 : decode b_WK_terminators 5 = .ok (.aload_n 0, 1) := by decide +kernel
theorem d_WK_terminators_6 : decode b_WK_terminators 6 = .ok (.getfield 15, 3) := by decide +kernel
theorem d_WK_terminators_9 : decode b_WK_terminators 9 = .ok (.getfield 40, 3) := by decide +kernel
theorem d_WK_terminators_12 : decode b_WK_terminators 12 = .ok (.if_icmp .gt 74, 3) := by decide +kernel
theorem d_WK_terminators_15 : decode b_WK_terminators 15 = .ok (.aload_n 0, 1) := by decide +kernel
theorem d_WK_terminators_16 : decode b_WK_terminators 16 = .ok (.getfield 15, 3) := by decide +kernel
theorem d_WK_terminators_19 : decode b_WK_terminators 19 = .ok (.iload_n 2, 1) := by decide +kernel
theorem d_WK_terminators_20 : decode b_WK_terminators 20 = .ok (.iconst 5, 1) := by decide +kernel
theorem d_WK_terminators_21 : decode b_WK_terminators 21 = .ok (.invokevirtual 73, 3) := by decide +kernel
theorem d_WK_terminators_24 : decode b_WK_terminators 24 = .ok (.ifCond .ne 56, 3) := by decide +kernel
theorem d_WK_terminators_27 : decode b_WK_terminators 27 = .ok (.aload_n 0, 1) := by decide +kernel
theorem d_WK_terminators_28 : decode b_WK_terminators 28 = .ok (.getfield 15, 3) := by decide +kernel
theorem d_WK_terminators_31 : decode b_WK_terminators 31 = .ok (.iload_n 2, 1) := by decide +kernel
theorem d_WK_terminators_32 : decode b_WK_terminators 32 = .ok (.iconst 3, 1) := by decide +kernel
theorem d_WK_terminators_33 : decode b_WK_terminators 33 = .ok (.invokevirtual 73, 3) := by decide +kernel
theorem d_WK_terminators_36 : decode b_WK_terminators 36 = .ok (.ifCond .ne 17, 3) := by decide +kernel
theorem d_WK_terminators_39 : decode b_WK_terminators 39 = .ok (.aload_n 0, 1) := by decide +kernel
theorem d_WK_terminators_40 : decode b_WK_terminators 40 = .ok (.getfield 15, 3) := by decide +kernel
theorem d_WK_terminators_43 : decode b_WK_terminators 43 = .ok (.iload_n 1, 1) := by decide +kernel
theorem d_WK_terminators_44 : decode b_WK_terminators 44 = .ok (.iconst 1, 1) := by decide +kernel
theorem d_WK_terminators_45 : decode b_WK_terminators 45 = .ok (.isub, 1) := by decide +kernel
theorem d_WK_terminators_46 : decode b_WK_terminators 46 = .ok (.iconst 3, 1) := by decide +kernel
theorem d_WK_terminators_47 : decode b_WK_terminators 47 = .ok (.invokevirtual 73, 3) := by decide +kernel
theorem d_WK_terminators_50 : decode b_WK_terminators 50 = .ok (.ifCond .eq 26, 3) := by decide +kernel
theorem d_WK_terminators_53 : decode b_WK_terminators 53 = .ok (.iload_n 1, 1) := by decide +kernel
theorem d_WK_terminators_54 : decode b_WK_terminators 54 = .ok (.istore_n 3, 1) := by decide +kernel
theorem d_WK_terminators_55 : decode b_WK_terminators 55 = .ok (.iload_n 3, 1) := by decide +kernel
theorem d_WK_terminators_56 : decode b_WK_terminators 56 = .ok (.iload_n 2, 1) := by decide +kernel
theorem d_WK_terminators_57 : decode b_WK_terminators 57 = .ok (.if_icmp .ge 19, 3) := by decide +kernel
theorem d_WK_terminators_60 : decode b_WK_terminators 60 = .ok (.aload_n 0, 1) := by decide +kernel
theorem d_WK_terminators_61 : decode b_WK_terminators 61 = .ok (.getfield 15, 3) := by decide +kernel
theorem d_WK_terminators_64 : decode b_WK_terminators 64 = .ok (.getfield 46, 3) := by decide +kernel
theorem d_WK_terminators_67 : decode b_WK_terminators 67 = .ok (.iload_n 3, 1) := by decide +kernel
theorem d_WK_terminators_68 : decode b_WK_terminators 68 = .ok (.iconst 3, 1) := by decide +kernel
theorem d_WK_terminators_69 : decode b_WK_terminators 69 = .ok (.iastore, 1) := by decide +kernel
theorem d_WK_terminators_70 : decode b_WK_terminators 70 = .ok (.iinc 3 1, 3) := by decide +kernel
theorem d_WK_terminators_73 : decode b_WK_terminators 73 = .ok (.goto (-18), 3) := by decide +kernel
theorem d_WK_terminators_76 : decode b_WK_terminators 76 = .ok (.iload_n 2, 1) := by decide +kernel
theorem d_WK_terminators_77 : decode b_WK_terminators 77 = .ok (.iconst 1, 1) := by decide +kernel
theorem d_WK_terminators_78 : decode b_WK_terminators 78 = .ok (.iadd, 1) := by decide +kernel
theorem d_WK_terminators_79 : decode b_WK_terminators 79 = .ok (.istore_n 1, 1) := by decide +kernel
theorem d_WK_terminators_80 : decode b_WK_terminators 80 = .ok (.iinc 2 1, 3) := by decide +kernel
theorem d_WK_terminators_83 : decode b_WK_terminators 83 = .ok (.goto (-79), 3) := by decide +kernel
theorem d_WK_terminators_86 : decode b_WK_terminators 86 = .ok (.return_, 1) := by decide +kernel
theorem d_WK_restToNeutral_0 : decode b_WK_restToNeutral 0 = .ok (.iconst 0, 1) := by decide +kernel
theorem d_WK_restToNeutral_1 : decode b_WK_restToNeutral 1 = .ok (.istore_n 1, 1) := by decide +kernel
theorem d_WK_restToNeutral_2 : decode b_WK_restToNeutral 2 = .ok (.iload_n 1, 1) := by decide +kernel
theorem d_WK_restToNeutral_3 : decode b_WK_restToNeutral 3 = .ok (.aload_n 0, 1) := by decide +kernel
theorem d_WK_restToNeutral_4 : decode b_WK_restToNeutral 4 = .ok (.getfield 15, 3) := by decide +kernel
theorem d_WK_restToNeutral_7 : decode b_WK_restToNeutral 7 = .ok (.getfield 40, 3) := by decide +kernel
theorem d_WK_restToNeutral_10 : decode b_WK_restToNeutral 10 = .ok (.if_icmp .ge 46, 3) := by decide +kernel
theorem d_WK_restToNeutral_13 : decode b_WK_restToNeutral 13 = .ok (.aload_n 0, 1) := by decide +kernel
theorem d_WK_restToNeutral_14 : decode b_WK_restToNeutral 14 = .ok (.getfield 15, 3) := by decide +kernel
theorem d_WK_restToNeutral_17 : decode b_WK_restToNeutral 17 = .ok (.getfield 46, 3) := by decide +kernel
theorem d_WK_restToNeutral_20 : decode b_WK_restToNeutral 20 = .ok (.iload_n 1, 1) := by decide +kernel
theorem d_WK_restToNeutral_21 : decode b_WK_restToNeutral 21 = .ok (.iaload, 1) := by decide +kernel
theorem d_WK_restToNeutral_22 : decode b_WK_restToNeutral 22 = .ok (.istore_n 2, 1) := by decide +kernel
theorem d_WK_restToNeutral_23 : decode b_WK_restToNeutral 23 = .ok (.iload_n 2, 1) := by decide +kernel
theorem d_WK_restToNeutral_24 : decode b_WK_restToNeutral 24 = .ok (.iconst 4, 1) := by decide +kernel
theorem d_WK_restToNeutral_25 : decode b_WK_restToNeutral 25 = .ok (.if_icmp .eq 14, 3) := by decide +kernel
theorem d_WK_restToNeutral_28 : decode b_WK_restToNeutral 28 = .ok (.iload_n 2, 1) := by decide +kernel
theorem d_WK_restToNeutral_29 : decode b_WK_restToNeutral 29 = .ok (.iconst 5, 1) := by decide +kernel
theorem d_WK_restToNeutral_30 : decode b_WK_restToNeutral 30 = .ok (.if_icmp .eq 9, 3) := by decide +kernel
theorem d_WK_restToNeutral_33 : decode b_WK_restToNeutral 33 = .ok (.iload_n 2, 1) := by decide +kernel
theorem d_WK_restToNeutral_34 : decode b_WK_restToNeutral 34 = .ok (.bipush 7, 2) := by decide +kernel
theorem d_WK_restToNeutral_36 : decode b_WK_restToNeutral 36 = .ok (.if_icmp .ne 14, 3) := by decide +kernel
theorem d_WK_restToNeutral_39 : decode b_WK_restToNeutral 39 = .ok (.aload_n 0, 1) := by decide +kernel
theorem d_WK_restToNeutral_40 : decode b_WK_restToNeutral 40 = .ok (.getfield 15, 3) := by decide +kernel
theorem d_WK_restToNeutral_43 : decode b_WK_restToNeutral 43 = .ok (.getfield 46, 3) := by decide +kernel
theorem d_WK_restToNeutral_46 : decode b_WK_restToNeutral 46 = .ok (.iload_n 1, 1) := by decide +kernel
theorem d_WK_restToNeutral_47 : decode b_WK_restToNeutral 47 = .ok (.bipush 13, 2) := by decide +kernel
theorem d_WK_restToNeutral_49 : decode b_WK_restToNeutral 49 = .ok (.iastore, 1) := by decide +kernel
theorem d_WK_restToNeutral_50 : decode b_WK_restToNeutral 50 = .ok (.iinc 1 1, 3) := by decide +kernel
theorem d_WK_restToNeutral_53 : decode b_WK_restToNeutral 53 = .ok (.goto (-51), 3) := by decide +kernel
theorem d_WK_restToNeutral_56 : decode b_WK_restToNeutral 56 = .ok (.return_, 1) := by decide +kernel
theorem d_WK_latinNumbers_0 : decode b_WK_latinNumbers 0 = .ok (.aload_n 0, 1) := by decide +kernel
theorem d_WK_latinNumbers_1 : decode b_WK_latinNumbers 1 = .ok (.getfield 15, 3) := by decide +kernel
theorem d_WK_latinNumbers_4 : decode b_WK_latinNumbers 4 = .ok (.getfield 54, 3) := by decide +kernel
theorem d_WK_latinNumbers_7 : decode b_WK_latinNumbers 7 = .ok (.istore_n 1, 1) := by decide +kernel
theorem d_WK_latinNumbers_8 : decode b_WK_latinNumbers 8 = .ok (.iconst 0, 1) := by decide +kernel
theorem d_WK_latinNumbers_9 : decode b_WK_latinNumbers 9 = .ok (.istore_n 2, 1) := by decide +kernel
theorem d_WK_latinNumbers_10 : decode b_WK_latinNumbers 10 = .ok (.iload_n 2, 1) := by decide +kernel
theorem d_WK_latinNumbers_11 : decode b_WK_latinNumbers 11 = .ok (.aload_n 0, 1) := by decide +kernel
theorem d_WK_latinNumbers_12 : decode b_WK_latinNumbers 12 = .ok (.getfield 15, 3) := by decide +kernel
theorem d_WK_latinNumbers_15 : decode b_WK_latinNumbers 15 = .ok (.getfield 40, 3) := by decide +kernel
theorem d_WK_latinNumbers_18 : decode b_WK_latinNumbers 18 = .ok (.if_icmp .ge 52, 3) := by decide +kernel
theorem d_WK_latinNumbers_21 : decode b_WK_latinNumbers 21 = .ok (.aload_n 0, 1) := by decide +kernel
theorem d_WK_latinNumbers_22 : decode b_WK_latinNumbers 22 = .ok (.getfield 15, 3) := by decide +kernel
theorem d_WK_latinNumbers_25 : decode b_WK_latinNumbers 25 = .ok (.getfield 46, 3) := by decide +kernel
theorem d_WK_latinNumbers_28 : decode b_WK_latinNumbers 28 = .ok (.iload_n 2, 1) := by decide +kernel
theorem d_WK_latinNumbers_29 : decode b_WK_latinNumbers 29 = .ok (.iaload, 1) := by decide +kernel
theorem d_WK_latinNumbers_30 : decode b_WK_latinNumbers 30 = .ok (.istore_n 3, 1) := by decide +kernel
theorem d_WK_latinNumbers_31 : decode b_WK_latinNumbers 31 = .ok (.iload_n 3, 1) := by decide +kernel
theorem d_WK_latinNumbers_32 : decode b_WK_latinNumbers 32 = .ok (.ifCond .eq 8, 3) := by decide +kernel
theorem d_WK_latinNumbers_35 : decode b_WK_latinNumbers 35 = .ok (.iload_n 3, 1) := by decide +kernel
theorem d_WK_latinNumbers_36 : decode b_WK_latinNumbers 36 = .ok (.iconst 1, 1) := by decide +kernel
theorem d_WK_latinNumbers_37 : decode b_WK_latinNumbers 37 = .ok (.if_icmp .ne 8, 3) := by decide +kernel
theorem d_WK_latinNumbers_40 : decode b_WK_latinNumbers 40 = .ok (.iload_n 3, 1) := by decide +kernel
theorem d_WK_latinNumbers_41 : decode b_WK_latinNumbers 41 = .ok (.istore_n 1, 1) := by decide +kernel
theorem d_WK_latinNumbers_42 : decode b_WK_latinNumbers 42 = .ok (.goto 22, 3) := by decide +kernel
theorem d_WK_latinNumbers_45 : decode b_WK_latinNumbers 45 = .ok (.iload_n 3, 1) := by decide +kernel
theorem d_WK_latinNumbers_46 : decode b_WK_latinNumbers 46 = .ok (.iconst 3, 1) := by decide +kernel
theorem d_WK_latinNumbers_47 : decode b_WK_latinNumbers 47 = .ok (.if_icmp .ne 17, 3) := by decide +kernel
theorem d_WK_latinNumbers_50 : decode b_WK_latinNumbers 50 = .ok (.iload_n 1, 1) := by decide +kernel
theorem d_WK_latinNumbers_51 : decode b_WK_latinNumbers 51 = .ok (.ifCond .ne 13, 3) := by decide +kernel
theorem d_WK_latinNumbers_54 : decode b_WK_latinNumbers 54 = .ok (.aload_n 0, 1) := by decide +kernel
theorem d_WK_latinNumbers_55 : decode b_WK_latinNumbers 55 = .ok (.getfield 15, 3) := by decide +kernel
theorem d_WK_latinNumbers_58 : decode b_WK_latinNumbers 58 = .ok (.getfield 46, 3) := by decide +kernel
theorem d_WK_latinNumbers_61 : decode b_WK_latinNumbers 61 = .ok (.iload_n 2, 1) := by decide +kernel
theorem d_WK_latinNumbers_62 : decode b_WK_latinNumbers 62 = .ok (.iconst 0, 1) := by decide +kernel
theorem d_WK_latinNumbers_63 : decode b_WK_latinNumbers 63 = .ok (.iastore, 1) := by decide +kernel
theorem d_WK_latinNumbers_64 : decode b_WK_latinNumbers 64 = .ok (.iinc 2 1, 3) := by decide +kernel
theorem d_WK_latinNumbers_67 : decode b_WK_latinNumbers 67 = .ok (.goto (-57), 3) := by decide +kernel
theorem d_WK_latinNumbers_70 : decode b_WK_latinNumbers 70 = .ok (.return_, 1) := by decide +kernel
theorem d_BR_init_0 : decode b_BR_init 0 = .ok (.aload_n 0, 1) := by decide +kernel
theorem d_BR_init_1 : decode b_BR_init 1 = .ok (.invokespecial 3, 3) := by decide +kernel
theorem d_BR_init_4 : decode b_BR_init 4 = .ok (.aload_n 0, 1) := by decide +kernel
theorem d_BR_init_5 : decode b_BR_init 5 = .ok (.bipush 63, 2) := by decide +kernel
theorem d_BR_init_7 : decode b_BR_init 7 = .ok (.newarray .int, 2) := by decide +kernel
theorem d_BR_init_9 : decode b_BR_init 9 = .ok (.putfield 9, 3) := by decide +kernel
theorem d_BR_init_12 : decode b_BR_init 12 = .ok (.aload_n 0, 1) := by decide +kernel
theorem d_BR_init_13 : decode b_BR_init 13 = .ok (.bipush 63, 2) := by decide +kernel
theorem d_BR_init_15 : decode b_BR_init 15 = .ok (.newarray .int, 2) := by decide +kernel
theorem d_BR_init_17 : decode b_BR_init 17 = .ok (.putfield 15, 3) := by decide +kernel
theorem d_BR_init_20 : decode b_BR_init 20 = .ok (.aload_n 0, 1) := by decide +kernel
theorem d_BR_init_21 : decode b_BR_init 21 = .ok (.iconst 0, 1) := by decide +kernel
theorem d_BR_init_22 : decode b_BR_init 22 = .ok (.putfield 18, 3) := by decide +kernel
theorem d_BR_init_25 : decode b_BR_init 25 = .ok (.aload_n 0, 1) := by decide +kernel
theorem d_BR_init_26 : decode b_BR_init 26 = .ok (.sipush 2000, 3) := by decide +kernel
theorem d_BR_init_29 : decode b_BR_init 29 = .ok (.newarray .int, 2) := by decide +kernel
theorem d_BR_init_31 : decode b_BR_init 31 = .ok (.putfield 22, 3) := by decide +kernel
theorem d_BR_init_34 : decode b_BR_init 34 = .ok (.aload_n 0, 1) := by decide +kernel
theorem d_BR_init_35 : decode b_BR_init 35 = .ok (.aload_n 1, 1) := by decide +kernel
theorem d_BR_init_36 : decode b_BR_init 36 = .ok (.putfield 25, 3) := by decide +kernel
theorem d_BR_init_39 : decode b_BR_init 39 = .ok (.aload_n 0, 1) := by decide +kernel
theorem d_BR_init_40 : decode b_BR_init 40 = .ok (.aload_n 2, 1) := by decide +kernel
theorem d_BR_init_41 : decode b_BR_init 41 = .ok (.putfield 29, 3) := by decide +kernel
theorem d_BR_init_44 : decode b_BR_init 44 = .ok (.aload_n 0, 1) := by decide +kernel
theorem d_BR_init_45 : decode b_BR_init 45 = .ok (.aload_n 3, 1) := by decide +kernel
theorem d_BR_init_46 : decode b_BR_init 46 = .ok (.putfield 33, 3) := by decide +kernel
theorem d_BR_init_49 : decode b_BR_init 49 = .ok (.return_, 1) := by decide +kernel
theorem d_BR_apply_0 : decode b_BR_apply 0 = .ok (.aload_n 0, 1) := by decide +kernel
theorem d_BR_apply_1 : decode b_BR_apply 1 = .ok (.invokevirtual 37, 3) := by decide +kernel
theorem d_BR_apply_4 : decode b_BR_apply 4 = .ok (.iconst 0, 1) := by decide +kernel
theorem d_BR_apply_5 : decode b_BR_apply 5 = .ok (.istore_n 1, 1) := by decide +kernel
theorem d_BR_apply_6 : decode b_BR_apply 6 = .ok (.iload_n 1, 1) := by decide +kernel
theorem d_BR_apply_7 : decode b_BR_apply 7 = .ok (.aload_n 0, 1) := by decide +kernel
theorem d_BR_apply_8 : decode b_BR_apply 8 = .ok (.getfield 29, 3) := by decide +kernel
theorem d_BR_apply_11 : decode b_BR_apply 11 = .ok (.getfield 40, 3) := by decide +kernel
theorem d_BR_apply_14 : decode b_BR_apply 14 = .ok (.if_icmp .ge 30, 3) := by decide +kernel
theorem d_BR_apply_17 : decode b_BR_apply 17 = .ok (.aload_n 0, 1) := by decide +kernel
theorem d_BR_apply_18 : decode b_BR_apply 18 = .ok (.getfield 22, 3) := by decide +kernel
theorem d_BR_apply_21 : decode b_BR_apply 21 = .ok (.iload_n 1, 1) := by decide +kernel
theorem d_BR_apply_22 : decode b_BR_apply 22 = .ok (.iaload, 1) := by decide +kernel
theorem d_BR_apply_23 : decode b_BR_apply 23 = .ok (.iconst (-1), 1) := by decide +kernel
theorem d_BR_apply_24 : decode b_BR_apply 24 = .ok (.if_icmp .eq 14, 3) := by decide +kernel
theorem d_BR_apply_27 : decode b_BR_apply 27 = .ok (.aload_n 0, 1) := by decide +kernel
theorem d_BR_apply_28 : decode b_BR_apply 28 = .ok (.iload_n 1, 1) := by decide +kernel
theorem d_BR_apply_29 : decode b_BR_apply 29 = .ok (.aload_n 0, 1) := by decide +kernel
theorem d_BR_apply_30 : decode b_BR_apply 30 = .ok (.getfield 22, 3) := by decide +kernel
theorem d_BR_apply_33 : decode b_BR_apply 33 = .ok (.iload_n 1, 1) := by decide +kernel
theorem d_BR_apply_34 : decode b_BR_apply 34 = .ok (.iaload, 1) := by decide +kernel
theorem d_BR_apply_35 : decode b_BR_apply 35 = .ok (.invokevirtual 45, 3) := by decide +kernel
theorem d_BR_apply_38 : decode b_BR_apply 38 = .ok (.iinc 1 1, 3) := by decide +kernel
theorem d_BR_apply_41 : decode b_BR_apply 41 = .ok (.goto (-35), 3) := by decide +kernel
theorem d_BR_apply_44 : decode b_BR_apply 44 = .ok (.return_, 1) := by decide +kernel
theorem d_BR_findPairs_0 : decode b_BR_findPairs 0 = .ok (.iconst 0, 1) := by decide +kernel
theorem d_BR_findPairs_1 : decode b_BR_findPairs 1 = .ok (.istore_n 1, 1) := by decide +kernel
theorem d_BR_findPairs_2 : decode b_BR_findPairs 2 = .ok (.iload_n 1, 1) := by decide +kernel
theorem d_BR_findPairs_3 : decode b_BR_findPairs 3 = .ok (.aload_n 0, 1) := by decide +kernel
theorem d_BR_findPairs_4 : decode b_BR_findPairs 4 = .ok (.getfield 29, 3) := by decide +kernel
theorem d_BR_findPairs_7 : decode b_BR_findPairs 7 = .ok (.getfield 40, 3) := by decide +kernel
theorem d_BR_findPairs_10 : decode b_BR_findPairs 10 = .ok (.if_icmp .ge 16, 3) := by decide +kernel
theorem d_BR_findPairs_13 : decode b_BR_findPairs 13 = .ok (.aload_n 0, 1) := by decide +kernel
theorem d_BR_findPairs_14 : decode b_BR_findPairs 14 = .ok (.getfield 22, 3) := by decide +kernel
theorem d_BR_findPairs_17 : decode b_BR_findPairs 17 = .ok (.iload_n 1, 1) := by decide +kernel
theorem d_BR_findPairs_18 : decode b_BR_findPairs 18 = .ok (.iconst (-1), 1) := by decide +kernel
theorem d_BR_findPairs_19 : decode b_BR_findPairs 19 = .ok (.iastore, 1) := by decide +kernel
theorem d_BR_findPairs_20 : decode b_BR_findPairs 20 = .ok (.iinc 1 1, 3) := by decide +kernel
theorem d_BR_findPairs_23 : decode b_BR_findPairs 23 = .ok (.goto (-21), 3) := by decide +kernel
theorem d_BR_findPairs_26 : decode b_BR_findPairs 26 = .ok (.aload_n 0, 1) := by decide +kernel
theorem d_BR_findPairs_27 : decode b_BR_findPairs 27 = .ok (.iconst 0, 1) := by decide +kernel
theorem d_BR_findPairs_28 : decode b_BR_findPairs 28 = .ok (.putfield 18, 3) := by decide +kernel
theorem d_BR_findPairs_31 : decode b_BR_findPairs 31 = .ok (.iconst 0, 1) := by decide +kernel
theorem d_BR_findPairs_32 : decode b_BR_findPairs 32 = .ok (.istore_n 1, 1) := by decide +kernel
theorem d_BR_findPairs_33 : decode b_BR_findPairs 33 = .ok (.iload_n 1, 1) := by decide +kernel
theorem d_BR_findPairs_34 : decode b_BR_findPairs 34 = .ok (.aload_n 0, 1) := by decide +kernel
theorem d_BR_findPairs_35 : decode b_BR_findPairs 35 = .ok (.getfield 29, 3) := by decide +kernel
theorem d_BR_findPairs_38 : decode b_BR_findPairs 38 = .ok (.getfield 40, 3) := by decide +kernel
theorem d_BR_findPairs_41 : decode b_BR_findPairs 41 = .ok (.if_icmp .ge 107, 3) := by decide +kernel
theorem d_BR_findPairs_44 : decode b_BR_findPairs 44 = .ok (.aload_n 0, 1) := by decide +kernel
theorem d_BR_findPairs_45 : decode b_BR_findPairs 45 = .ok (.getfield 29, 3) := by decide +kernel
theorem d_BR_findPairs_48 : decode b_BR_findPairs 48 = .ok (.getfield 49, 3) := by decide +kernel
theorem d_BR_findPairs_51 : decode b_BR_findPairs 51 = .ok (.iload_n 1, 1) := by decide +kernel
theorem d_BR_findPairs_52 : decode b_BR_findPairs 52 = .ok (.iaload, 1) := by decide +kernel
theorem d_BR_findPairs_53 : decode b_BR_findPairs 53 = .ok (.bipush 13, 2) := by decide +kernel
theorem d_BR_findPairs_55 : decode b_BR_findPairs 55 = .ok (.if_icmp .ne 87, 3) := by decide +kernel
theorem d_BR_findPairs_58 : decode b_BR_findPairs 58 = .ok (.aload_n 0, 1) := by decide +kernel
theorem d_BR_findPairs_59 : decode b_BR_findPairs 59 = .ok (.getfield 25, 3) := by decide +kernel
theorem d_BR_findPairs_62 : decode b_BR_findPairs 62 = .ok (.getfield 52, 3) := by decide +kernel
theorem d_BR_findPairs_65 : decode b_BR_findPairs 65 = .ok (.aload_n 0, 1) := by decide +kernel
theorem d_BR_findPairs_66 : decode b_BR_findPairs 66 = .ok (.getfield 29, 3) := by decide +kernel
theorem d_BR_findPairs_69 : decode b_BR_findPairs 69 = .ok (.getfield 57, 3) := by decide +kernel
theorem d_BR_findPairs_72 : decode b_BR_findPairs 72 = .ok (.iload_n 1, 1) := by decide +kernel
theorem d_BR_findPairs_73 : decode b_BR_findPairs 73 = .ok (.iaload, 1) := by decide +kernel
theorem d_BR_findPairs_74 : decode b_BR_findPairs 74 = .ok (.iaload, 1) := by decide +kernel
theorem d_BR_findPairs_75 : decode b_BR_findPairs 75 = .ok (.istore_n 2, 1) := by decide +kernel
theorem d_BR_findPairs_76 : decode b_BR_findPairs 76 = .ok (.aload_n 0, 1) := by decide +kernel
theorem d_BR_findPairs_77 : decode b_BR_findPairs 77 = .ok (.getfield 33, 3) := by decide +kernel
theorem d_BR_findPairs_80 : decode b_BR_findPairs 80 = .ok (.iload_n 2, 1) := by decide +kernel
theorem d_BR_findPairs_81 : decode b_BR_findPairs 81 = .ok (.invokevirtual 60, 3) := by decide +kernel
theorem d_BR_findPairs_84 : decode b_BR_findPairs 84 = .ok (.istore_n 3, 1) := by decide +kernel
theorem d_BR_findPairs_85 : decode b_BR_findPairs 85 = .ok (.iload_n 3, 1) := by decide +kernel
theorem d_BR_findPairs_86 : decode b_BR_findPairs 86 = .ok (.iconst (-1), 1) := by decide +kernel
theorem d_BR_findPairs_87 : decode b_BR_findPairs 87 = .ok (.if_icmp .ne 12, 3) := by decide +kernel
theorem d_BR_findPairs_90 : decode b_BR_findPairs 90 = .ok (.aload_n 0, 1) := by decide +kernel
theorem d_BR_findPairs_91 : decode b_BR_findPairs 91 = .ok (.iload_n 1, 1) := by decide +kernel
theorem d_BR_findPairs_92 : decode b_BR_findPairs 92 = .ok (.iload_n 2, 1) := by decide +kernel
theorem d_BR_findPairs_93 : decode b_BR_findPairs 93 = .ok (.invokevirtual 66, 3) := by decide +kernel
theorem d_BR_findPairs_96 : decode b_BR_findPairs 96 = .ok (.goto 46, 3) := by decide +kernel
theorem d_BR_findPairs_99 : decode b_BR_findPairs 99 = .ok (.aload_n 0, 1) := by decide +kernel
theorem d_BR_findPairs_100 : decode b_BR_findPairs 100 = .ok (.getfield 18, 3) := by decide +kernel
theorem d_BR_findPairs_103 : decode b_BR_findPairs 103 = .ok (.bipush 63, 2) := by decide +kernel
theorem d_BR_findPairs_105 : decode b_BR_findPairs 105 = .ok (.if_icmp .ge 36, 3) := by decide +kernel
theorem d_BR_findPairs_108 : decode b_BR_findPairs 108 = .ok (.aload_n 0, 1) := by decide +kernel
theorem d_BR_findPairs_109 : decode b_BR_findPairs 109 = .ok (.getfield 9, 3) := by decide +kernel
theorem d_BR_findPairs_112 : decode b_BR_findPairs 112 = .ok (.aload_n 0, 1) := by decide +kernel
theorem d_BR_findPairs_113 : decode b_BR_findPairs 113 = .ok (.getfield 18, 3) := by decide +kernel
theorem d_BR_findPairs_116 : decode b_BR_findPairs 116 = .ok (.iload_n 1, 1) := by decide +kernel
theorem d_BR_findPairs_117 : decode b_BR_findPairs 117 = .ok (.iastore, 1) := by decide +kernel
theorem d_BR_findPairs_118 : decode b_BR_findPairs 118 = .ok (.aload_n 0, 1) := by decide +kernel
theorem d_BR_findPairs_119 : decode b_BR_findPairs 119 = .ok (.getfield 15, 3) := by decide +kernel
theorem d_BR_findPairs_122 : decode b_BR_findPairs 122 = .ok (.aload_n 0, 1) := by decide +kernel
theorem d_BR_findPairs_123 : decode b_BR_findPairs 123 = .ok (.getfield 18, 3) := by decide +kernel
theorem d_BR_findPairs_126 : decode b_BR_findPairs 126 = .ok (.iload_n 3, 1) := by decide +kernel
theorem d_BR_findPairs_127 : decode b_BR_findPairs 127 = .ok (.iastore, 1) := by decide +kernel
theorem d_BR_findPairs_128 : decode b_BR_findPairs 128 = .ok (.aload_n 0, 1) := by decide +kernel
theorem d_BR_findPairs_129 : decode b_BR_findPairs 129 = .ok (.dup, 1) := by decide +kernel
theorem d_BR_findPairs_130 : decode b_BR_findPairs 130 = .ok (.getfield 18, 3) := by decide +kernel
theorem d_BR_findPairs_133 : decode b_BR_findPairs 133 = .ok (.iconst 1, 1) := by decide +kernel
theorem d_BR_findPairs_134 : decode b_BR_findPairs 134 = .ok (.iadd, 1) := by decide +kernel
theorem d_BR_findPairs_135 : decode b_BR_findPairs 135 = .ok (.putfield 18, 3) := by decide +kernel
theorem d_BR_findPairs_138 : decode b_BR_findPairs 138 = .ok (.goto 4, 3) := by decide +kernel
theorem d_BR_findPairs_141 : decode b_BR_findPairs 141 = .ok (.return_, 1) := by decide +kernel
theorem d_BR_findPairs_142 : decode b_BR_findPairs 142 = .ok (.iinc 1 1, 3) := by decide +kernel
theorem d_BR_findPairs_145 : decode b_BR_findPairs 145 = .ok (.goto (-112), 3) := by decide +kernel
theorem d_BR_findPairs_148 : decode b_BR_findPairs 148 = .ok (.return_, 1) := by decide +kernel
theorem d_BR_closeOne_0 : decode b_BR_closeOne 0 = .ok (.aload_n 0, 1) := by decide +kernel
theorem d_BR_closeOne_1 : decode b_BR_closeOne 1 = .ok (.getfield 18, 3) := by decide +kernel
theorem d_BR_closeOne_4 : decode b_BR_closeOne 4 = .ok (.iconst 1, 1) := by decide +kernel
theorem d_BR_closeOne_5 : decode b_BR_closeOne 5 = .ok (.isub, 1) := by decide +kernel
theorem d_BR_closeOne_6 : decode b_BR_closeOne 6 = .ok (.istore_n 3, 1) := by decide +kernel
theorem d_BR_closeOne_7 : decode b_BR_closeOne 7 = .ok (.iload_n 3, 1) := by decide +kernel
theorem d_BR_closeOne_8 : decode b_BR_closeOne 8 = .ok (.ifCond .lt 37, 3) := by decide +kernel
theorem d_BR_closeOne_11 : decode b_BR_closeOne 11 = .ok (.aload_n 0, 1) := by decide +kernel
theorem d_BR_closeOne_12 : decode b_BR_closeOne 12 = .ok (.getfield 15, 3) := by decide +kernel
theorem d_BR_closeOne_15 : decode b_BR_closeOne 15 = .ok (.iload_n 3, 1) := by decide +kernel
theorem d_BR_closeOne_16 : decode b_BR_closeOne 16 = .ok (.iaload, 1) := by decide +kernel
theorem d_BR_closeOne_17 : decode b_BR_closeOne 17 = .ok (.iload_n 2, 1) := by decide +kernel
theorem d_BR_closeOne_18 : decode b_BR_closeOne 18 = .ok (.if_icmp .ne 21, 3) := by decide +kernel
theorem d_BR_closeOne_21 : decode b_BR_closeOne 21 = .ok (.aload_n 0, 1) := by decide +kernel
theorem d_BR_closeOne_22 : decode b_BR_closeOne 22 = .ok (.getfield 22, 3) := by decide +kernel
theorem d_BR_closeOne_25 : decode b_BR_closeOne 25 = .ok (.aload_n 0, 1) := by decide +kernel
theorem d_BR_closeOne_26 : decode b_BR_closeOne 26 = .ok (.getfield 9, 3) := by decide +kernel
theorem d_BR_closeOne_29 : decode b_BR_closeOne 29 = .ok (.iload_n 3, 1) := by decide +kernel
theorem d_BR_closeOne_30 : decode b_BR_closeOne 30 = .ok (.iaload, 1) := by decide +kernel
theorem d_BR_closeOne_31 : decode b_BR_closeOne 31 = .ok (.iload_n 1, 1) := by decide +kernel
theorem d_BR_closeOne_32 : decode b_BR_closeOne 32 = .ok (.iastore, 1) := by decide +kernel
theorem d_BR_closeOne_33 : decode b_BR_closeOne 33 = .ok (.aload_n 0, 1) := by decide +kernel
theorem d_BR_closeOne_34 : decode b_BR_closeOne 34 = .ok (.iload_n 3, 1) := by decide +kernel
theorem d_BR_closeOne_35 : decode b_BR_closeOne 35 = .ok (.putfield 18, 3) := by decide +kernel
theorem d_BR_closeOne_38 : decode b_BR_closeOne 38 = .ok (.return_, 1) := by decide +kernel
theorem d_BR_closeOne_39 : decode b_BR_closeOne 39 = .ok (.iinc 3 (-1), 3) := by decide +kernel
theorem d_BR_closeOne_42 : decode b_BR_closeOne 42 = .ok (.goto (-35), 3) := by decide +kernel
theorem d_BR_closeOne_45 : decode b_BR_closeOne 45 = .ok (.return_, 1) := by decide +kernel
theorem d_BR_settlePair_0 : decode b_BR_settlePair 0 = .ok (.aload_n 0, 1) := by decide +kernel
theorem d_BR_settlePair_1 : decode b_BR_settlePair 1 = .ok (.iload_n 1, 1) := by decide +kernel
theorem d_BR_settlePair_2 : decode b_BR_settlePair 2 = .ok (.iload_n 2, 1) := by decide +kernel
theorem d_BR_settlePair_3 : decode b_BR_settlePair 3 = .ok (.invokevirtual 69, 3) := by decide +kernel
theorem d_BR_settlePair_6 : decode b_BR_settlePair 6 = .ok (.istore_n 3, 1) := by decide +kernel
theorem d_BR_settlePair_7 : decode b_BR_settlePair 7 = .ok (.iload_n 3, 1) := by decide +kernel
theorem d_BR_settlePair_8 : decode b_BR_settlePair 8 = .ok (.iconst (-1), 1) := by decide +kernel
theorem d_BR_settlePair_9 : decode b_BR_settlePair 9 = .ok (.if_icmp .eq 39, 3) := by decide +kernel
theorem d_BR_settlePair_12 : decode b_BR_settlePair 12 = .ok (.iload_n 3, 1) := by decide +kernel
theorem d_BR_settlePair_13 : decode b_BR_settlePair 13 = .ok (.aload_n 0, 1) := by decide +kernel
theorem d_BR_settlePair_14 : decode b_BR_settlePair 14 = .ok (.getfield 29, 3) := by decide +kernel
theorem d_BR_settlePair_17 : decode b_BR_settlePair 17 = .ok (.getfield 73, 3) := by decide +kernel
theorem d_BR_settlePair_20 : decode b_BR_settlePair 20 = .ok (.if_icmp .ne 7, 3) := by decide +kernel
theorem d_BR_settlePair_23 : decode b_BR_settlePair 23 = .ok (.iload_n 3, 1) := by decide +kernel
theorem d_BR_settlePair_24 : decode b_BR_settlePair 24 = .ok (.goto 8, 3) := by decide +kernel
theorem d_BR_settlePair_27 : decode b_BR_settlePair 27 = .ok (.aload_n 0, 1) := by decide +kernel
theorem d_BR_settlePair_28 : decode b_BR_settlePair 28 = .ok (.iload_n 1, 1) := by decide +kernel
theorem d_BR_settlePair_29 : decode b_BR_settlePair 29 = .ok (.invokevirtual 76, 3) := by decide +kernel
theorem d_BR_settlePair_32 : decode b_BR_settlePair 32 = .ok (.istore 4, 2) := by decide +kernel
theorem d_BR_settlePair_34 : decode b_BR_settlePair 34 = .ok (.aload_n 0, 1) := by decide +kernel
theorem d_BR_settlePair_35 : decode b_BR_settlePair 35 = .ok (.iload_n 1, 1) := by decide +kernel
theorem d_BR_settlePair_36 : decode b_BR_settlePair 36 = .ok (.iload 4, 2) := by decide +kernel
theorem d_BR_settlePair_38 : decode b_BR_settlePair 38 = .ok (.invokevirtual 79, 3) := by decide +kernel
theorem d_BR_settlePair_41 : decode b_BR_settlePair 41 = .ok (.aload_n 0, 1) := by decide +kernel
theorem d_BR_settlePair_42 : decode b_BR_settlePair 42 = .ok (.iload_n 2, 1) := by decide +kernel
theorem d_BR_settlePair_43 : decode b_BR_settlePair 43 = .ok (.iload 4, 2) := by decide +kernel
theorem d_BR_settlePair_45 : decode b_BR_settlePair 45 = .ok (.invokevirtual 79, 3) := by decide +kernel
theorem d_BR_settlePair_48 : decode b_BR_settlePair 48 = .ok (.return_, 1) := by decide +kernel
theorem d_BR_sideInside_0 : decode b_BR_sideInside 0 = .ok (.iconst (-1), 1) := by decide +kernel
theorem d_BR_sideInside_1 : decode b_BR_sideInside 1 = .ok (.istore_n 3, 1) := by decide +kernel
theorem d_BR_sideInside_2 : decode b_BR_sideInside 2 = .ok (.iload_n 1, 1) := by decide +kernel
theorem d_BR_sideInside_3 : decode b_BR_sideInside 3 = .ok (.iconst 1, 1) := by decide +kernel
theorem d_BR_sideInside_4 : decode b_BR_sideInside 4 = .ok (.iadd, 1) := by decide +kernel
theorem d_BR_sideInside_5 : decode b_BR_sideInside 5 = .ok (.istore 4, 2) := by decide +kernel
theorem d_BR_sideInside_7 : decode b_BR_sideInside 7 = .ok (.iload 4, 2) := by decide +kernel
theorem d_BR_sideInside_9 : decode b_BR_sideInside 9 = .ok (.iload_n 2, 1) := by decide +kernel
theorem d_BR_sideInside_10 : decode b_BR_sideInside 10 = .ok (.if_icmp .ge 44, 3) := by decide +kernel
theorem d_BR_sideInside_13 : decode b_BR_sideInside 13 = .ok (.aload_n 0, 1) := by decide +kernel
theorem d_BR_sideInside_14 : decode b_BR_sideInside 14 = .ok (.getfield 29, 3) := by decide +kernel
theorem d_BR_sideInside_17 : decode b_BR_sideInside 17 = .ok (.iload 4, 2) := by decide +kernel
theorem d_BR_sideInside_19 : decode b_BR_sideInside 19 = .ok (.invokevirtual 82, 3) := by decide +kernel
theorem d_BR_sideInside_22 : decode b_BR_sideInside 22 = .ok (.istore 5, 2) := by decide +kernel
theorem d_BR_sideInside_24 : decode b_BR_sideInside 24 = .ok (.iload 5, 2) := by decide +kernel
theorem d_BR_sideInside_26 : decode b_BR_sideInside 26 = .ok (.aload_n 0, 1) := by decide +kernel
theorem d_BR_sideInside_27 : decode b_BR_sideInside 27 = .ok (.getfield 29, 3) := by decide +kernel
theorem d_BR_sideInside_30 : decode b_BR_sideInside 30 = .ok (.getfield 73, 3) := by decide +kernel
theorem d_BR_sideInside_33 : decode b_BR_sideInside 33 = .ok (.if_icmp .ne 6, 3) := by decide +kernel
theorem d_BR_sideInside_36 : decode b_BR_sideInside 36 = .ok (.iload 5, 2) := by decide +kernel
theorem d_BR_sideInside_38 : decode b_BR_sideInside 38 = .ok (.ireturn, 1) := by decide +kernel
theorem d_BR_sideInside_39 : decode b_BR_sideInside 39 = .ok (.iload 5, 2) := by decide +kernel
theorem d_BR_sideInside_41 : decode b_BR_sideInside 41 = .ok (.iconst (-1), 1) := by decide +kernel
theorem d_BR_sideInside_42 : decode b_BR_sideInside 42 = .ok (.if_icmp .eq 6, 3) := by decide +kernel
theorem d_BR_sideInside_45 : decode b_BR_sideInside 45 = .ok (.iload 5, 2) := by decide +kernel
theorem d_BR_sideInside_47 : decode b_BR_sideInside 47 = .ok (.istore_n 3, 1) := by decide +kernel
theorem d_BR_sideInside_48 : decode b_BR_sideInside 48 = .ok (.iinc 4 1, 3) := by decide +kernel
theorem d_BR_sideInside_51 : decode b_BR_sideInside 51 = .ok (.goto (-44), 3) := by decide +kernel
theorem d_BR_sideInside_54 : decode b_BR_sideInside 54 = .ok (.iload_n 3, 1) := by decide +kernel
theorem d_BR_sideInside_55 : decode b_BR_sideInside 55 = .ok (.ireturn, 1) := by decide +kernel
theorem d_BR_sideBefore_0 : decode b_BR_sideBefore 0 = .ok (.iload_n 1, 1) := by decide +kernel
theorem d_BR_sideBefore_1 : decode b_BR_sideBefore 1 = .ok (.iconst 1, 1) := by decide +kernel
theorem d_BR_sideBefore_2 : decode b_BR_sideBefore 2 = .ok (.isub, 1) := by decide +kernel
theorem d_BR_sideBefore_3 : decode b_BR_sideBefore 3 = .ok (.istore_n 2, 1) := by decide +kernel
theorem d_BR_sideBefore_4 : decode b_BR_sideBefore 4 = .ok (.iload_n 2, 1) := by decide +kernel
theorem d_BR_sideBefore_5 : decode b_BR_sideBefore 5 = .ok (.ifCond .lt 25, 3) := by decide +kernel
theorem d_BR_sideBefore_8 : decode b_BR_sideBefore 8 = .ok (.aload_n 0, 1) := by decide +kernel
theorem d_BR_sideBefore_9 : decode b_BR_sideBefore 9 = .ok (.getfield 29, 3) := by decide +kernel
theorem d_BR_sideBefore_12 : decode b_BR_sideBefore 12 = .ok (.iload_n 2, 1) := by decide +kernel
theorem d_BR_sideBefore_13 : decode b_BR_sideBefore 13 = .ok (.invokevirtual 82, 3) := by decide +kernel
theorem d_BR_sideBefore_16 : decode b_BR_sideBefore 16 = .ok (.istore_n 3, 1) := by decide +kernel
theorem d_BR_sideBefore_17 : decode b_BR_sideBefore 17 = .ok (.iload_n 3, 1) := by decide +kernel
theorem d_BR_sideBefore_18 : decode b_BR_sideBefore 18 = .ok (.iconst (-1), 1) := by decide +kernel
theorem d_BR_sideBefore_19 : decode b_BR_sideBefore 19 = .ok (.if_icmp .eq 5, 3) := by decide +kernel
theorem d_BR_sideBefore_22 : decode b_BR_sideBefore 22 = .ok (.iload_n 3, 1) := by decide +kernel
theorem d_BR_sideBefore_23 : decode b_BR_sideBefore 23 = .ok (.ireturn, 1) := by decide +kernel
theorem d_BR_sideBefore_24 : decode b_BR_sideBefore 24 = .ok (.iinc 2 (-1), 3) := by decide +kernel
theorem d_BR_sideBefore_27 : decode b_BR_sideBefore 27 = .ok (.goto (-23), 3) := by decide +kernel
theorem d_BR_sideBefore_30 : decode b_BR_sideBefore 30 = .ok (.aload_n 0, 1) := by decide +kernel
theorem d_BR_sideBefore_31 : decode b_BR_sideBefore 31 = .ok (.getfield 29, 3) := by decide +kernel
theorem d_BR_sideBefore_34 : decode b_BR_sideBefore 34 = .ok (.getfield 85, 3) := by decide +kernel
theorem d_BR_sideBefore_37 : decode b_BR_sideBefore 37 = .ok (.ireturn, 1) := by decide +kernel
theorem d_BR_give_0 : decode b_BR_give 0 = .ok (.aload_n 0, 1) := by decide +kernel
theorem d_BR_give_1 : decode b_BR_give 1 = .ok (.getfield 29, 3) := by decide +kernel
theorem d_BR_give_4 : decode b_BR_give 4 = .ok (.getfield 49, 3) := by decide +kernel
theorem d_BR_give_7 : decode b_BR_give 7 = .ok (.iload_n 1, 1) := by decide +kernel
theorem d_BR_give_8 : decode b_BR_give 8 = .ok (.iload_n 2, 1) := by decide +kernel
theorem d_BR_give_9 : decode b_BR_give 9 = .ok (.iastore, 1) := by decide +kernel
theorem d_BR_give_10 : decode b_BR_give 10 = .ok (.iload_n 1, 1) := by decide +kernel
theorem d_BR_give_11 : decode b_BR_give 11 = .ok (.iconst 1, 1) := by decide +kernel
theorem d_BR_give_12 : decode b_BR_give 12 = .ok (.iadd, 1) := by decide +kernel
theorem d_BR_give_13 : decode b_BR_give 13 = .ok (.istore_n 3, 1) := by decide +kernel
theorem d_BR_give_14 : decode b_BR_give 14 = .ok (.iload_n 3, 1) := by decide +kernel
theorem d_BR_give_15 : decode b_BR_give 15 = .ok (.aload_n 0, 1) := by decide +kernel
theorem d_BR_give_16 : decode b_BR_give 16 = .ok (.getfield 29, 3) := by decide +kernel
theorem d_BR_give_19 : decode b_BR_give 19 = .ok (.getfield 40, 3) := by decide +kernel
theorem d_BR_give_22 : decode b_BR_give 22 = .ok (.if_icmp .ge 30, 3) := by decide +kernel
theorem d_BR_give_25 : decode b_BR_give 25 = .ok (.aload_n 0, 1) := by decide +kernel
theorem d_BR_give_26 : decode b_BR_give 26 = .ok (.getfield 29, 3) := by decide +kernel
theorem d_BR_give_29 : decode b_BR_give 29 = .ok (.iload_n 3, 1) := by decide +kernel
theorem d_BR_give_30 : decode b_BR_give 30 = .ok (.invokevirtual 88, 3) := by decide +kernel
theorem d_BR_give_33 : decode b_BR_give 33 = .ok (.ifCond .eq 19, 3) := by decide +kernel
theorem d_BR_give_36 : decode b_BR_give 36 = .ok (.aload_n 0, 1) := by decide +kernel
theorem d_BR_give_37 : decode b_BR_give 37 = .ok (.getfield 29, 3) := by decide +kernel
theorem d_BR_give_40 : decode b_BR_give 40 = .ok (.getfield 49, 3) := by decide +kernel
theorem d_BR_give_43 : decode b_BR_give 43 = .ok (.iload_n 3, 1) := by decide +kernel
theorem d_BR_give_44 : decode b_BR_give 44 = .ok (.iload_n 2, 1) := by decide +kernel
theorem d_BR_give_45 : decode b_BR_give 45 = .ok (.iastore, 1) := by decide +kernel
theorem d_BR_give_46 : decode b_BR_give 46 = .ok (.iinc 3 1, 3) := by decide +kernel
theorem d_BR_give_49 : decode b_BR_give 49 = .ok (.goto (-35), 3) := by decide +kernel
theorem d_BR_give_52 : decode b_BR_give 52 = .ok (.return_, 1) := by decide +kernel
theorem d_LN_init_0 : decode b_LN_init 0 = .ok (.aload_n 0, 1) := by decide +kernel
theorem d_LN_init_1 : decode b_LN_init 1 = .ok (.invokespecial 3, 3) := by decide +kernel
theorem d_LN_init_4 : decode b_LN_init 4 = .ok (.aload_n 0, 1) := by decide +kernel
theorem d_LN_init_5 : decode b_LN_init 5 = .ok (.sipush 2000, 3) := by decide +kernel
theorem d_LN_init_8 : decode b_LN_init 8 = .ok (.newarray .int, 2) := by decide +kernel
theorem d_LN_init_10 : decode b_LN_init 10 = .ok (.putfield 9, 3) := by decide +kernel
theorem d_LN_init_13 : decode b_LN_init 13 = .ok (.aload_n 0, 1) := by decide +kernel
theorem d_LN_init_14 : decode b_LN_init 14 = .ok (.sipush 2000, 3) := by decide +kernel
theorem d_LN_init_17 : decode b_LN_init 17 = .ok (.newarray .int, 2) := by decide +kernel
theorem d_LN_init_19 : decode b_LN_init 19 = .ok (.putfield 15, 3) := by decide +kernel
theorem d_LN_init_22 : decode b_LN_init 22 = .ok (.aload_n 0, 1) := by decide +kernel
theorem d_LN_init_23 : decode b_LN_init 23 = .ok (.sipush 2000, 3) := by decide +kernel
theorem d_LN_init_26 : decode b_LN_init 26 = .ok (.newarray .int, 2) := by decide +kernel
theorem d_LN_init_28 : decode b_LN_init 28 = .ok (.putfield 18, 3) := by decide +kernel
theorem d_LN_init_31 : decode b_LN_init 31 = .ok (.aload_n 0, 1) := by decide +kernel
theorem d_LN_init_32 : decode b_LN_init 32 = .ok (.iconst 0, 1) := by decide +kernel
theorem d_LN_init_33 : decode b_LN_init 33 = .ok (.putfield 21, 3) := by decide +kernel
theorem d_LN_init_36 : decode b_LN_init 36 = .ok (.aload_n 0, 1) := by decide +kernel
theorem d_LN_init_37 : decode b_LN_init 37 = .ok (.aload_n 1, 1) := by decide +kernel
theorem d_LN_init_38 : decode b_LN_init 38 = .ok (.putfield 25, 3) := by decide +kernel
theorem d_LN_init_41 : decode b_LN_init 41 = .ok (.return_, 1) := by decide +kernel
theorem d_LN_show_0 : decode b_LN_show 0 = .ok (.aload_n 0, 1) := by decide +kernel
theorem d_LN_show_1 : decode b_LN_show 1 = .ok (.iload_n 1, 1) := by decide +kernel
theorem d_LN_show_2 : decode b_LN_show 2 = .ok (.iload_n 2, 1) := by decide +kernel
theorem d_LN_show_3 : decode b_LN_show 3 = .ok (.iload_n 3, 1) := by decide +kernel
theorem d_LN_show_4 : decode b_LN_show 4 = .ok (.invokevirtual 29, 3) := by decide +kernel
theorem d_LN_show_7 : decode b_LN_show 7 = .ok (.aload_n 0, 1) := by decide +kernel
theorem d_LN_show_8 : decode b_LN_show 8 = .ok (.iload_n 1, 1) := by decide +kernel
theorem d_LN_show_9 : decode b_LN_show 9 = .ok (.iload_n 2, 1) := by decide +kernel
theorem d_LN_show_10 : decode b_LN_show 10 = .ok (.invokevirtual 33, 3) := by decide +kernel
theorem d_LN_show_13 : decode b_LN_show 13 = .ok (.aload_n 0, 1) := by decide +kernel
theorem d_LN_show_14 : decode b_LN_show 14 = .ok (.invokevirtual 37, 3) := by decide +kernel
theorem d_LN_show_17 : decode b_LN_show 17 = .ok (.aload_n 0, 1) := by decide +kernel
theorem d_LN_show_18 : decode b_LN_show 18 = .ok (.invokevirtual 40, 3) := by decide +kernel
theorem d_LN_show_21 : decode b_LN_show 21 = .ok (.return_, 1) := by decide +kernel
theorem d_LN_setLevels_0 : decode b_LN_setLevels 0 = .ok (.iconst 1, 1) := by decide +kernel
theorem d_LN_setLevels_1 : decode b_LN_setLevels 1 = .ok (.istore 4, 2) := by decide +kernel
theorem d_LN_setLevels_3 : decode b_LN_setLevels 3 = .ok (.iload_n 2, 1) := by decide +kernel
theorem d_LN_setLevels_4 : decode b_LN_setLevels 4 = .ok (.iconst 1, 1) := by decide +kernel
theorem d_LN_setLevels_5 : decode b_LN_setLevels 5 = .ok (.isub, 1) := by decide +kernel
theorem d_LN_setLevels_6 : decode b_LN_setLevels 6 = .ok (.istore 5, 2) := by decide +kernel
theorem d_LN_setLevels_8 : decode b_LN_setLevels 8 = .ok (.iload 5, 2) := by decide +kernel
theorem d_LN_setLevels_10 : decode b_LN_setLevels 10 = .ok (.iload_n 1, 1) := by decide +kernel
theorem d_LN_setLevels_11 : decode b_LN_setLevels 11 = .ok (.if_icmp .lt 134, 3) := by decide +kernel
theorem d_LN_setLevels_14 : decode b_LN_setLevels 14 = .ok (.aload_n 0, 1) := by decide +kernel
theorem d_LN_setLevels_15 : decode b_LN_setLevels 15 = .ok (.getfield 15, 3) := by decide +kernel
theorem d_LN_setLevels_18 : decode b_LN_setLevels 18 = .ok (.iload 5, 2) := by decide +kernel
theorem d_LN_setLevels_20 : decode b_LN_setLevels 20 = .ok (.aload_n 0, 1) := by decide +kernel
theorem d_LN_setLevels_21 : decode b_LN_setLevels 21 = .ok (.getfield 25, 3) := by decide +kernel
theorem d_LN_setLevels_24 : decode b_LN_setLevels 24 = .ok (.getfield 43, 3) := by decide +kernel
theorem d_LN_setLevels_27 : decode b_LN_setLevels 27 = .ok (.iload 5, 2) := by decide +kernel
theorem d_LN_setLevels_29 : decode b_LN_setLevels 29 = .ok (.iaload, 1) := by decide +kernel
theorem d_LN_setLevels_30 : decode b_LN_setLevels 30 = .ok (.iastore, 1) := by decide +kernel
theorem d_LN_setLevels_31 : decode b_LN_setLevels 31 = .ok (.aload_n 0, 1) := by decide +kernel
theorem d_LN_setLevels_32 : decode b_LN_setLevels 32 = .ok (.getfield 15, 3) := by decide +kernel
theorem d_LN_setLevels_35 : decode b_LN_setLevels 35 = .ok (.iload 5, 2) := by decide +kernel
theorem d_LN_setLevels_37 : decode b_LN_setLevels 37 = .ok (.iaload, 1) := by decide +kernel
theorem d_LN_setLevels_38 : decode b_LN_setLevels 38 = .ok (.iconst (-1), 1) := by decide +kernel
theorem d_LN_setLevels_39 : decode b_LN_setLevels 39 = .ok (.if_icmp .eq 100, 3) := by decide +kernel
theorem d_LN_setLevels_42 : decode b_LN_setLevels 42 = .ok (.aload_n 0, 1) := by decide +kernel
theorem d_LN_setLevels_43 : decode b_LN_setLevels 43 = .ok (.getfield 25, 3) := by decide +kernel
theorem d_LN_setLevels_46 : decode b_LN_setLevels 46 = .ok (.getfield 46, 3) := by decide +kernel
theorem d_LN_setLevels_49 : decode b_LN_setLevels 49 = .ok (.iload 5, 2) := by decide +kernel
theorem d_LN_setLevels_51 : decode b_LN_setLevels 51 = .ok (.iaload, 1) := by decide +kernel
theorem d_LN_setLevels_52 : decode b_LN_setLevels 52 = .ok (.istore 6, 2) := by decide +kernel
theorem d_LN_setLevels_54 : decode b_LN_setLevels 54 = .ok (.iload 6, 2) := by decide +kernel
theorem d_LN_setLevels_56 : decode b_LN_setLevels 56 = .ok (.bipush 11, 2) := by decide +kernel
theorem d_LN_setLevels_58 : decode b_LN_setLevels 58 = .ok (.if_icmp .eq 10, 3) := by decide +kernel
theorem d_LN_setLevels_61 : decode b_LN_setLevels 61 = .ok (.iload 6, 2) := by decide +kernel
theorem d_LN_setLevels_63 : decode b_LN_setLevels 63 = .ok (.bipush 10, 2) := by decide +kernel
theorem d_LN_setLevels_65 : decode b_LN_setLevels 65 = .ok (.if_icmp .ne 7, 3) := by decide +kernel
theorem d_LN_setLevels_68 : decode b_LN_setLevels 68 = .ok (.iconst 1, 1) := by decide +kernel
theorem d_LN_setLevels_69 : decode b_LN_setLevels 69 = .ok (.goto 4, 3) := by decide +kernel
theorem d_LN_setLevels_72 : decode b_LN_setLevels 72 = .ok (.iconst 0, 1) := by decide +kernel
theorem d_LN_setLevels_73 : decode b_LN_setLevels 73 = .ok (.istore 7, 2) := by decide +kernel
theorem d_LN_setLevels_75 : decode b_LN_setLevels 75 = .ok (.iload 6, 2) := by decide +kernel
theorem d_LN_setLevels_77 : decode b_LN_setLevels 77 = .ok (.bipush 12, 2) := by decide +kernel
theorem d_LN_setLevels_79 : decode b_LN_setLevels 79 = .ok (.if_icmp .eq 18, 3) := by decide +kernel
theorem d_LN_setLevels_82 : decode b_LN_setLevels 82 = .ok (.iload 6, 2) := by decide +kernel
theorem d_LN_setLevels_84 : decode b_LN_setLevels 84 = .ok (.invokestatic 49, 3) := by decide +kernel
theorem d_LN_setLevels_87 : decode b_LN_setLevels 87 = .ok (.ifCond .ne 10, 3) := by decide +kernel
theorem d_LN_setLevels_90 : decode b_LN_setLevels 90 = .ok (.iload 6, 2) := by decide +kernel
theorem d_LN_setLevels_92 : decode b_LN_setLevels 92 = .ok (.bipush 22, 2) := by decide +kernel
theorem d_LN_setLevels_94 : decode b_LN_setLevels 94 = .ok (.if_icmp .ne 7, 3) := by decide +kernel
theorem d_LN_setLevels_97 : decode b_LN_setLevels 97 = .ok (.iconst 1, 1) := by decide +kernel
theorem d_LN_setLevels_98 : decode b_LN_setLevels 98 = .ok (.goto 4, 3) := by decide +kernel
theorem d_LN_setLevels_101 : decode b_LN_setLevels 101 = .ok (.iconst 0, 1) := by decide +kernel
theorem d_LN_setLevels_102 : decode b_LN_setLevels 102 = .ok (.istore 8, 2) := by decide +kernel
theorem d_LN_setLevels_104 : decode b_LN_setLevels 104 = .ok (.iload 7, 2) := by decide +kernel
theorem d_LN_setLevels_106 : decode b_LN_setLevels 106 = .ok (.ifCond .ne 13, 3) := by decide +kernel
theorem d_LN_setLevels_109 : decode b_LN_setLevels 109 = .ok (.iload 4, 2) := by decide +kernel
theorem d_LN_setLevels_111 : decode b_LN_setLevels 111 = .ok (.ifCond .eq 12, 3) := by decide +kernel
theorem d_LN_setLevels_114 : decode b_LN_setLevels 114 = .ok (.iload 8, 2) := by decide +kernel
theorem d_LN_setLevels_116 : decode b_LN_setLevels 116 = .ok (.ifCond .eq 7, 3) := by decide +kernel
theorem d_LN_setLevels_119 : decode b_LN_setLevels 119 = .ok (.iconst 1, 1) := by decide +kernel
theorem d_LN_setLevels_120 : decode b_LN_setLevels 120 = .ok (.goto 4, 3) := by decide +kernel
theorem d_LN_setLevels_123 : decode b_LN_setLevels 123 = .ok (.iconst 0, 1) := by decide +kernel
theorem d_LN_setLevels_124 : decode b_LN_setLevels 124 = .ok (.istore 4, 2) := by decide +kernel
theorem d_LN_setLevels_126 : decode b_LN_setLevels 126 = .ok (.iload 4, 2) := by decide +kernel
theorem d_LN_setLevels_128 : decode b_LN_setLevels 128 = .ok (.ifCond .eq 11, 3) := by decide +kernel
theorem d_LN_setLevels_131 : decode b_LN_setLevels 131 = .ok (.aload_n 0, 1) := by decide +kernel
theorem d_LN_setLevels_132 : decode b_LN_setLevels 132 = .ok (.getfield 15, 3) := by decide +kernel
theorem d_LN_setLevels_135 : decode b_LN_setLevels 135 = .ok (.iload 5, 2) := by decide +kernel
theorem d_LN_setLevels_137 : decode b_LN_setLevels 137 = .ok (.iload_n 3, 1) := by decide +kernel
theorem d_LN_setLevels_138 : decode b_LN_setLevels 138 = .ok (.iastore, 1) := by decide +kernel
theorem d_LN_setLevels_139 : decode b_LN_setLevels 139 = .ok (.iinc 5 (-1), 3) := by decide +kernel
theorem d_LN_setLevels_142 : decode b_LN_setLevels 142 = .ok (.goto (-134), 3) := by decide +kernel
theorem d_LN_setLevels_145 : decode b_LN_setLevels 145 = .ok (.return_, 1) := by decide +kernel
theorem d_LN_setOrder_0 : decode b_LN_setOrder 0 = .ok (.aload_n 0, 1) := by decide +kernel
theorem d_LN_setOrder_1 : decode b_LN_setOrder 1 = .ok (.iconst 0, 1) := by decide +kernel
theorem d_LN_setOrder_2 : decode b_LN_setOrder 2 = .ok (.putfield 21, 3) := by decide +kernel
theorem d_LN_setOrder_5 : decode b_LN_setOrder 5 = .ok (.iload_n 1, 1) := by decide +kernel
theorem d_LN_setOrder_6 : decode b_LN_setOrder 6 = .ok (.istore_n 3, 1) := by decide +kernel
theorem d_LN_setOrder_7 : decode b_LN_setOrder 7 = .ok (.iload_n 3, 1) := by decide +kernel
theorem d_LN_setOrder_8 : decode b_LN_setOrder 8 = .ok (.iload_n 2, 1) := by decide +kernel
theorem d_LN_setOrder_9 : decode b_LN_setOrder 9 = .ok (.if_icmp .ge 39, 3) := by decide +kernel
theorem d_LN_setOrder_12 : decode b_LN_setOrder 12 = .ok (.aload_n 0, 1) := by decide +kernel
theorem d_LN_setOrder_13 : decode b_LN_setOrder 13 = .ok (.getfield 15, 3) := by decide +kernel
theorem d_LN_setOrder_16 : decode b_LN_setOrder 16 = .ok (.iload_n 3, 1) := by decide +kernel
theorem d_LN_setOrder_17 : decode b_LN_setOrder 17 = .ok (.iaload, 1) := by decide +kernel
theorem d_LN_setOrder_18 : decode b_LN_setOrder 18 = .ok (.iconst (-1), 1) := by decide +kernel
theorem d_LN_setOrder_19 : decode b_LN_setOrder 19 = .ok (.if_icmp .eq 23, 3) := by decide +kernel
theorem d_LN_setOrder_22 : decode b_LN_setOrder 22 = .ok (.aload_n 0, 1) := by decide +kernel
theorem d_LN_setOrder_23 : decode b_LN_setOrder 23 = .ok (.getfield 9, 3) := by decide +kernel
theorem d_LN_setOrder_26 : decode b_LN_setOrder 26 = .ok (.aload_n 0, 1) := by decide +kernel
theorem d_LN_setOrder_27 : decode b_LN_setOrder 27 = .ok (.getfield 21, 3) := by decide +kernel
theorem d_LN_setOrder_30 : decode b_LN_setOrder 30 = .ok (.iload_n 3, 1) := by decide +kernel
theorem d_LN_setOrder_31 : decode b_LN_setOrder 31 = .ok (.iastore, 1) := by decide +kernel
theorem d_LN_setOrder_32 : decode b_LN_setOrder 32 = .ok (.aload_n 0, 1) := by decide +kernel
theorem d_LN_setOrder_33 : decode b_LN_setOrder 33 = .ok (.dup, 1) := by decide +kernel
theorem d_LN_setOrder_34 : decode b_LN_setOrder 34 = .ok (.getfield 21, 3) := by decide +kernel
theorem d_LN_setOrder_37 : decode b_LN_setOrder 37 = .ok (.iconst 1, 1) := by decide +kernel
theorem d_LN_setOrder_38 : decode b_LN_setOrder 38 = .ok (.iadd, 1) := by decide +kernel
theorem d_LN_setOrder_39 : decode b_LN_setOrder 39 = .ok (.putfield 21, 3) := by decide +kernel
theorem d_LN_setOrder_42 : decode b_LN_setOrder 42 = .ok (.iinc 3 1, 3) := by decide +kernel
theorem d_LN_setOrder_45 : decode b_LN_setOrder 45 = .ok (.goto (-38), 3) := by decide +kernel
theorem d_LN_setOrder_48 : decode b_LN_setOrder 48 = .ok (.return_, 1) := by decide +kernel
theorem d_LN_turnRows_0 : decode b_LN_turnRows 0 = .ok (.iconst (-1), 1) := by decide +kernel
theorem d_LN_turnRows_1 : decode b_LN_turnRows 1 = .ok (.istore_n 1, 1) := by decide +kernel
theorem d_LN_turnRows_2 : decode b_LN_turnRows 2 = .ok (.bipush 127, 2) := by decide +kernel
theorem d_LN_turnRows_4 : decode b_LN_turnRows 4 = .ok (.istore_n 2, 1) := by decide +kernel
theorem d_LN_turnRows_5 : decode b_LN_turnRows 5 = .ok (.iconst 0, 1) := by decide +kernel
theorem d_LN_turnRows_6 : decode b_LN_turnRows 6 = .ok (.istore_n 3, 1) := by decide +kernel
theorem d_LN_turnRows_7 : decode b_LN_turnRows 7 = .ok (.iload_n 3, 1) := by decide +kernel
theorem d_LN_turnRows_8 : decode b_LN_turnRows 8 = .ok (.aload_n 0, 1) := by decide +kernel
theorem d_LN_turnRows_9 : decode b_LN_turnRows 9 = .ok (.getfield 21, 3) := by decide +kernel
theorem d_LN_turnRows_12 : decode b_LN_turnRows 12 = .ok (.if_icmp .ge 44, 3) := by decide +kernel
theorem d_LN_turnRows_15 : decode b_LN_turnRows 15 = .ok (.aload_n 0, 1) := by decide +kernel
theorem d_LN_turnRows_16 : decode b_LN_turnRows 16 = .ok (.getfield 15, 3) := by decide +kernel
theorem d_LN_turnRows_19 : decode b_LN_turnRows 19 = .ok (.aload_n 0, 1) := by decide +kernel
theorem d_LN_turnRows_20 : decode b_LN_turnRows 20 = .ok (.getfield 9, 3) := by decide +kernel
theorem d_LN_turnRows_23 : decode b_LN_turnRows 23 = .ok (.iload_n 3, 1) := by decide +kernel
theorem d_LN_turnRows_24 : decode b_LN_turnRows 24 = .ok (.iaload, 1) := by decide +kernel
theorem d_LN_turnRows_25 : decode b_LN_turnRows 25 = .ok (.iaload, 1) := by decide +kernel
theorem d_LN_turnRows_26 : decode b_LN_turnRows 26 = .ok (.istore 4, 2) := by decide +kernel
theorem d_LN_turnRows_28 : decode b_LN_turnRows 28 = .ok (.iload_n 1, 1) := by decide +kernel
theorem d_LN_turnRows_29 : decode b_LN_turnRows 29 = .ok (.iload 4, 2) := by decide +kernel
theorem d_LN_turnRows_31 : decode b_LN_turnRows 31 = .ok (.invokestatic 53, 3) := by decide +kernel
theorem d_LN_turnRows_34 : decode b_LN_turnRows 34 = .ok (.istore_n 1, 1) := by decide +kernel
theorem d_LN_turnRows_35 : decode b_LN_turnRows 35 = .ok (.iload 4, 2) := by decide +kernel
theorem d_LN_turnRows_37 : decode b_LN_turnRows 37 = .ok (.invokestatic 59, 3) := by decide +kernel
theorem d_LN_turnRows_40 : decode b_LN_turnRows 40 = .ok (.ifCond .eq 10, 3) := by decide +kernel
theorem d_LN_turnRows_43 : decode b_LN_turnRows 43 = .ok (.iload_n 2, 1) := by decide +kernel
theorem d_LN_turnRows_44 : decode b_LN_turnRows 44 = .ok (.iload 4, 2) := by decide +kernel
theorem d_LN_turnRows_46 : decode b_LN_turnRows 46 = .ok (.invokestatic 62, 3) := by decide +kernel
theorem d_LN_turnRows_49 : decode b_LN_turnRows 49 = .ok (.istore_n 2, 1) := by decide +kernel
theorem d_LN_turnRows_50 : decode b_LN_turnRows 50 = .ok (.iinc 3 1, 3) := by decide +kernel
theorem d_LN_turnRows_53 : decode b_LN_turnRows 53 = .ok (.goto (-46), 3) := by decide +kernel
theorem d_LN_turnRows_56 : decode b_LN_turnRows 56 = .ok (.iload_n 1, 1) := by decide +kernel
theorem d_LN_turnRows_57 : decode b_LN_turnRows 57 = .ok (.istore_n 3, 1) := by decide +kernel
theorem d_LN_turnRows_58 : decode b_LN_turnRows 58 = .ok (.iload_n 3, 1) := by decide +kernel
theorem d_LN_turnRows_59 : decode b_LN_turnRows 59 = .ok (.iload_n 2, 1) := by decide +kernel
theorem d_LN_turnRows_60 : decode b_LN_turnRows 60 = .ok (.if_icmp .lt 14, 3) := by decide +kernel
theorem d_LN_turnRows_63 : decode b_LN_turnRows 63 = .ok (.aload_n 0, 1) := by decide +kernel
theorem d_LN_turnRows_64 : decode b_LN_turnRows 64 = .ok (.iload_n 3, 1) := by decide +kernel
theorem d_LN_turnRows_65 : decode b_LN_turnRows 65 = .ok (.invokevirtual 65, 3) := by decide +kernel
theorem d_LN_turnRows_68 : decode b_LN_turnRows 68 = .ok (.iinc 3 (-1), 3) := by decide +kernel
theorem d_LN_turnRows_71 : decode b_LN_turnRows 71 = .ok (.goto (-13), 3) := by decide +kernel
theorem d_LN_turnRows_74 : decode b_LN_turnRows 74 = .ok (.return_, 1) := by decide +kernel
theorem d_LN_turnRowsFrom_0 : decode b_LN_turnRowsFrom 0 = .ok (.iconst 0, 1) := by decide +kernel
theorem d_LN_turnRowsFrom_1 : decode b_LN_turnRowsFrom 1 = .ok (.istore_n 2, 1) := by decide +kernel
theorem d_LN_turnRowsFrom_2 : decode b_LN_turnRowsFrom 2 = .ok (.iconst 0, 1) := by decide +kernel
theorem d_LN_turnRowsFrom_3 : decode b_LN_turnRowsFrom 3 = .ok (.istore_n 3, 1) := by decide +kernel
theorem d_LN_turnRowsFrom_4 : decode b_LN_turnRowsFrom 4 = .ok (.iload_n 3, 1) := by decide +kernel
theorem d_LN_turnRowsFrom_5 : decode b_LN_turnRowsFrom 5 = .ok (.aload_n 0, 1) := by decide +kernel
theorem d_LN_turnRowsFrom_6 : decode b_LN_turnRowsFrom 6 = .ok (.getfield 21, 3) := by decide +kernel
theorem d_LN_turnRowsFrom_9 : decode b_LN_turnRowsFrom 9 = .ok (.if_icmp .gt 44, 3) := by decide +kernel
theorem d_LN_turnRowsFrom_12 : decode b_LN_turnRowsFrom 12 = .ok (.iload_n 3, 1) := by decide +kernel
theorem d_LN_turnRowsFrom_13 : decode b_LN_turnRowsFrom 13 = .ok (.aload_n 0, 1) := by decide +kernel
theorem d_LN_turnRowsFrom_14 : decode b_LN_turnRowsFrom 14 = .ok (.getfield 21, 3) := by decide +kernel
theorem d_LN_turnRowsFrom_17 : decode b_LN_turnRowsFrom 17 = .ok (.if_icmp .eq 18, 3) := by decide +kernel
theorem d_LN_turnRowsFrom_20 : decode b_LN_turnRowsFrom 20 = .ok (.aload_n 0, 1) := by decide +kernel
theorem d_LN_turnRowsFrom_21 : decode b_LN_turnRowsFrom 21 = .ok (.getfield 15, 3) := by decide +kernel
theorem d_LN_turnRowsFrom_24 : decode b_LN_turnRowsFrom 24 = .ok (.aload_n 0, 1) := by decide +kernel
theorem d_LN_turnRowsFrom_25 : decode b_LN_turnRowsFrom 25 = .ok (.getfield 9, 3) := by decide +kernel
theorem d_LN_turnRowsFrom_28 : decode b_LN_turnRowsFrom 28 = .ok (.iload_n 3, 1) := by decide +kernel
theorem d_LN_turnRowsFrom_29 : decode b_LN_turnRowsFrom 29 = .ok (.iaload, 1) := by decide +kernel
theorem d_LN_turnRowsFrom_30 : decode b_LN_turnRowsFrom 30 = .ok (.iaload, 1) := by decide +kernel
theorem d_LN_turnRowsFrom_31 : decode b_LN_turnRowsFrom 31 = .ok (.iload_n 1, 1) := by decide +kernel
theorem d_LN_turnRowsFrom_32 : decode b_LN_turnRowsFrom 32 = .ok (.if_icmp .ge 15, 3) := by decide +kernel
theorem d_LN_turnRowsFrom_35 : decode b_LN_turnRowsFrom 35 = .ok (.aload_n 0, 1) := by decide +kernel
theorem d_LN_turnRowsFrom_36 : decode b_LN_turnRowsFrom 36 = .ok (.iload_n 2, 1) := by decide +kernel
theorem d_LN_turnRowsFrom_37 : decode b_LN_turnRowsFrom 37 = .ok (.iload_n 3, 1) := by decide +kernel
theorem d_LN_turnRowsFrom_38 : decode b_LN_turnRowsFrom 38 = .ok (.iconst 1, 1) := by decide +kernel
theorem d_LN_turnRowsFrom_39 : decode b_LN_turnRowsFrom 39 = .ok (.isub, 1) := by decide +kernel
theorem d_LN_turnRowsFrom_40 : decode b_LN_turnRowsFrom 40 = .ok (.invokevirtual 69, 3) := by decide +kernel
theorem d_LN_turnRowsFrom_43 : decode b_LN_turnRowsFrom 43 = .ok (.iload_n 3, 1) := by decide +kernel
theorem d_LN_turnRowsFrom_44 : decode b_LN_turnRowsFrom 44 = .ok (.iconst 1, 1) := by decide +kernel
theorem d_LN_turnRowsFrom_45 : decode b_LN_turnRowsFrom 45 = .ok (.iadd, 1) := by decide +kernel
theorem d_LN_turnRowsFrom_46 : decode b_LN_turnRowsFrom 46 = .ok (.istore_n 2, 1) := by decide +kernel
theorem d_LN_turnRowsFrom_47 : decode b_LN_turnRowsFrom 47 = .ok (.iinc 3 1, 3) := by decide +kernel
theorem d_LN_turnRowsFrom_50 : decode b_LN_turnRowsFrom 50 = .ok (.goto (-46), 3) := by decide +kernel
theorem d_LN_turnRowsFrom_53 : decode b_LN_turnRowsFrom 53 = .ok (.return_, 1) := by decide +kernel
theorem d_LN_turn_0 : decode b_LN_turn 0 = .ok (.iload_n 1, 1) := by decide +kernel
theorem d_LN_turn_1 : decode b_LN_turn 1 = .ok (.istore_n 3, 1) := by decide +kernel
theorem d_LN_turn_2 : decode b_LN_turn 2 = .ok (.iload_n 2, 1) := by decide +kernel
theorem d_LN_turn_3 : decode b_LN_turn 3 = .ok (.istore 4, 2) := by decide +kernel
theorem d_LN_turn_5 : decode b_LN_turn 5 = .ok (.iload_n 3, 1) := by decide +kernel
theorem d_LN_turn_6 : decode b_LN_turn 6 = .ok (.iload 4, 2) := by decide +kernel
theorem d_LN_turn_8 : decode b_LN_turn 8 = .ok (.if_icmp .ge 42, 3) := by decide +kernel
theorem d_LN_turn_11 : decode b_LN_turn 11 = .ok (.aload_n 0, 1) := by decide +kernel
theorem d_LN_turn_12 : decode b_LN_turn 12 = .ok (.getfield 9, 3) := by decide +kernel
theorem d_LN_turn_15 : decode b_LN_turn 15 = .ok (.iload_n 3, 1) := by decide +kernel
theorem d_LN_turn_16 : decode b_LN_turn 16 = .ok (.iaload, 1) := by decide +kernel
theorem d_LN_turn_17 : decode b_LN_turn 17 = .ok (.istore 5, 2) := by decide +kernel
theorem d_LN_turn_19 : decode b_LN_turn 19 = .ok (.aload_n 0, 1) := by decide +kernel
theorem d_LN_turn_20 : decode b_LN_turn 20 = .ok (.getfield 9, 3) := by decide +kernel
theorem d_LN_turn_23 : decode b_LN_turn 23 = .ok (.iload_n 3, 1) := by decide +kernel
theorem d_LN_turn_24 : decode b_LN_turn 24 = .ok (.aload_n 0, 1) := by decide +kernel
theorem d_LN_turn_25 : decode b_LN_turn 25 = .ok (.getfield 9, 3) := by decide +kernel
theorem d_LN_turn_28 : decode b_LN_turn 28 = .ok (.iload 4, 2) := by decide +kernel
theorem d_LN_turn_30 : decode b_LN_turn 30 = .ok (.iaload, 1) := by decide +kernel
theorem d_LN_turn_31 : decode b_LN_turn 31 = .ok (.iastore, 1) := by decide +kernel
theorem d_LN_turn_32 : decode b_LN_turn 32 = .ok (.aload_n 0, 1) := by decide +kernel
theorem d_LN_turn_33 : decode b_LN_turn 33 = .ok (.getfield 9, 3) := by decide +kernel
theorem d_LN_turn_36 : decode b_LN_turn 36 = .ok (.iload 4, 2) := by decide +kernel
theorem d_LN_turn_38 : decode b_LN_turn 38 = .ok (.iload 5, 2) := by decide +kernel
theorem d_LN_turn_40 : decode b_LN_turn 40 = .ok (.iastore, 1) := by decide +kernel
theorem d_LN_turn_41 : decode b_LN_turn 41 = .ok (.iinc 3 1, 3) := by decide +kernel
theorem d_LN_turn_44 : decode b_LN_turn 44 = .ok (.iinc 4 (-1), 3) := by decide +kernel
theorem d_LN_turn_47 : decode b_LN_turn 47 = .ok (.goto (-42), 3) := by decide +kernel
theorem d_LN_turn_50 : decode b_LN_turn 50 = .ok (.return_, 1) := by decide +kernel
theorem d_LN_setPlaces_0 : decode b_LN_setPlaces 0 = .ok (.iconst 0, 1) := by decide +kernel
theorem d_LN_setPlaces_1 : decode b_LN_setPlaces 1 = .ok (.istore_n 1, 1) := by decide +kernel
theorem d_LN_setPlaces_2 : decode b_LN_setPlaces 2 = .ok (.iload_n 1, 1) := by decide +kernel
theorem d_LN_setPlaces_3 : decode b_LN_setPlaces 3 = .ok (.aload_n 0, 1) := by decide +kernel
theorem d_LN_setPlaces_4 : decode b_LN_setPlaces 4 = .ok (.getfield 25, 3) := by decide +kernel
theorem d_LN_setPlaces_7 : decode b_LN_setPlaces 7 = .ok (.getfield 72, 3) := by decide +kernel
theorem d_LN_setPlaces_10 : decode b_LN_setPlaces 10 = .ok (.if_icmp .ge 16, 3) := by decide +kernel
theorem d_LN_setPlaces_13 : decode b_LN_setPlaces 13 = .ok (.aload_n 0, 1) := by decide +kernel
theorem d_LN_setPlaces_14 : decode b_LN_setPlaces 14 = .ok (.getfield 18, 3) := by decide +kernel
theorem d_LN_setPlaces_17 : decode b_LN_setPlaces 17 = .ok (.iload_n 1, 1) := by decide +kernel
theorem d_LN_setPlaces_18 : decode b_LN_setPlaces 18 = .ok (.iconst (-1), 1) := by decide +kernel
theorem d_LN_setPlaces_19 : decode b_LN_setPlaces 19 = .ok (.iastore, 1) := by decide +kernel
theorem d_LN_setPlaces_20 : decode b_LN_setPlaces 20 = .ok (.iinc 1 1, 3) := by decide +kernel
theorem d_LN_setPlaces_23 : decode b_LN_setPlaces 23 = .ok (.goto (-21), 3) := by decide +kernel
theorem d_LN_setPlaces_26 : decode b_LN_setPlaces 26 = .ok (.iconst 0, 1) := by decide +kernel
theorem d_LN_setPlaces_27 : decode b_LN_setPlaces 27 = .ok (.istore_n 1, 1) := by decide +kernel
theorem d_LN_setPlaces_28 : decode b_LN_setPlaces 28 = .ok (.iload_n 1, 1) := by decide +kernel
theorem d_LN_setPlaces_29 : decode b_LN_setPlaces 29 = .ok (.aload_n 0, 1) := by decide +kernel
theorem d_LN_setPlaces_30 : decode b_LN_setPlaces 30 = .ok (.getfield 21, 3) := by decide +kernel
theorem d_LN_setPlaces_33 : decode b_LN_setPlaces 33 = .ok (.if_icmp .ge 21, 3) := by decide +kernel
theorem d_LN_setPlaces_36 : decode b_LN_setPlaces 36 = .ok (.aload_n 0, 1) := by decide +kernel
theorem d_LN_setPlaces_37 : decode b_LN_setPlaces 37 = .ok (.getfield 18, 3) := by decide +kernel
theorem d_LN_setPlaces_40 : decode b_LN_setPlaces 40 = .ok (.aload_n 0, 1) := by decide +kernel
theorem d_LN_setPlaces_41 : decode b_LN_setPlaces 41 = .ok (.getfield 9, 3) := by decide +kernel
theorem d_LN_setPlaces_44 : decode b_LN_setPlaces 44 = .ok (.iload_n 1, 1) := by decide +kernel
theorem d_LN_setPlaces_45 : decode b_LN_setPlaces 45 = .ok (.iaload, 1) := by decide +kernel
theorem d_LN_setPlaces_46 : decode b_LN_setPlaces 46 = .ok (.iload_n 1, 1) := by decide +kernel
theorem d_LN_setPlaces_47 : decode b_LN_setPlaces 47 = .ok (.iastore, 1) := by decide +kernel
theorem d_LN_setPlaces_48 : decode b_LN_setPlaces 48 = .ok (.iinc 1 1, 3) := by decide +kernel
theorem d_LN_setPlaces_51 : decode b_LN_setPlaces 51 = .ok (.goto (-23), 3) := by decide +kernel
theorem d_LN_setPlaces_54 : decode b_LN_setPlaces 54 = .ok (.return_, 1) := by decide +kernel
theorem d_RS_init_0 : decode b_RS_init 0 = .ok (.aload_n 0, 1) := by decide +kernel
theorem d_RS_init_1 : decode b_RS_init 1 = .ok (.invokespecial 3, 3) := by decide +kernel
theorem d_RS_init_4 : decode b_RS_init 4 = .ok (.aload_n 0, 1) := by decide +kernel
theorem d_RS_init_5 : decode b_RS_init 5 = .ok (.sipush 2000, 3) := by decide +kernel
theorem d_RS_init_8 : decode b_RS_init 8 = .ok (.newarray .int, 2) := by decide +kernel
theorem d_RS_init_10 : decode b_RS_init 10 = .ok (.putfield 9, 3) := by decide +kernel
theorem d_RS_init_13 : decode b_RS_init 13 = .ok (.aload_n 0, 1) := by decide +kernel
theorem d_RS_init_14 : decode b_RS_init 14 = .ok (.sipush 2000, 3) := by decide +kernel
theorem d_RS_init_17 : decode b_RS_init 17 = .ok (.newarray .int, 2) := by decide +kernel
theorem d_RS_init_19 : decode b_RS_init 19 = .ok (.putfield 15, 3) := by decide +kernel
theorem d_RS_init_22 : decode b_RS_init 22 = .ok (.aload_n 0, 1) := by decide +kernel
theorem d_RS_init_23 : decode b_RS_init 23 = .ok (.sipush 2000, 3) := by decide +kernel
theorem d_RS_init_26 : decode b_RS_init 26 = .ok (.newarray .int, 2) := by decide +kernel
theorem d_RS_init_28 : decode b_RS_init 28 = .ok (.putfield 18, 3) := by decide +kernel
theorem d_RS_init_31 : decode b_RS_init 31 = .ok (.aload_n 0, 1) := by decide +kernel
theorem d_RS_init_32 : decode b_RS_init 32 = .ok (.sipush 2000, 3) := by decide +kernel
theorem d_RS_init_35 : decode b_RS_init 35 = .ok (.newarray .int, 2) := by decide +kernel
theorem d_RS_init_37 : decode b_RS_init 37 = .ok (.putfield 21, 3) := by decide +kernel
theorem d_RS_init_40 : decode b_RS_init 40 = .ok (.aload_n 0, 1) := by decide +kernel
theorem d_RS_init_41 : decode b_RS_init 41 = .ok (.iconst 0, 1) := by decide +kernel
theorem d_RS_init_42 : decode b_RS_init 42 = .ok (.putfield 24, 3) := by decide +kernel
theorem d_RS_init_45 : decode b_RS_init 45 = .ok (.aload_n 0, 1) := by decide +kernel
theorem d_RS_init_46 : decode b_RS_init 46 = .ok (.aload_n 1, 1) := by decide +kernel
theorem d_RS_init_47 : decode b_RS_init 47 = .ok (.putfield 28, 3) := by decide +kernel
theorem d_RS_init_50 : decode b_RS_init 50 = .ok (.aload_n 0, 1) := by decide +kernel
theorem d_RS_init_51 : decode b_RS_init 51 = .ok (.new 32, 3) := by decide +kernel
theorem d_RS_init_54 : decode b_RS_init 54 = .ok (.dup, 1) := by decide +kernel
theorem d_RS_init_55 : decode b_RS_init 55 = .ok (.aload_n 1, 1) := by decide +kernel
theorem d_RS_init_56 : decode b_RS_init 56 = .ok (.invokespecial 34, 3) := by decide +kernel
theorem d_RS_init_59 : decode b_RS_init 59 = .ok (.putfield 37, 3) := by decide +kernel
theorem d_RS_init_62 : decode b_RS_init 62 = .ok (.aload_n 0, 1) := by decide +kernel
theorem d_RS_init_63 : decode b_RS_init 63 = .ok (.new 41, 3) := by decide +kernel
theorem d_RS_init_66 : decode b_RS_init 66 = .ok (.dup, 1) := by decide +kernel
theorem d_RS_init_67 : decode b_RS_init 67 = .ok (.aload_n 1, 1) := by decide +kernel
theorem d_RS_init_68 : decode b_RS_init 68 = .ok (.aload_n 0, 1) := by decide +kernel
theorem d_RS_init_69 : decode b_RS_init 69 = .ok (.getfield 37, 3) := by decide +kernel
theorem d_RS_init_72 : decode b_RS_init 72 = .ok (.invokespecial 43, 3) := by decide +kernel
theorem d_RS_init_75 : decode b_RS_init 75 = .ok (.putfield 46, 3) := by decide +kernel
theorem d_RS_init_78 : decode b_RS_init 78 = .ok (.aload_n 0, 1) := by decide +kernel
theorem d_RS_init_79 : decode b_RS_init 79 = .ok (.new 50, 3) := by decide +kernel
theorem d_RS_init_82 : decode b_RS_init 82 = .ok (.dup, 1) := by decide +kernel
theorem d_RS_init_83 : decode b_RS_init 83 = .ok (.aload_n 1, 1) := by decide +kernel
theorem d_RS_init_84 : decode b_RS_init 84 = .ok (.invokespecial 52, 3) := by decide +kernel
theorem d_RS_init_87 : decode b_RS_init 87 = .ok (.putfield 53, 3) := by decide +kernel
theorem d_RS_init_90 : decode b_RS_init 90 = .ok (.aload_n 0, 1) := by decide +kernel
theorem d_RS_init_91 : decode b_RS_init 91 = .ok (.new 57, 3) := by decide +kernel
theorem d_RS_init_94 : decode b_RS_init 94 = .ok (.dup, 1) := by decide +kernel
theorem d_RS_init_95 : decode b_RS_init 95 = .ok (.aload_n 1, 1) := by decide +kernel
theorem d_RS_init_96 : decode b_RS_init 96 = .ok (.invokespecial 59, 3) := by decide +kernel
theorem d_RS_init_99 : decode b_RS_init 99 = .ok (.putfield 60, 3) := by decide +kernel
theorem d_RS_init_102 : decode b_RS_init 102 = .ok (.aload_n 0, 1) := by decide +kernel
theorem d_RS_init_103 : decode b_RS_init 103 = .ok (.new 64, 3) := by decide +kernel
theorem d_RS_init_106 : decode b_RS_init 106 = .ok (.dup, 1) := by decide +kernel
theorem d_RS_init_107 : decode b_RS_init 107 = .ok (.aload_n 1, 1) := by decide +kernel
theorem d_RS_init_108 : decode b_RS_init 108 = .ok (.aload_n 0, 1) := by decide +kernel
theorem d_RS_init_109 : decode b_RS_init 109 = .ok (.getfield 60, 3) := by decide +kernel
theorem d_RS_init_112 : decode b_RS_init 112 = .ok (.invokespecial 66, 3) := by decide +kernel
theorem d_RS_init_115 : decode b_RS_init 115 = .ok (.putfield 69, 3) := by decide +kernel
theorem d_RS_init_118 : decode b_RS_init 118 = .ok (.aload_n 0, 1) := by decide +kernel
theorem d_RS_init_119 : decode b_RS_init 119 = .ok (.new 73, 3) := by decide +kernel
theorem d_RS_init_122 : decode b_RS_init 122 = .ok (.dup, 1) := by decide +kernel
theorem d_RS_init_123 : decode b_RS_init 123 = .ok (.aload_n 1, 1) := by decide +kernel
theorem d_RS_init_124 : decode b_RS_init 124 = .ok (.aload_n 0, 1) := by decide +kernel
theorem d_RS_init_125 : decode b_RS_init 125 = .ok (.getfield 60, 3) := by decide +kernel
theorem d_RS_init_128 : decode b_RS_init 128 = .ok (.aload_n 2, 1) := by decide +kernel
theorem d_RS_init_129 : decode b_RS_init 129 = .ok (.invokespecial 75, 3) := by decide +kernel
theorem d_RS_init_132 : decode b_RS_init 132 = .ok (.putfield 78, 3) := by decide +kernel
theorem d_RS_init_135 : decode b_RS_init 135 = .ok (.return_, 1) := by decide +kernel
theorem d_RS_resolveText_0 : decode b_RS_resolveText 0 = .ok (.aload_n 0, 1) := by decide +kernel
theorem d_RS_resolveText_1 : decode b_RS_resolveText 1 = .ok (.invokevirtual 82, 3) := by decide +kernel
theorem d_RS_resolveText_4 : decode b_RS_resolveText 4 = .ok (.iconst 0, 1) := by decide +kernel
theorem d_RS_resolveText_5 : decode b_RS_resolveText 5 = .ok (.istore_n 2, 1) := by decide +kernel
theorem d_RS_resolveText_6 : decode b_RS_resolveText 6 = .ok (.iload_n 2, 1) := by decide +kernel
theorem d_RS_resolveText_7 : decode b_RS_resolveText 7 = .ok (.aload_n 0, 1) := by decide +kernel
theorem d_RS_resolveText_8 : decode b_RS_resolveText 8 = .ok (.getfield 24, 3) := by decide +kernel
theorem d_RS_resolveText_11 : decode b_RS_resolveText 11 = .ok (.if_icmp .ge 108, 3) := by decide +kernel
theorem d_RS_resolveText_14 : decode b_RS_resolveText 14 = .ok (.aload_n 0, 1) := by decide +kernel
theorem d_RS_resolveText_15 : decode b_RS_resolveText 15 = .ok (.getfield 9, 3) := by decide +kernel
theorem d_RS_resolveText_18 : decode b_RS_resolveText 18 = .ok (.iload_n 2, 1) := by decide +kernel
theorem d_RS_resolveText_19 : decode b_RS_resolveText 19 = .ok (.iaload, 1) := by decide +kernel
theorem d_RS_resolveText_20 : decode b_RS_resolveText 20 = .ok (.istore_n 3, 1) := by decide +kernel
theorem d_RS_resolveText_21 : decode b_RS_resolveText 21 = .ok (.aload_n 0, 1) := by decide +kernel
theorem d_RS_resolveText_22 : decode b_RS_resolveText 22 = .ok (.getfield 15, 3) := by decide +kernel
theorem d_RS_resolveText_25 : decode b_RS_resolveText 25 = .ok (.iload_n 2, 1) := by decide +kernel
theorem d_RS_resolveText_26 : decode b_RS_resolveText 26 = .ok (.iaload, 1) := by decide +kernel
theorem d_RS_resolveText_27 : decode b_RS_resolveText 27 = .ok (.istore 4, 2) := by decide +kernel
theorem d_RS_resolveText_29 : decode b_RS_resolveText 29 = .ok (.aload_n 0, 1) := by decide +kernel
theorem d_RS_resolveText_30 : decode b_RS_resolveText 30 = .ok (.getfield 37, 3) := by decide +kernel
theorem d_RS_resolveText_33 : decode b_RS_resolveText 33 = .ok (.iload_n 3, 1) := by decide +kernel
theorem d_RS_resolveText_34 : decode b_RS_resolveText 34 = .ok (.iload 4, 2) := by decide +kernel
theorem d_RS_resolveText_36 : decode b_RS_resolveText 36 = .ok (.invokevirtual 85, 3) := by decide +kernel
theorem d_RS_resolveText_39 : decode b_RS_resolveText 39 = .ok (.aload_n 0, 1) := by decide +kernel
theorem d_RS_resolveText_40 : decode b_RS_resolveText 40 = .ok (.getfield 18, 3) := by decide +kernel
theorem d_RS_resolveText_43 : decode b_RS_resolveText 43 = .ok (.iload_n 2, 1) := by decide +kernel
theorem d_RS_resolveText_44 : decode b_RS_resolveText 44 = .ok (.iload_n 1, 1) := by decide +kernel
theorem d_RS_resolveText_45 : decode b_RS_resolveText 45 = .ok (.iconst 2, 1) := by decide +kernel
theorem d_RS_resolveText_46 : decode b_RS_resolveText 46 = .ok (.if_icmp .ne 16, 3) := by decide +kernel
theorem d_RS_resolveText_49 : decode b_RS_resolveText 49 = .ok (.aload_n 0, 1) := by decide +kernel
theorem d_RS_resolveText_50 : decode b_RS_resolveText 50 = .ok (.getfield 37, 3) := by decide +kernel
theorem d_RS_resolveText_53 : decode b_RS_resolveText 53 = .ok (.iload_n 3, 1) := by decide +kernel
theorem d_RS_resolveText_54 : decode b_RS_resolveText 54 = .ok (.iload 4, 2) := by decide +kernel
theorem d_RS_resolveText_56 : decode b_RS_resolveText 56 = .ok (.invokevirtual 89, 3) := by decide +kernel
theorem d_RS_resolveText_59 : decode b_RS_resolveText 59 = .ok (.goto 4, 3) := by decide +kernel
theorem d_RS_resolveText_62 : decode b_RS_resolveText 62 = .ok (.iload_n 1, 1) := by decide +kernel
theorem d_RS_resolveText_63 : decode b_RS_resolveText 63 = .ok (.iastore, 1) := by decide +kernel
theorem d_RS_resolveText_64 : decode b_RS_resolveText 64 = .ok (.aload_n 0, 1) := by decide +kernel
theorem d_RS_resolveText_65 : decode b_RS_resolveText 65 = .ok (.getfield 46, 3) := by decide +kernel
theorem d_RS_resolveText_68 : decode b_RS_resolveText 68 = .ok (.iload_n 3, 1) := by decide +kernel
theorem d_RS_resolveText_69 : decode b_RS_resolveText 69 = .ok (.iload 4, 2) := by decide +kernel
theorem d_RS_resolveText_71 : decode b_RS_resolveText 71 = .ok (.aload_n 0, 1) := by decide +kernel
theorem d_RS_resolveText_72 : decode b_RS_resolveText 72 = .ok (.getfield 18, 3) := by decide +kernel
theorem d_RS_resolveText_75 : decode b_RS_resolveText 75 = .ok (.iload_n 2, 1) := by decide +kernel
theorem d_RS_resolveText_76 : decode b_RS_resolveText 76 = .ok (.iaload, 1) := by decide +kernel
theorem d_RS_resolveText_77 : decode b_RS_resolveText 77 = .ok (.invokevirtual 93, 3) := by decide +kernel
theorem d_RS_resolveText_80 : decode b_RS_resolveText 80 = .ok (.aload_n 0, 1) := by decide +kernel
theorem d_RS_resolveText_81 : decode b_RS_resolveText 81 = .ok (.getfield 53, 3) := by decide +kernel
theorem d_RS_resolveText_84 : decode b_RS_resolveText 84 = .ok (.iload_n 3, 1) := by decide +kernel
theorem d_RS_resolveText_85 : decode b_RS_resolveText 85 = .ok (.iload 4, 2) := by decide +kernel
theorem d_RS_resolveText_87 : decode b_RS_resolveText 87 = .ok (.invokevirtual 97, 3) := by decide +kernel
theorem d_RS_resolveText_90 : decode b_RS_resolveText 90 = .ok (.aload_n 0, 1) := by decide +kernel
theorem d_RS_resolveText_91 : decode b_RS_resolveText 91 = .ok (.getfield 21, 3) := by decide +kernel
theorem d_RS_resolveText_94 : decode b_RS_resolveText 94 = .ok (.iload_n 2, 1) := by decide +kernel
theorem d_RS_resolveText_95 : decode b_RS_resolveText 95 = .ok (.aload_n 0, 1) := by decide +kernel
theorem d_RS_resolveText_96 : decode b_RS_resolveText 96 = .ok (.aload_n 0, 1) := by decide +kernel
theorem d_RS_resolveText_97 : decode b_RS_resolveText 97 = .ok (.getfield 18, 3) := by decide +kernel
theorem d_RS_resolveText_100 : decode b_RS_resolveText 100 = .ok (.iload_n 2, 1) := by decide +kernel
theorem d_RS_resolveText_101 : decode b_RS_resolveText 101 = .ok (.iaload, 1) := by decide +kernel
theorem d_RS_resolveText_102 : decode b_RS_resolveText 102 = .ok (.invokevirtual 100, 3) := by decide +kernel
theorem d_RS_resolveText_105 : decode b_RS_resolveText 105 = .ok (.iastore, 1) := by decide +kernel
theorem d_RS_resolveText_106 : decode b_RS_resolveText 106 = .ok (.aload_n 0, 1) := by decide +kernel
theorem d_RS_resolveText_107 : decode b_RS_resolveText 107 = .ok (.iload_n 3, 1) := by decide +kernel
theorem d_RS_resolveText_108 : decode b_RS_resolveText 108 = .ok (.iload 4, 2) := by decide +kernel
theorem d_RS_resolveText_110 : decode b_RS_resolveText 110 = .ok (.invokevirtual 104, 3) := by decide +kernel
theorem d_RS_resolveText_113 : decode b_RS_resolveText 113 = .ok (.iinc 2 1, 3) := by decide +kernel
theorem d_RS_resolveText_116 : decode b_RS_resolveText 116 = .ok (.goto (-110), 3) := by decide +kernel
theorem d_RS_resolveText_119 : decode b_RS_resolveText 119 = .ok (.return_, 1) := by decide +kernel
theorem d_RS_findParagraphs_0 : decode b_RS_findParagraphs 0 = .ok (.aload_n 0, 1) := by decide +kernel
theorem d_RS_findParagraphs_1 : decode b_RS_findParagraphs 1 = .ok (.iconst 0, 1) := by decide +kernel
theorem d_RS_findParagraphs_2 : decode b_RS_findParagraphs 2 = .ok (.putfield 24, 3) := by decide +kernel
theorem d_RS_findParagraphs_5 : decode b_RS_findParagraphs 5 = .ok (.iconst 0, 1) := by decide +kernel
theorem d_RS_findParagraphs_6 : decode b_RS_findParagraphs 6 = .ok (.istore_n 1, 1) := by decide +kernel
theorem d_RS_findParagraphs_7 : decode b_RS_findParagraphs 7 = .ok (.iconst 0, 1) := by decide +kernel
theorem d_RS_findParagraphs_8 : decode b_RS_findParagraphs 8 = .ok (.istore_n 2, 1) := by decide +kernel
theorem d_RS_findParagraphs_9 : decode b_RS_findParagraphs 9 = .ok (.iload_n 2, 1) := by decide +kernel
theorem d_RS_findParagraphs_10 : decode b_RS_findParagraphs 10 = .ok (.aload_n 0, 1) := by decide +kernel
theorem d_RS_findParagraphs_11 : decode b_RS_findParagraphs 11 = .ok (.getfield 28, 3) := by decide +kernel
theorem d_RS_findParagraphs_14 : decode b_RS_findParagraphs 14 = .ok (.getfield 107, 3) := by decide +kernel
theorem d_RS_findParagraphs_17 : decode b_RS_findParagraphs 17 = .ok (.if_icmp .ge 72, 3) := by decide +kernel
theorem d_RS_findParagraphs_20 : decode b_RS_findParagraphs 20 = .ok (.aload_n 0, 1) := by decide +kernel
theorem d_RS_findParagraphs_21 : decode b_RS_findParagraphs 21 = .ok (.getfield 28, 3) := by decide +kernel
theorem d_RS_findParagraphs_24 : decode b_RS_findParagraphs 24 = .ok (.getfield 112, 3) := by decide +kernel
theorem d_RS_findParagraphs_27 : decode b_RS_findParagraphs 27 = .ok (.iload_n 2, 1) := by decide +kernel
theorem d_RS_findParagraphs_28 : decode b_RS_findParagraphs 28 = .ok (.iaload, 1) := by decide +kernel
theorem d_RS_findParagraphs_29 : decode b_RS_findParagraphs 29 = .ok (.bipush 10, 2) := by decide +kernel
theorem d_RS_findParagraphs_31 : decode b_RS_findParagraphs 31 = .ok (.if_icmp .eq 16, 3) := by decide +kernel
theorem d_RS_findParagraphs_34 : decode b_RS_findParagraphs 34 = .ok (.iload_n 2, 1) := by decide +kernel
theorem d_RS_findParagraphs_35 : decode b_RS_findParagraphs 35 = .ok (.iconst 1, 1) := by decide +kernel
theorem d_RS_findParagraphs_36 : decode b_RS_findParagraphs 36 = .ok (.iadd, 1) := by decide +kernel
theorem d_RS_findParagraphs_37 : decode b_RS_findParagraphs 37 = .ok (.aload_n 0, 1) := by decide +kernel
theorem d_RS_findParagraphs_38 : decode b_RS_findParagraphs 38 = .ok (.getfield 28, 3) := by decide +kernel
theorem d_RS_findParagraphs_41 : decode b_RS_findParagraphs 41 = .ok (.getfield 107, 3) := by decide +kernel
theorem d_RS_findParagraphs_44 : decode b_RS_findParagraphs 44 = .ok (.if_icmp .ne 39, 3) := by decide +kernel
theorem d_RS_findParagraphs_47 : decode b_RS_findParagraphs 47 = .ok (.aload_n 0, 1) := by decide +kernel
theorem d_RS_findParagraphs_48 : decode b_RS_findParagraphs 48 = .ok (.getfield 9, 3) := by decide +kernel
theorem d_RS_findParagraphs_51 : decode b_RS_findParagraphs 51 = .ok (.aload_n 0, 1) := by decide +kernel
theorem d_RS_findParagraphs_52 : decode b_RS_findParagraphs 52 = .ok (.getfield 24, 3) := by decide +kernel
theorem d_RS_findParagraphs_55 : decode b_RS_findParagraphs 55 = .ok (.iload_n 1, 1) := by decide +kernel
theorem d_RS_findParagraphs_56 : decode b_RS_findParagraphs 56 = .ok (.iastore, 1) := by decide +kernel
theorem d_RS_findParagraphs_57 : decode b_RS_findParagraphs 57 = .ok (.aload_n 0, 1) := by decide +kernel
theorem d_RS_findParagraphs_58 : decode b_RS_findParagraphs 58 = .ok (.getfield 15, 3) := by decide +kernel
theorem d_RS_findParagraphs_61 : decode b_RS_findParagraphs 61 = .ok (.aload_n 0, 1) := by decide +kernel
theorem d_RS_findParagraphs_62 : decode b_RS_findParagraphs 62 = .ok (.getfield 24, 3) := by decide +kernel
theorem d_RS_findParagraphs_65 : decode b_RS_findParagraphs 65 = .ok (.iload_n 2, 1) := by decide +kernel
theorem d_RS_findParagraphs_66 : decode b_RS_findParagraphs 66 = .ok (.iconst 1, 1) := by decide +kernel
theorem d_RS_findParagraphs_67 : decode b_RS_findParagraphs 67 = .ok (.iadd, 1) := by decide +kernel
theorem d_RS_findParagraphs_68 : decode b_RS_findParagraphs 68 = .ok (.iastore, 1) := by decide +kernel
theorem d_RS_findParagraphs_69 : decode b_RS_findParagraphs 69 = .ok (.aload_n 0, 1) := by decide +kernel
theorem d_RS_findParagraphs_70 : decode b_RS_findParagraphs 70 = .ok (.dup, 1) := by decide +kernel
theorem d_RS_findParagraphs_71 : decode b_RS_findParagraphs 71 = .ok (.getfield 24, 3) := by decide +kernel
theorem d_RS_findParagraphs_74 : decode b_RS_findParagraphs 74 = .ok (.iconst 1, 1) := by decide +kernel
theorem d_RS_findParagraphs_75 : decode b_RS_findParagraphs 75 = .ok (.iadd, 1) := by decide +kernel
theorem d_RS_findParagraphs_76 : decode b_RS_findParagraphs 76 = .ok (.putfield 24, 3) := by decide +kernel
theorem d_RS_findParagraphs_79 : decode b_RS_findParagraphs 79 = .ok (.iload_n 2, 1) := by decide +kernel
theorem d_RS_findParagraphs_80 : decode b_RS_findParagraphs 80 = .ok (.iconst 1, 1) := by decide +kernel
theorem d_RS_findParagraphs_81 : decode b_RS_findParagraphs 81 = .ok (.iadd, 1) := by decide +kernel
theorem d_RS_findParagraphs_82 : decode b_RS_findParagraphs 82 = .ok (.istore_n 1, 1) := by decide +kernel
theorem d_RS_findParagraphs_83 : decode b_RS_findParagraphs 83 = .ok (.iinc 2 1, 3) := by decide +kernel
theorem d_RS_findParagraphs_86 : decode b_RS_findParagraphs 86 = .ok (.goto (-77), 3) := by decide +kernel
theorem d_RS_findParagraphs_89 : decode b_RS_findParagraphs 89 = .ok (.return_, 1) := by decide +kernel
theorem d_RS_paragraphWith_0 : decode b_RS_paragraphWith 0 = .ok (.iconst 0, 1) := by decide +kernel
theorem d_RS_paragraphWith_1 : decode b_RS_paragraphWith 1 = .ok (.istore_n 2, 1) := by decide +kernel
theorem d_RS_paragraphWith_2 : decode b_RS_paragraphWith 2 = .ok (.iload_n 2, 1) := by decide +kernel
theorem d_RS_paragraphWith_3 : decode b_RS_paragraphWith 3 = .ok (.aload_n 0, 1) := by decide +kernel
theorem d_RS_paragraphWith_4 : decode b_RS_paragraphWith 4 = .ok (.getfield 24, 3) := by decide +kernel
theorem d_RS_paragraphWith_7 : decode b_RS_paragraphWith 7 = .ok (.if_icmp .ge 21, 3) := by decide +kernel
theorem d_RS_paragraphWith_10 : decode b_RS_paragraphWith 10 = .ok (.iload_n 1, 1) := by decide +kernel
theorem d_RS_paragraphWith_11 : decode b_RS_paragraphWith 11 = .ok (.aload_n 0, 1) := by decide +kernel
theorem d_RS_paragraphWith_12 : decode b_RS_paragraphWith 12 = .ok (.getfield 15, 3) := by decide +kernel
theorem d_RS_paragraphWith_15 : decode b_RS_paragraphWith 15 = .ok (.iload_n 2, 1) := by decide +kernel
theorem d_RS_paragraphWith_16 : decode b_RS_paragraphWith 16 = .ok (.iaload, 1) := by decide +kernel
theorem d_RS_paragraphWith_17 : decode b_RS_paragraphWith 17 = .ok (.if_icmp .ge 5, 3) := by decide +kernel
theorem d_RS_paragraphWith_20 : decode b_RS_paragraphWith 20 = .ok (.iload_n 2, 1) := by decide +kernel
theorem d_RS_paragraphWith_21 : decode b_RS_paragraphWith 21 = .ok (.ireturn, 1) := by decide +kernel
theorem d_RS_paragraphWith_22 : decode b_RS_paragraphWith 22 = .ok (.iinc 2 1, 3) := by decide +kernel
theorem d_RS_paragraphWith_25 : decode b_RS_paragraphWith 25 = .ok (.goto (-23), 3) := by decide +kernel
theorem d_RS_paragraphWith_28 : decode b_RS_paragraphWith 28 = .ok (.iconst (-1), 1) := by decide +kernel
theorem d_RS_paragraphWith_29 : decode b_RS_paragraphWith 29 = .ok (.ireturn, 1) := by decide +kernel
theorem d_RS_resolveSequences_0 : decode b_RS_resolveSequences 0 = .ok (.iconst 0, 1) := by decide +kernel
theorem d_RS_resolveSequences_1 : decode b_RS_resolveSequences 1 = .ok (.istore_n 2, 1) := by decide +kernel
theorem d_RS_resolveSequences_2 : decode b_RS_resolveSequences 2 = .ok (.iconst 0, 1) := by decide +kernel
theorem d_RS_resolveSequences_3 : decode b_RS_resolveSequences 3 = .ok (.istore_n 3, 1) := by decide +kernel
theorem d_RS_resolveSequences_4 : decode b_RS_resolveSequences 4 = .ok (.iload_n 3, 1) := by decide +kernel
theorem d_RS_resolveSequences_5 : decode b_RS_resolveSequences 5 = .ok (.aload_n 0, 1) := by decide +kernel
theorem d_RS_resolveSequences_6 : decode b_RS_resolveSequences 6 = .ok (.getfield 53, 3) := by decide +kernel
theorem d_RS_resolveSequences_9 : decode b_RS_resolveSequences 9 = .ok (.getfield 115, 3) := by decide +kernel
theorem d_RS_resolveSequences_12 : decode b_RS_resolveSequences 12 = .ok (.if_icmp .ge 64, 3) := by decide +kernel
theorem d_RS_resolveSequences_15 : decode b_RS_resolveSequences 15 = .ok (.aload_n 0, 1) := by decide +kernel
theorem d_RS_resolveSequences_16 : decode b_RS_resolveSequences 16 = .ok (.getfield 53, 3) := by decide +kernel
theorem d_RS_resolveSequences_19 : decode b_RS_resolveSequences 19 = .ok (.iload_n 3, 1) := by decide +kernel
theorem d_RS_resolveSequences_20 : decode b_RS_resolveSequences 20 = .ok (.invokevirtual 116, 3) := by decide +kernel
theorem d_RS_resolveSequences_23 : decode b_RS_resolveSequences 23 = .ok (.ifCond .eq 47, 3) := by decide +kernel
theorem d_RS_resolveSequences_26 : decode b_RS_resolveSequences 26 = .ok (.aload_n 0, 1) := by decide +kernel
theorem d_RS_resolveSequences_27 : decode b_RS_resolveSequences 27 = .ok (.getfield 53, 3) := by decide +kernel
theorem d_RS_resolveSequences_30 : decode b_RS_resolveSequences 30 = .ok (.iload_n 3, 1) := by decide +kernel
theorem d_RS_resolveSequences_31 : decode b_RS_resolveSequences 31 = .ok (.iload_n 1, 1) := by decide +kernel
theorem d_RS_resolveSequences_32 : decode b_RS_resolveSequences 32 = .ok (.aload_n 0, 1) := by decide +kernel
theorem d_RS_resolveSequences_33 : decode b_RS_resolveSequences 33 = .ok (.getfield 60, 3) := by decide +kernel
theorem d_RS_resolveSequences_36 : decode b_RS_resolveSequences 36 = .ok (.invokevirtual 120, 3) := by decide +kernel
theorem d_RS_resolveSequences_39 : decode b_RS_resolveSequences 39 = .ok (.aload_n 0, 1) := by decide +kernel
theorem d_RS_resolveSequences_40 : decode b_RS_resolveSequences 40 = .ok (.getfield 69, 3) := by decide +kernel
theorem d_RS_resolveSequences_43 : decode b_RS_resolveSequences 43 = .ok (.invokevirtual 124, 3) := by decide +kernel
theorem d_RS_resolveSequences_46 : decode b_RS_resolveSequences 46 = .ok (.aload_n 0, 1) := by decide +kernel
theorem d_RS_resolveSequences_47 : decode b_RS_resolveSequences 47 = .ok (.getfield 78, 3) := by decide +kernel
theorem d_RS_resolveSequences_50 : decode b_RS_resolveSequences 50 = .ok (.invokevirtual 127, 3) := by decide +kernel
theorem d_RS_resolveSequences_53 : decode b_RS_resolveSequences 53 = .ok (.aload_n 0, 1) := by decide +kernel
theorem d_RS_resolveSequences_54 : decode b_RS_resolveSequences 54 = .ok (.getfield 60, 3) := by decide +kernel
theorem d_RS_resolveSequences_57 : decode b_RS_resolveSequences 57 = .ok (.invokevirtual 128, 3) := by decide +kernel
theorem d_RS_resolveSequences_60 : decode b_RS_resolveSequences 60 = .ok (.aload_n 0, 1) := by decide +kernel
theorem d_RS_resolveSequences_61 : decode b_RS_resolveSequences 61 = .ok (.getfield 60, 3) := by decide +kernel
theorem d_RS_resolveSequences_64 : decode b_RS_resolveSequences 64 = .ok (.invokevirtual 131, 3) := by decide +kernel
theorem d_RS_resolveSequences_67 : decode b_RS_resolveSequences 67 = .ok (.iinc 2 1, 3) := by decide +kernel
theorem d_RS_resolveSequences_70 : decode b_RS_resolveSequences 70 = .ok (.iinc 3 1, 3) := by decide +kernel
theorem d_RS_resolveSequences_73 : decode b_RS_resolveSequences 73 = .ok (.goto (-69), 3) := by decide +kernel
theorem d_RS_resolveSequences_76 : decode b_RS_resolveSequences 76 = .ok (.iload_n 2, 1) := by decide +kernel
theorem d_RS_resolveSequences_77 : decode b_RS_resolveSequences 77 = .ok (.ireturn, 1) := by decide +kernel
theorem d_RS_raiseLevels_0 : decode b_RS_raiseLevels 0 = .ok (.iload_n 1, 1) := by decide +kernel
theorem d_RS_raiseLevels_1 : decode b_RS_raiseLevels 1 = .ok (.istore_n 3, 1) := by decide +kernel
theorem d_RS_raiseLevels_2 : decode b_RS_raiseLevels 2 = .ok (.iload_n 3, 1) := by decide +kernel
theorem d_RS_raiseLevels_3 : decode b_RS_raiseLevels 3 = .ok (.iload_n 2, 1) := by decide +kernel
theorem d_RS_raiseLevels_4 : decode b_RS_raiseLevels 4 = .ok (.if_icmp .ge 55, 3) := by decide +kernel
theorem d_RS_raiseLevels_7 : decode b_RS_raiseLevels 7 = .ok (.aload_n 0, 1) := by decide +kernel
theorem d_RS_raiseLevels_8 : decode b_RS_raiseLevels 8 = .ok (.getfield 28, 3) := by decide +kernel
theorem d_RS_raiseLevels_11 : decode b_RS_raiseLevels 11 = .ok (.getfield 134, 3) := by decide +kernel
theorem d_RS_raiseLevels_14 : decode b_RS_raiseLevels 14 = .ok (.iload_n 3, 1) := by decide +kernel
theorem d_RS_raiseLevels_15 : decode b_RS_raiseLevels 15 = .ok (.iaload, 1) := by decide +kernel
theorem d_RS_raiseLevels_16 : decode b_RS_raiseLevels 16 = .ok (.iconst (-1), 1) := by decide +kernel
theorem d_RS_raiseLevels_17 : decode b_RS_raiseLevels 17 = .ok (.if_icmp .eq 36, 3) := by decide +kernel
theorem d_RS_raiseLevels_20 : decode b_RS_raiseLevels 20 = .ok (.aload_n 0, 1) := by decide +kernel
theorem d_RS_raiseLevels_21 : decode b_RS_raiseLevels 21 = .ok (.getfield 28, 3) := by decide +kernel
theorem d_RS_raiseLevels_24 : decode b_RS_raiseLevels 24 = .ok (.getfield 134, 3) := by decide +kernel
theorem d_RS_raiseLevels_27 : decode b_RS_raiseLevels 27 = .ok (.iload_n 3, 1) := by decide +kernel
theorem d_RS_raiseLevels_28 : decode b_RS_raiseLevels 28 = .ok (.dup2, 1) := by decide +kernel
theorem d_RS_raiseLevels_29 : decode b_RS_raiseLevels 29 = .ok (.iaload, 1) := by decide +kernel
theorem d_RS_raiseLevels_30 : decode b_RS_raiseLevels 30 = .ok (.aload_n 0, 1) := by decide +kernel
theorem d_RS_raiseLevels_31 : decode b_RS_raiseLevels 31 = .ok (.getfield 28, 3) := by decide +kernel
theorem d_RS_raiseLevels_34 : decode b_RS_raiseLevels 34 = .ok (.getfield 134, 3) := by decide +kernel
theorem d_RS_raiseLevels_37 : decode b_RS_raiseLevels 37 = .ok (.iload_n 3, 1) := by decide +kernel
theorem d_RS_raiseLevels_38 : decode b_RS_raiseLevels 38 = .ok (.iaload, 1) := by decide +kernel
theorem d_RS_raiseLevels_39 : decode b_RS_raiseLevels 39 = .ok (.aload_n 0, 1) := by decide +kernel
theorem d_RS_raiseLevels_40 : decode b_RS_raiseLevels 40 = .ok (.getfield 28, 3) := by decide +kernel
theorem d_RS_raiseLevels_43 : decode b_RS_raiseLevels 43 = .ok (.getfield 137, 3) := by decide +kernel
theorem d_RS_raiseLevels_46 : decode b_RS_raiseLevels 46 = .ok (.iload_n 3, 1) := by decide +kernel
theorem d_RS_raiseLevels_47 : decode b_RS_raiseLevels 47 = .ok (.iaload, 1) := by decide +kernel
theorem d_RS_raiseLevels_48 : decode b_RS_raiseLevels 48 = .ok (.invokestatic 140, 3) := by decide +kernel
theorem d_RS_raiseLevels_51 : decode b_RS_raiseLevels 51 = .ok (.iadd, 1) := by decide +kernel
theorem d_RS_raiseLevels_52 : decode b_RS_raiseLevels 52 = .ok (.iastore, 1) := by decide +kernel
theorem d_RS_raiseLevels_53 : decode b_RS_raiseLevels 53 = .ok (.iinc 3 1, 3) := by decide +kernel
theorem d_RS_raiseLevels_56 : decode b_RS_raiseLevels 56 = .ok (.goto (-54), 3) := by decide +kernel
theorem d_RS_raiseLevels_59 : decode b_RS_raiseLevels 59 = .ok (.return_, 1) := by decide +kernel
theorem d_RS_raiseOf_0 : decode b_RS_raiseOf 0 = .ok (.iload_n 1, 1) := by decide +kernel
theorem d_RS_raiseOf_1 : decode b_RS_raiseOf 1 = .ok (.iconst 3, 1) := by decide +kernel
theorem d_RS_raiseOf_2 : decode b_RS_raiseOf 2 = .ok (.if_icmp .eq 9, 3) := by decide +kernel
theorem d_RS_raiseOf_5 : decode b_RS_raiseOf 5 = .ok (.iload_n 1, 1) := by decide +kernel
theorem d_RS_raiseOf_6 : decode b_RS_raiseOf 6 = .ok (.bipush 6, 2) := by decide +kernel
theorem d_RS_raiseOf_8 : decode b_RS_raiseOf 8 = .ok (.if_icmp .ne 7, 3) := by decide +kernel
theorem d_RS_raiseOf_11 : decode b_RS_raiseOf 11 = .ok (.iconst 1, 1) := by decide +kernel
theorem d_RS_raiseOf_12 : decode b_RS_raiseOf 12 = .ok (.goto 4, 3) := by decide +kernel
theorem d_RS_raiseOf_15 : decode b_RS_raiseOf 15 = .ok (.iconst 0, 1) := by decide +kernel
theorem d_RS_raiseOf_16 : decode b_RS_raiseOf 16 = .ok (.istore_n 2, 1) := by decide +kernel
theorem d_RS_raiseOf_17 : decode b_RS_raiseOf 17 = .ok (.iload_n 0, 1) := by decide +kernel
theorem d_RS_raiseOf_18 : decode b_RS_raiseOf 18 = .ok (.invokestatic 143, 3) := by decide +kernel
theorem d_RS_raiseOf_21 : decode b_RS_raiseOf 21 = .ok (.ifCond .eq 17, 3) := by decide +kernel
theorem d_RS_raiseOf_24 : decode b_RS_raiseOf 24 = .ok (.iload_n 1, 1) := by decide +kernel
theorem d_RS_raiseOf_25 : decode b_RS_raiseOf 25 = .ok (.ifCond .eq 7, 3) := by decide +kernel
theorem d_RS_raiseOf_28 : decode b_RS_raiseOf 28 = .ok (.iload_n 2, 1) := by decide +kernel
theorem d_RS_raiseOf_29 : decode b_RS_raiseOf 29 = .ok (.ifCond .eq 7, 3) := by decide +kernel
theorem d_RS_raiseOf_32 : decode b_RS_raiseOf 32 = .ok (.iconst 1, 1) := by decide +kernel
theorem d_RS_raiseOf_33 : decode b_RS_raiseOf 33 = .ok (.goto 4, 3) := by decide +kernel
theorem d_RS_raiseOf_36 : decode b_RS_raiseOf 36 = .ok (.iconst 0, 1) := by decide +kernel
theorem d_RS_raiseOf_37 : decode b_RS_raiseOf 37 = .ok (.ireturn, 1) := by decide +kernel
theorem d_RS_raiseOf_38 : decode b_RS_raiseOf 38 = .ok (.iload_n 2, 1) := by decide +kernel
theorem d_RS_raiseOf_39 : decode b_RS_raiseOf 39 = .ok (.ifCond .eq 5, 3) := by decide +kernel
theorem d_RS_raiseOf_42 : decode b_RS_raiseOf 42 = .ok (.iconst 2, 1) := by decide +kernel
theorem d_RS_raiseOf_43 : decode b_RS_raiseOf 43 = .ok (.ireturn, 1) := by decide +kernel
theorem d_RS_raiseOf_44 : decode b_RS_raiseOf 44 = .ok (.iload_n 1, 1) := by decide +kernel
theorem d_RS_raiseOf_45 : decode b_RS_raiseOf 45 = .ok (.iconst 1, 1) := by decide +kernel
theorem d_RS_raiseOf_46 : decode b_RS_raiseOf 46 = .ok (.if_icmp .ne 7, 3) := by decide +kernel
theorem d_RS_raiseOf_49 : decode b_RS_raiseOf 49 = .ok (.iconst 1, 1) := by decide +kernel
theorem d_RS_raiseOf_50 : decode b_RS_raiseOf 50 = .ok (.goto 4, 3) := by decide +kernel
theorem d_RS_raiseOf_53 : decode b_RS_raiseOf 53 = .ok (.iconst 0, 1) := by decide +kernel
theorem d_RS_raiseOf_54 : decode b_RS_raiseOf 54 = .ok (.ireturn, 1) := by decide +kernel
theorem d_BL_init_0 : decode b_BL_init 0 = .ok (.aload_n 0, 1) := by decide +kernel
theorem d_BL_init_1 : decode b_BL_init 1 = .ok (.invokespecial 3, 3) := by decide +kernel
theorem d_BL_init_4 : decode b_BL_init 4 = .ok (.aload_n 0, 1) := by decide +kernel
theorem d_BL_init_5 : decode b_BL_init 5 = .ok (.new 9, 3) := by decide +kernel
theorem d_BL_init_8 : decode b_BL_init 8 = .ok (.dup, 1) := by decide +kernel
theorem d_BL_init_9 : decode b_BL_init 9 = .ok (.invokespecial 11, 3) := by decide +kernel
theorem d_BL_init_12 : decode b_BL_init 12 = .ok (.putfield 12, 3) := by decide +kernel
theorem d_BL_init_15 : decode b_BL_init 15 = .ok (.aload_n 0, 1) := by decide +kernel
theorem d_BL_init_16 : decode b_BL_init 16 = .ok (.new 16, 3) := by decide +kernel
theorem d_BL_init_19 : decode b_BL_init 19 = .ok (.dup, 1) := by decide +kernel
theorem d_BL_init_20 : decode b_BL_init 20 = .ok (.invokespecial 18, 3) := by decide +kernel
theorem d_BL_init_23 : decode b_BL_init 23 = .ok (.putfield 19, 3) := by decide +kernel
theorem d_BL_init_26 : decode b_BL_init 26 = .ok (.aload_n 0, 1) := by decide +kernel
theorem d_BL_init_27 : decode b_BL_init 27 = .ok (.new 16, 3) := by decide +kernel
theorem d_BL_init_30 : decode b_BL_init 30 = .ok (.dup, 1) := by decide +kernel
theorem d_BL_init_31 : decode b_BL_init 31 = .ok (.invokespecial 18, 3) := by decide +kernel
theorem d_BL_init_34 : decode b_BL_init 34 = .ok (.putfield 23, 3) := by decide +kernel
theorem d_BL_init_37 : decode b_BL_init 37 = .ok (.aload_n 0, 1) := by decide +kernel
theorem d_BL_init_38 : decode b_BL_init 38 = .ok (.new 26, 3) := by decide +kernel
theorem d_BL_init_41 : decode b_BL_init 41 = .ok (.dup, 1) := by decide +kernel
theorem d_BL_init_42 : decode b_BL_init 42 = .ok (.aload_n 0, 1) := by decide +kernel
theorem d_BL_init_43 : decode b_BL_init 43 = .ok (.getfield 12, 3) := by decide +kernel
theorem d_BL_init_46 : decode b_BL_init 46 = .ok (.aload_n 0, 1) := by decide +kernel
theorem d_BL_init_47 : decode b_BL_init 47 = .ok (.getfield 19, 3) := by decide +kernel
theorem d_BL_init_50 : decode b_BL_init 50 = .ok (.invokespecial 28, 3) := by decide +kernel
theorem d_BL_init_53 : decode b_BL_init 53 = .ok (.putfield 31, 3) := by decide +kernel
theorem d_BL_init_56 : decode b_BL_init 56 = .ok (.aload_n 0, 1) := by decide +kernel
theorem d_BL_init_57 : decode b_BL_init 57 = .ok (.new 35, 3) := by decide +kernel
theorem d_BL_init_60 : decode b_BL_init 60 = .ok (.dup, 1) := by decide +kernel
theorem d_BL_init_61 : decode b_BL_init 61 = .ok (.aload_n 0, 1) := by decide +kernel
theorem d_BL_init_62 : decode b_BL_init 62 = .ok (.getfield 12, 3) := by decide +kernel
theorem d_BL_init_65 : decode b_BL_init 65 = .ok (.invokespecial 37, 3) := by decide +kernel
theorem d_BL_init_68 : decode b_BL_init 68 = .ok (.putfield 40, 3) := by decide +kernel
theorem d_BL_init_71 : decode b_BL_init 71 = .ok (.aload_n 0, 1) := by decide +kernel
theorem d_BL_init_72 : decode b_BL_init 72 = .ok (.iconst 0, 1) := by decide +kernel
theorem d_BL_init_73 : decode b_BL_init 73 = .ok (.putfield 44, 3) := by decide +kernel
theorem d_BL_init_76 : decode b_BL_init 76 = .ok (.aload_n 0, 1) := by decide +kernel
theorem d_BL_init_77 : decode b_BL_init 77 = .ok (.iconst 0, 1) := by decide +kernel
theorem d_BL_init_78 : decode b_BL_init 78 = .ok (.putfield 48, 3) := by decide +kernel
theorem d_BL_init_81 : decode b_BL_init 81 = .ok (.return_, 1) := by decide +kernel
theorem d_BL_property_0 : decode b_BL_property 0 = .ok (.iload_n 1, 1) := by decide +kernel
theorem d_BL_property_1 : decode b_BL_property 1 = .ok (.invokestatic 51, 3) := by decide +kernel
theorem d_BL_property_4 : decode b_BL_property 4 = .ok (.ifCond .eq 15, 3) := by decide +kernel
theorem d_BL_property_7 : decode b_BL_property 7 = .ok (.iload_n 2, 1) := by decide +kernel
theorem d_BL_property_8 : decode b_BL_property 8 = .ok (.invokestatic 51, 3) := by decide +kernel
theorem d_BL_property_11 : decode b_BL_property 11 = .ok (.ifCond .eq 8, 3) := by decide +kernel
theorem d_BL_property_14 : decode b_BL_property 14 = .ok (.iload_n 1, 1) := by decide +kernel
theorem d_BL_property_15 : decode b_BL_property 15 = .ok (.iload_n 2, 1) := by decide +kernel
theorem d_BL_property_16 : decode b_BL_property 16 = .ok (.if_icmp .le 13, 3) := by decide +kernel
theorem d_BL_property_19 : decode b_BL_property 19 = .ok (.new 55, 3) := by decide +kernel
theorem d_BL_property_22 : decode b_BL_property 22 = .ok (.dup, 1) := by decide +kernel
theorem d_BL_property_23 : decode b_BL_property 23 = .ok (.ldc 57, 2) := by decide +kernel
theorem d_BL_property_25 : decode b_BL_property 25 = .ok (.invokespecial 59, 3) := by decide +kernel
theorem d_BL_property_28 : decode b_BL_property 28 = .ok (.athrow, 1) := by decide +kernel
theorem d_BL_property_29 : decode b_BL_property 29 = .ok (.iload_n 3, 1) := by decide +kernel
theorem d_BL_property_30 : decode b_BL_property 30 = .ok (.ifCond .lt 9, 3) := by decide +kernel
theorem d_BL_property_33 : decode b_BL_property 33 = .ok (.iload_n 3, 1) := by decide +kernel
theorem d_BL_property_34 : decode b_BL_property 34 = .ok (.bipush 22, 2) := by decide +kernel
theorem d_BL_property_36 : decode b_BL_property 36 = .ok (.if_icmp .le 13, 3) := by decide +kernel
theorem d_BL_property_39 : decode b_BL_property 39 = .ok (.new 55, 3) := by decide +kernel
theorem d_BL_property_42 : decode b_BL_property 42 = .ok (.dup, 1) := by decide +kernel
theorem d_BL_property_43 : decode b_BL_property 43 = .ok (.ldc 62, 2) := by decide +kernel
theorem d_BL_property_45 : decode b_BL_property 45 = .ok (.invokespecial 59, 3) := by decide +kernel
theorem d_BL_property_48 : decode b_BL_property 48 = .ok (.athrow, 1) := by decide +kernel
theorem d_BL_property_49 : decode b_BL_property 49 = .ok (.aload_n 0, 1) := by decide +kernel
theorem d_BL_property_50 : decode b_BL_property 50 = .ok (.getfield 12, 3) := by decide +kernel
theorem d_BL_property_53 : decode b_BL_property 53 = .ok (.getfield 64, 3) := by decide +kernel
theorem d_BL_property_56 : decode b_BL_property 56 = .ok (.bipush 100, 2) := by decide +kernel
theorem d_BL_property_58 : decode b_BL_property 58 = .ok (.if_icmp .lt 13, 3) := by decide +kernel
theorem d_BL_property_61 : decode b_BL_property 61 = .ok (.new 68, 3) := by decide +kernel
theorem d_BL_property_64 : decode b_BL_property 64 = .ok (.dup, 1) := by decide +kernel
theorem d_BL_property_65 : decode b_BL_property 65 = .ok (.ldc 70, 2) := by decide +kernel
theorem d_BL_property_67 : decode b_BL_property 67 = .ok (.invokespecial 72, 3) := by decide +kernel
theorem d_BL_property_70 : decode b_BL_property 70 = .ok (.athrow, 1) := by decide +kernel
theorem d_BL_property_71 : decode b_BL_property 71 = .ok (.aload_n 0, 1) := by decide +kernel
theorem d_BL_property_72 : decode b_BL_property 72 = .ok (.getfield 12, 3) := by decide +kernel
theorem d_BL_property_75 : decode b_BL_property 75 = .ok (.iload_n 1, 1) := by decide +kernel
theorem d_BL_property_76 : decode b_BL_property 76 = .ok (.iload_n 2, 1) := by decide +kernel
theorem d_BL_property_77 : decode b_BL_property 77 = .ok (.iload_n 3, 1) := by decide +kernel
theorem d_BL_property_78 : decode b_BL_property 78 = .ok (.invokevirtual 73, 3) := by decide +kernel
theorem d_BL_property_81 : decode b_BL_property 81 = .ok (.aload_n 0, 1) := by decide +kernel
theorem d_BL_property_82 : decode b_BL_property 82 = .ok (.invokevirtual 77, 3) := by decide +kernel
theorem d_BL_property_85 : decode b_BL_property 85 = .ok (.return_, 1) := by decide +kernel
theorem d_BL_bracket_0 : decode b_BL_bracket 0 = .ok (.aload_n 0, 1) := by decide +kernel
theorem d_BL_bracket_1 : decode b_BL_bracket 1 = .ok (.aload_n 0, 1) := by decide +kernel
theorem d_BL_bracket_2 : decode b_BL_bracket 2 = .ok (.getfield 19, 3) := by decide +kernel
theorem d_BL_bracket_5 : decode b_BL_bracket 5 = .ok (.iload_n 1, 1) := by decide +kernel
theorem d_BL_bracket_6 : decode b_BL_bracket 6 = .ok (.iload_n 2, 1) := by decide +kernel
theorem d_BL_bracket_7 : decode b_BL_bracket 7 = .ok (.invokevirtual 80, 3) := by decide +kernel
theorem d_BL_bracket_10 : decode b_BL_bracket 10 = .ok (.return_, 1) := by decide +kernel
theorem d_BL_mirror_0 : decode b_BL_mirror 0 = .ok (.aload_n 0, 1) := by decide +kernel
theorem d_BL_mirror_1 : decode b_BL_mirror 1 = .ok (.aload_n 0, 1) := by decide +kernel
theorem d_BL_mirror_2 : decode b_BL_mirror 2 = .ok (.getfield 23, 3) := by decide +kernel
theorem d_BL_mirror_5 : decode b_BL_mirror 5 = .ok (.iload_n 1, 1) := by decide +kernel
theorem d_BL_mirror_6 : decode b_BL_mirror 6 = .ok (.iload_n 2, 1) := by decide +kernel
theorem d_BL_mirror_7 : decode b_BL_mirror 7 = .ok (.invokevirtual 80, 3) := by decide +kernel
theorem d_BL_mirror_10 : decode b_BL_mirror 10 = .ok (.return_, 1) := by decide +kernel
theorem d_BL_add_0 : decode b_BL_add 0 = .ok (.iconst 5, 1) := by decide +kernel
theorem d_BL_add_1 : decode b_BL_add 1 = .ok (.newarray .int, 2) := by decide +kernel
theorem d_BL_add_3 : decode b_BL_add 3 = .ok (.dup, 1) := by decide +kernel
theorem d_BL_add_4 : decode b_BL_add 4 = .ok (.iconst 0, 1) := by decide +kernel
theorem d_BL_add_5 : decode b_BL_add 5 = .ok (.iload_n 1, 1) := by decide +kernel
theorem d_BL_add_6 : decode b_BL_add 6 = .ok (.iastore, 1) := by decide +kernel
theorem d_BL_add_7 : decode b_BL_add 7 = .ok (.dup, 1) := by decide +kernel
theorem d_BL_add_8 : decode b_BL_add 8 = .ok (.iconst 1, 1) := by decide +kernel
theorem d_BL_add_9 : decode b_BL_add 9 = .ok (.iload_n 2, 1) := by decide +kernel
theorem d_BL_add_10 : decode b_BL_add 10 = .ok (.iastore, 1) := by decide +kernel
theorem d_BL_add_11 : decode b_BL_add 11 = .ok (.dup, 1) := by decide +kernel
theorem d_BL_add_12 : decode b_BL_add 12 = .ok (.iconst 2, 1) := by decide +kernel
theorem d_BL_add_13 : decode b_BL_add 13 = .ok (.iload_n 3, 1) := by decide +kernel
theorem d_BL_add_14 : decode b_BL_add 14 = .ok (.iastore, 1) := by decide +kernel
theorem d_BL_add_15 : decode b_BL_add 15 = .ok (.dup, 1) := by decide +kernel
theorem d_BL_add_16 : decode b_BL_add 16 = .ok (.iconst 3, 1) := by decide +kernel
theorem d_BL_add_17 : decode b_BL_add 17 = .ok (.iload 4, 2) := by decide +kernel
theorem d_BL_add_19 : decode b_BL_add 19 = .ok (.iastore, 1) := by decide +kernel
theorem d_BL_add_20 : decode b_BL_add 20 = .ok (.dup, 1) := by decide +kernel
theorem d_BL_add_21 : decode b_BL_add 21 = .ok (.iconst 4, 1) := by decide +kernel
theorem d_BL_add_22 : decode b_BL_add 22 = .ok (.iload 5, 2) := by decide +kernel
theorem d_BL_add_24 : decode b_BL_add 24 = .ok (.iastore, 1) := by decide +kernel
theorem d_BL_add_25 : decode b_BL_add 25 = .ok (.astore 6, 2) := by decide +kernel
theorem d_BL_add_27 : decode b_BL_add 27 = .ok (.iconst 0, 1) := by decide +kernel
theorem d_BL_add_28 : decode b_BL_add 28 = .ok (.istore 7, 2) := by decide +kernel
theorem d_BL_add_30 : decode b_BL_add 30 = .ok (.iload 7, 2) := by decide +kernel
theorem d_BL_add_32 : decode b_BL_add 32 = .ok (.aload 6, 2) := by decide +kernel
theorem d_BL_add_34 : decode b_BL_add 34 = .ok (.arraylength, 1) := by decide +kernel
theorem d_BL_add_35 : decode b_BL_add 35 = .ok (.if_icmp .ge 39, 3) := by decide +kernel
theorem d_BL_add_38 : decode b_BL_add 38 = .ok (.aload 6, 2) := by decide +kernel
theorem d_BL_add_40 : decode b_BL_add 40 = .ok (.iload 7, 2) := by decide +kernel
theorem d_BL_add_42 : decode b_BL_add 42 = .ok (.iaload, 1) := by decide +kernel
theorem d_BL_add_43 : decode b_BL_add 43 = .ok (.iconst (-1), 1) := by decide +kernel
theorem d_BL_add_44 : decode b_BL_add 44 = .ok (.if_icmp .eq 30, 3) := by decide +kernel
theorem d_BL_add_47 : decode b_BL_add 47 = .ok (.aload 6, 2) := by decide +kernel
theorem d_BL_add_49 : decode b_BL_add 49 = .ok (.iload 7, 2) := by decide +kernel
theorem d_BL_add_51 : decode b_BL_add 51 = .ok (.iaload, 1) := by decide +kernel
theorem d_BL_add_52 : decode b_BL_add 52 = .ok (.invokestatic 51, 3) := by decide +kernel
theorem d_BL_add_55 : decode b_BL_add 55 = .ok (.ifCond .ne 13, 3) := by decide +kernel
theorem d_BL_add_58 : decode b_BL_add 58 = .ok (.new 55, 3) := by decide +kernel
theorem d_BL_add_61 : decode b_BL_add 61 = .ok (.dup, 1) := by decide +kernel
theorem d_BL_add_62 : decode b_BL_add 62 = .ok (.ldc 84, 2) := by decide +kernel
theorem d_BL_add_64 : decode b_BL_add 64 = .ok (.invokespecial 59, 3) := by decide +kernel
theorem d_BL_add_67 : decode b_BL_add 67 = .ok (.athrow, 1) := by decide +kernel
theorem d_BL_add_68 : decode b_BL_add 68 = .ok (.iinc 7 1, 3) := by decide +kernel
theorem d_BL_add_71 : decode b_BL_add 71 = .ok (.goto (-41), 3) := by decide +kernel
theorem d_BL_add_74 : decode b_BL_add 74 = .ok (.aload_n 0, 1) := by decide +kernel
theorem d_BL_add_75 : decode b_BL_add 75 = .ok (.getfield 12, 3) := by decide +kernel
theorem d_BL_add_78 : decode b_BL_add 78 = .ok (.getfield 86, 3) := by decide +kernel
theorem d_BL_add_81 : decode b_BL_add 81 = .ok (.iload 7, 2) := by decide +kernel
theorem d_BL_add_83 : decode b_BL_add 83 = .ok (.iadd, 1) := by decide +kernel
theorem d_BL_add_84 : decode b_BL_add 84 = .ok (.sipush 2000, 3) := by decide +kernel
theorem d_BL_add_87 : decode b_BL_add 87 = .ok (.if_icmp .le 13, 3) := by decide +kernel
theorem d_BL_add_90 : decode b_BL_add 90 = .ok (.new 68, 3) := by decide +kernel
theorem d_BL_add_93 : decode b_BL_add 93 = .ok (.dup, 1) := by decide +kernel
theorem d_BL_add_94 : decode b_BL_add 94 = .ok (.ldc 89, 2) := by decide +kernel
theorem d_BL_add_96 : decode b_BL_add 96 = .ok (.invokespecial 72, 3) := by decide +kernel
theorem d_BL_add_99 : decode b_BL_add 99 = .ok (.athrow, 1) := by decide +kernel
theorem d_BL_add_100 : decode b_BL_add 100 = .ok (.iconst 0, 1) := by decide +kernel
theorem d_BL_add_101 : decode b_BL_add 101 = .ok (.istore 8, 2) := by decide +kernel
theorem d_BL_add_103 : decode b_BL_add 103 = .ok (.iload 8, 2) := by decide +kernel
theorem d_BL_add_105 : decode b_BL_add 105 = .ok (.iload 7, 2) := by decide +kernel
theorem d_BL_add_107 : decode b_BL_add 107 = .ok (.if_icmp .ge 21, 3) := by decide +kernel
theorem d_BL_add_110 : decode b_BL_add 110 = .ok (.aload_n 0, 1) := by decide +kernel
theorem d_BL_add_111 : decode b_BL_add 111 = .ok (.getfield 12, 3) := by decide +kernel
theorem d_BL_add_114 : decode b_BL_add 114 = .ok (.aload 6, 2) := by decide +kernel
theorem d_BL_add_116 : decode b_BL_add 116 = .ok (.iload 8, 2) := by decide +kernel
theorem d_BL_add_118 : decode b_BL_add 118 = .ok (.iaload, 1) := by decide +kernel
theorem d_BL_add_119 : decode b_BL_add 119 = .ok (.invokevirtual 91, 3) := by decide +kernel
theorem d_BL_add_122 : decode b_BL_add 122 = .ok (.iinc 8 1, 3) := by decide +kernel
theorem d_BL_add_125 : decode b_BL_add 125 = .ok (.goto (-22), 3) := by decide +kernel
theorem d_BL_add_128 : decode b_BL_add 128 = .ok (.aload_n 0, 1) := by decide +kernel
theorem d_BL_add_129 : decode b_BL_add 129 = .ok (.invokevirtual 77, 3) := by decide +kernel
theorem d_BL_add_132 : decode b_BL_add 132 = .ok (.aload_n 0, 1) := by decide +kernel
theorem d_BL_add_133 : decode b_BL_add 133 = .ok (.getfield 12, 3) := by decide +kernel
theorem d_BL_add_136 : decode b_BL_add 136 = .ok (.getfield 86, 3) := by decide +kernel
theorem d_BL_add_139 : decode b_BL_add 139 = .ok (.ireturn, 1) := by decide +kernel
theorem d_BL_clear_0 : decode b_BL_clear 0 = .ok (.aload_n 0, 1) := by decide +kernel
theorem d_BL_clear_1 : decode b_BL_clear 1 = .ok (.getfield 12, 3) := by decide +kernel
theorem d_BL_clear_4 : decode b_BL_clear 4 = .ok (.getfield 86, 3) := by decide +kernel
theorem d_BL_clear_7 : decode b_BL_clear 7 = .ok (.istore_n 1, 1) := by decide +kernel
theorem d_BL_clear_8 : decode b_BL_clear 8 = .ok (.aload_n 0, 1) := by decide +kernel
theorem d_BL_clear_9 : decode b_BL_clear 9 = .ok (.getfield 12, 3) := by decide +kernel
theorem d_BL_clear_12 : decode b_BL_clear 12 = .ok (.iconst 0, 1) := by decide +kernel
theorem d_BL_clear_13 : decode b_BL_clear 13 = .ok (.putfield 86, 3) := by decide +kernel
theorem d_BL_clear_16 : decode b_BL_clear 16 = .ok (.aload_n 0, 1) := by decide +kernel
theorem d_BL_clear_17 : decode b_BL_clear 17 = .ok (.invokevirtual 77, 3) := by decide +kernel
theorem d_BL_clear_20 : decode b_BL_clear 20 = .ok (.iload_n 1, 1) := by decide +kernel
theorem d_BL_clear_21 : decode b_BL_clear 21 = .ok (.ireturn, 1) := by decide +kernel
theorem d_BL_resolve_0 : decode b_BL_resolve 0 = .ok (.iload_n 1, 1) := by decide +kernel
theorem d_BL_resolve_1 : decode b_BL_resolve 1 = .ok (.ifCond .lt 8, 3) := by decide +kernel
theorem d_BL_resolve_4 : decode b_BL_resolve 4 = .ok (.iload_n 1, 1) := by decide +kernel
theorem d_BL_resolve_5 : decode b_BL_resolve 5 = .ok (.iconst 2, 1) := by decide +kernel
theorem d_BL_resolve_6 : decode b_BL_resolve 6 = .ok (.if_icmp .le 13, 3) := by decide +kernel
theorem d_BL_resolve_9 : decode b_BL_resolve 9 = .ok (.new 55, 3) := by decide +kernel
theorem d_BL_resolve_12 : decode b_BL_resolve 12 = .ok (.dup, 1) := by decide +kernel
theorem d_BL_resolve_13 : decode b_BL_resolve 13 = .ok (.ldc 95, 2) := by decide +kernel
theorem d_BL_resolve_15 : decode b_BL_resolve 15 = .ok (.invokespecial 59, 3) := by decide +kernel
theorem d_BL_resolve_18 : decode b_BL_resolve 18 = .ok (.athrow, 1) := by decide +kernel
theorem d_BL_resolve_19 : decode b_BL_resolve 19 = .ok (.aload_n 0, 1) := by decide +kernel
theorem d_BL_resolve_20 : decode b_BL_resolve 20 = .ok (.getfield 31, 3) := by decide +kernel
theorem d_BL_resolve_23 : decode b_BL_resolve 23 = .ok (.iload_n 1, 1) := by decide +kernel
theorem d_BL_resolve_24 : decode b_BL_resolve 24 = .ok (.invokevirtual 97, 3) := by decide +kernel
theorem d_BL_resolve_27 : decode b_BL_resolve 27 = .ok (.aload_n 0, 1) := by decide +kernel
theorem d_BL_resolve_28 : decode b_BL_resolve 28 = .ok (.iconst 1, 1) := by decide +kernel
theorem d_BL_resolve_29 : decode b_BL_resolve 29 = .ok (.putfield 44, 3) := by decide +kernel
theorem d_BL_resolve_32 : decode b_BL_resolve 32 = .ok (.aload_n 0, 1) := by decide +kernel
theorem d_BL_resolve_33 : decode b_BL_resolve 33 = .ok (.iconst 0, 1) := by decide +kernel
theorem d_BL_resolve_34 : decode b_BL_resolve 34 = .ok (.putfield 48, 3) := by decide +kernel
theorem d_BL_resolve_37 : decode b_BL_resolve 37 = .ok (.aload_n 0, 1) := by decide +kernel
theorem d_BL_resolve_38 : decode b_BL_resolve 38 = .ok (.getfield 31, 3) := by decide +kernel
theorem d_BL_resolve_41 : decode b_BL_resolve 41 = .ok (.getfield 100, 3) := by decide +kernel
theorem d_BL_resolve_44 : decode b_BL_resolve 44 = .ok (.ireturn, 1) := by decide +kernel
theorem d_BL_paragraph_0 : decode b_BL_paragraph 0 = .ok (.aload_n 0, 1) := by decide +kernel
theorem d_BL_paragraph_1 : decode b_BL_paragraph 1 = .ok (.invokevirtual 103, 3) := by decide +kernel
theorem d_BL_paragraph_4 : decode b_BL_paragraph 4 = .ok (.iload_n 1, 1) := by decide +kernel
theorem d_BL_paragraph_5 : decode b_BL_paragraph 5 = .ok (.ifCond .lt 14, 3) := by decide +kernel
theorem d_BL_paragraph_8 : decode b_BL_paragraph 8 = .ok (.iload_n 1, 1) := by decide +kernel
theorem d_BL_paragraph_9 : decode b_BL_paragraph 9 = .ok (.aload_n 0, 1) := by decide +kernel
theorem d_BL_paragraph_10 : decode b_BL_paragraph 10 = .ok (.getfield 31, 3) := by decide +kernel
theorem d_BL_paragraph_13 : decode b_BL_paragraph 13 = .ok (.getfield 100, 3) := by decide +kernel
theorem d_BL_paragraph_16 : decode b_BL_paragraph 16 = .ok (.if_icmp .lt 13, 3) := by decide +kernel
theorem d_BL_paragraph_19 : decode b_BL_paragraph 19 = .ok (.new 106, 3) := by decide +kernel
theorem d_BL_paragraph_22 : decode b_BL_paragraph 22 = .ok (.dup, 1) := by decide +kernel
theorem d_BL_paragraph_23 : decode b_BL_paragraph 23 = .ok (.ldc 108, 2) := by decide +kernel
theorem d_BL_paragraph_25 : decode b_BL_paragraph 25 = .ok (.invokespecial 110, 3) := by decide +kernel
theorem d_BL_paragraph_28 : decode b_BL_paragraph 28 = .ok (.athrow, 1) := by decide +kernel
theorem d_BL_paragraph_29 : decode b_BL_paragraph 29 = .ok (.iload_n 2, 1) := by decide +kernel
theorem d_BL_paragraph_30 : decode b_BL_paragraph 30 = .ok (.tableswitch 70 0 3 #[30, 40, 50, 60], 30) := by decide +kernel
theorem d_BL_paragraph_60 : decode b_BL_paragraph 60 = .ok (.aload_n 0, 1) := by decide +kernel
theorem d_BL_paragraph_61 : decode b_BL_paragraph 61 = .ok (.getfield 31, 3) := by decide +kernel
theorem d_BL_paragraph_64 : decode b_BL_paragraph 64 = .ok (.getfield 111, 3) := by decide +kernel
theorem d_BL_paragraph_67 : decode b_BL_paragraph 67 = .ok (.iload_n 1, 1) := by decide +kernel
theorem d_BL_paragraph_68 : decode b_BL_paragraph 68 = .ok (.iaload, 1) := by decide +kernel
theorem d_BL_paragraph_69 : decode b_BL_paragraph 69 = .ok (.ireturn, 1) := by decide +kernel
theorem d_BL_paragraph_70 : decode b_BL_paragraph 70 = .ok (.aload_n 0, 1) := by decide +kernel
theorem d_BL_paragraph_71 : decode b_BL_paragraph 71 = .ok (.getfield 31, 3) := by decide +kernel
theorem d_BL_paragraph_74 : decode b_BL_paragraph 74 = .ok (.getfield 115, 3) := by decide +kernel
theorem d_BL_paragraph_77 : decode b_BL_paragraph 77 = .ok (.iload_n 1, 1) := by decide +kernel
theorem d_BL_paragraph_78 : decode b_BL_paragraph 78 = .ok (.iaload, 1) := by decide +kernel
theorem d_BL_paragraph_79 : decode b_BL_paragraph 79 = .ok (.ireturn, 1) := by decide +kernel
theorem d_BL_paragraph_80 : decode b_BL_paragraph 80 = .ok (.aload_n 0, 1) := by decide +kernel
theorem d_BL_paragraph_81 : decode b_BL_paragraph 81 = .ok (.getfield 31, 3) := by decide +kernel
theorem d_BL_paragraph_84 : decode b_BL_paragraph 84 = .ok (.getfield 118, 3) := by decide +kernel
theorem d_BL_paragraph_87 : decode b_BL_paragraph 87 = .ok (.iload_n 1, 1) := by decide +kernel
theorem d_BL_paragraph_88 : decode b_BL_paragraph 88 = .ok (.iaload, 1) := by decide +kernel
theorem d_BL_paragraph_89 : decode b_BL_paragraph 89 = .ok (.ireturn, 1) := by decide +kernel
theorem d_BL_paragraph_90 : decode b_BL_paragraph 90 = .ok (.aload_n 0, 1) := by decide +kernel
theorem d_BL_paragraph_91 : decode b_BL_paragraph 91 = .ok (.getfield 31, 3) := by decide +kernel
theorem d_BL_paragraph_94 : decode b_BL_paragraph 94 = .ok (.getfield 121, 3) := by decide +kernel
theorem d_BL_paragraph_97 : decode b_BL_paragraph 97 = .ok (.iload_n 1, 1) := by decide +kernel
theorem d_BL_paragraph_98 : decode b_BL_paragraph 98 = .ok (.iaload, 1) := by decide +kernel
theorem d_BL_paragraph_99 : decode b_BL_paragraph 99 = .ok (.ireturn, 1) := by decide +kernel
theorem d_BL_paragraph_100 : decode b_BL_paragraph 100 = .ok (.new 106, 3) := by decide +kernel
theorem d_BL_paragraph_103 : decode b_BL_paragraph 103 = .ok (.dup, 1) := by decide +kernel
theorem d_BL_paragraph_104 : decode b_BL_paragraph 104 = .ok (.ldc 124, 2) := by decide +kernel
theorem d_BL_paragraph_106 : decode b_BL_paragraph 106 = .ok (.invokespecial 110, 3) := by decide +kernel
theorem d_BL_paragraph_109 : decode b_BL_paragraph 109 = .ok (.athrow, 1) := by decide +kernel
theorem d_BL_level_0 : decode b_BL_level 0 = .ok (.aload_n 0, 1) := by decide +kernel
theorem d_BL_level_1 : decode b_BL_level 1 = .ok (.invokevirtual 103, 3) := by decide +kernel
theorem d_BL_level_4 : decode b_BL_level 4 = .ok (.aload_n 0, 1) := by decide +kernel
theorem d_BL_level_5 : decode b_BL_level 5 = .ok (.iload_n 1, 1) := by decide +kernel
theorem d_BL_level_6 : decode b_BL_level 6 = .ok (.invokevirtual 126, 3) := by decide +kernel
theorem d_BL_level_9 : decode b_BL_level 9 = .ok (.aload_n 0, 1) := by decide +kernel
theorem d_BL_level_10 : decode b_BL_level 10 = .ok (.getfield 12, 3) := by decide +kernel
theorem d_BL_level_13 : decode b_BL_level 13 = .ok (.getfield 129, 3) := by decide +kernel
theorem d_BL_level_16 : decode b_BL_level 16 = .ok (.iload_n 1, 1) := by decide +kernel
theorem d_BL_level_17 : decode b_BL_level 17 = .ok (.iaload, 1) := by decide +kernel
theorem d_BL_level_18 : decode b_BL_level 18 = .ok (.ireturn, 1) := by decide +kernel
theorem d_BL_kind_0 : decode b_BL_kind 0 = .ok (.aload_n 0, 1) := by decide +kernel
theorem d_BL_kind_1 : decode b_BL_kind 1 = .ok (.invokevirtual 103, 3) := by decide +kernel
theorem d_BL_kind_4 : decode b_BL_kind 4 = .ok (.aload_n 0, 1) := by decide +kernel
theorem d_BL_kind_5 : decode b_BL_kind 5 = .ok (.iload_n 1, 1) := by decide +kernel
theorem d_BL_kind_6 : decode b_BL_kind 6 = .ok (.invokevirtual 126, 3) := by decide +kernel
theorem d_BL_kind_9 : decode b_BL_kind 9 = .ok (.aload_n 0, 1) := by decide +kernel
theorem d_BL_kind_10 : decode b_BL_kind 10 = .ok (.getfield 12, 3) := by decide +kernel
theorem d_BL_kind_13 : decode b_BL_kind 13 = .ok (.getfield 132, 3) := by decide +kernel
theorem d_BL_kind_16 : decode b_BL_kind 16 = .ok (.iload_n 1, 1) := by decide +kernel
theorem d_BL_kind_17 : decode b_BL_kind 17 = .ok (.iaload, 1) := by decide +kernel
theorem d_BL_kind_18 : decode b_BL_kind 18 = .ok (.ireturn, 1) := by decide +kernel
theorem d_BL_match_0 : decode b_BL_match 0 = .ok (.aload_n 0, 1) := by decide +kernel
theorem d_BL_match_1 : decode b_BL_match 1 = .ok (.invokevirtual 103, 3) := by decide +kernel
theorem d_BL_match_4 : decode b_BL_match 4 = .ok (.aload_n 0, 1) := by decide +kernel
theorem d_BL_match_5 : decode b_BL_match 5 = .ok (.iload_n 1, 1) := by decide +kernel
theorem d_BL_match_6 : decode b_BL_match 6 = .ok (.invokevirtual 126, 3) := by decide +kernel
theorem d_BL_match_9 : decode b_BL_match 9 = .ok (.aload_n 0, 1) := by decide +kernel
theorem d_BL_match_10 : decode b_BL_match 10 = .ok (.getfield 12, 3) := by decide +kernel
theorem d_BL_match_13 : decode b_BL_match 13 = .ok (.getfield 135, 3) := by decide +kernel
theorem d_BL_match_16 : decode b_BL_match 16 = .ok (.iload_n 1, 1) := by decide +kernel
theorem d_BL_match_17 : decode b_BL_match 17 = .ok (.iaload, 1) := by decide +kernel
theorem d_BL_match_18 : decode b_BL_match 18 = .ok (.ireturn, 1) := by decide +kernel
theorem d_BL_line_0 : decode b_BL_line 0 = .ok (.aload_n 0, 1) := by decide +kernel
theorem d_BL_line_1 : decode b_BL_line 1 = .ok (.invokevirtual 103, 3) := by decide +kernel
theorem d_BL_line_4 : decode b_BL_line 4 = .ok (.aload_n 0, 1) := by decide +kernel
theorem d_BL_line_5 : decode b_BL_line 5 = .ok (.iload_n 1, 1) := by decide +kernel
theorem d_BL_line_6 : decode b_BL_line 6 = .ok (.invokevirtual 126, 3) := by decide +kernel
theorem d_BL_line_9 : decode b_BL_line 9 = .ok (.iload_n 2, 1) := by decide +kernel
theorem d_BL_line_10 : decode b_BL_line 10 = .ok (.iconst 1, 1) := by decide +kernel
theorem d_BL_line_11 : decode b_BL_line 11 = .ok (.if_icmp .lt 14, 3) := by decide +kernel
theorem d_BL_line_14 : decode b_BL_line 14 = .ok (.iload_n 2, 1) := by decide +kernel
theorem d_BL_line_15 : decode b_BL_line 15 = .ok (.aload_n 0, 1) := by decide +kernel
theorem d_BL_line_16 : decode b_BL_line 16 = .ok (.getfield 12, 3) := by decide +kernel
theorem d_BL_line_19 : decode b_BL_line 19 = .ok (.getfield 86, 3) := by decide +kernel
theorem d_BL_line_22 : decode b_BL_line 22 = .ok (.if_icmp .le 13, 3) := by decide +kernel
theorem d_BL_line_25 : decode b_BL_line 25 = .ok (.new 106, 3) := by decide +kernel
theorem d_BL_line_28 : decode b_BL_line 28 = .ok (.dup, 1) := by decide +kernel
theorem d_BL_line_29 : decode b_BL_line 29 = .ok (.ldc 138, 2) := by decide +kernel
theorem d_BL_line_31 : decode b_BL_line 31 = .ok (.invokespecial 110, 3) := by decide +kernel
theorem d_BL_line_34 : decode b_BL_line 34 = .ok (.athrow, 1) := by decide +kernel
theorem d_BL_line_35 : decode b_BL_line 35 = .ok (.iload_n 1, 1) := by decide +kernel
theorem d_BL_line_36 : decode b_BL_line 36 = .ok (.iload_n 2, 1) := by decide +kernel
theorem d_BL_line_37 : decode b_BL_line 37 = .ok (.if_icmp .lt 13, 3) := by decide +kernel
theorem d_BL_line_40 : decode b_BL_line 40 = .ok (.new 55, 3) := by decide +kernel
theorem d_BL_line_43 : decode b_BL_line 43 = .ok (.dup, 1) := by decide +kernel
theorem d_BL_line_44 : decode b_BL_line 44 = .ok (.ldc 140, 2) := by decide +kernel
theorem d_BL_line_46 : decode b_BL_line 46 = .ok (.invokespecial 59, 3) := by decide +kernel
theorem d_BL_line_49 : decode b_BL_line 49 = .ok (.athrow, 1) := by decide +kernel
theorem d_BL_line_50 : decode b_BL_line 50 = .ok (.aload_n 0, 1) := by decide +kernel
theorem d_BL_line_51 : decode b_BL_line 51 = .ok (.getfield 31, 3) := by decide +kernel
theorem d_BL_line_54 : decode b_BL_line 54 = .ok (.iload_n 1, 1) := by decide +kernel
theorem d_BL_line_55 : decode b_BL_line 55 = .ok (.invokevirtual 142, 3) := by decide +kernel
theorem d_BL_line_58 : decode b_BL_line 58 = .ok (.istore_n 3, 1) := by decide +kernel
theorem d_BL_line_59 : decode b_BL_line 59 = .ok (.iload_n 3, 1) := by decide +kernel
theorem d_BL_line_60 : decode b_BL_line 60 = .ok (.iconst (-1), 1) := by decide +kernel
theorem d_BL_line_61 : decode b_BL_line 61 = .ok (.if_icmp .eq 16, 3) := by decide +kernel
theorem d_BL_line_64 : decode b_BL_line 64 = .ok (.iload_n 2, 1) := by decide +kernel
theorem d_BL_line_65 : decode b_BL_line 65 = .ok (.aload_n 0, 1) := by decide +kernel
theorem d_BL_line_66 : decode b_BL_line 66 = .ok (.getfield 31, 3) := by decide +kernel
theorem d_BL_line_69 : decode b_BL_line 69 = .ok (.getfield 115, 3) := by decide +kernel
theorem d_BL_line_72 : decode b_BL_line 72 = .ok (.iload_n 3, 1) := by decide +kernel
theorem d_BL_line_73 : decode b_BL_line 73 = .ok (.iaload, 1) := by decide +kernel
theorem d_BL_line_74 : decode b_BL_line 74 = .ok (.if_icmp .le 13, 3) := by decide +kernel
theorem d_BL_line_77 : decode b_BL_line 77 = .ok (.new 55, 3) := by decide +kernel
theorem d_BL_line_80 : decode b_BL_line 80 = .ok (.dup, 1) := by decide +kernel
theorem d_BL_line_81 : decode b_BL_line 81 = .ok (.ldc 146, 2) := by decide +kernel
theorem d_BL_line_83 : decode b_BL_line 83 = .ok (.invokespecial 59, 3) := by decide +kernel
theorem d_BL_line_86 : decode b_BL_line 86 = .ok (.athrow, 1) := by decide +kernel
theorem d_BL_line_87 : decode b_BL_line 87 = .ok (.aload_n 0, 1) := by decide +kernel
theorem d_BL_line_88 : decode b_BL_line 88 = .ok (.getfield 40, 3) := by decide +kernel
theorem d_BL_line_91 : decode b_BL_line 91 = .ok (.iload_n 1, 1) := by decide +kernel
theorem d_BL_line_92 : decode b_BL_line 92 = .ok (.iload_n 2, 1) := by decide +kernel
theorem d_BL_line_93 : decode b_BL_line 93 = .ok (.aload_n 0, 1) := by decide +kernel
theorem d_BL_line_94 : decode b_BL_line 94 = .ok (.getfield 31, 3) := by decide +kernel
theorem d_BL_line_97 : decode b_BL_line 97 = .ok (.getfield 118, 3) := by decide +kernel
theorem d_BL_line_100 : decode b_BL_line 100 = .ok (.iload_n 3, 1) := by decide +kernel
theorem d_BL_line_101 : decode b_BL_line 101 = .ok (.iaload, 1) := by decide +kernel
theorem d_BL_line_102 : decode b_BL_line 102 = .ok (.invokevirtual 148, 3) := by decide +kernel
theorem d_BL_line_105 : decode b_BL_line 105 = .ok (.aload_n 0, 1) := by decide +kernel
theorem d_BL_line_106 : decode b_BL_line 106 = .ok (.iconst 1, 1) := by decide +kernel
theorem d_BL_line_107 : decode b_BL_line 107 = .ok (.putfield 48, 3) := by decide +kernel
theorem d_BL_line_110 : decode b_BL_line 110 = .ok (.aload_n 0, 1) := by decide +kernel
theorem d_BL_line_111 : decode b_BL_line 111 = .ok (.getfield 40, 3) := by decide +kernel
theorem d_BL_line_114 : decode b_BL_line 114 = .ok (.getfield 151, 3) := by decide +kernel
theorem d_BL_line_117 : decode b_BL_line 117 = .ok (.ireturn, 1) := by decide +kernel
theorem d_BL_seen_0 : decode b_BL_seen 0 = .ok (.aload_n 0, 1) := by decide +kernel
theorem d_BL_seen_1 : decode b_BL_seen 1 = .ok (.invokevirtual 152, 3) := by decide +kernel
theorem d_BL_seen_4 : decode b_BL_seen 4 = .ok (.iload_n 1, 1) := by decide +kernel
theorem d_BL_seen_5 : decode b_BL_seen 5 = .ok (.ifCond .lt 14, 3) := by decide +kernel
theorem d_BL_seen_8 : decode b_BL_seen 8 = .ok (.iload_n 1, 1) := by decide +kernel
theorem d_BL_seen_9 : decode b_BL_seen 9 = .ok (.aload_n 0, 1) := by decide +kernel
theorem d_BL_seen_10 : decode b_BL_seen 10 = .ok (.getfield 40, 3) := by decide +kernel
theorem d_BL_seen_13 : decode b_BL_seen 13 = .ok (.getfield 151, 3) := by decide +kernel
theorem d_BL_seen_16 : decode b_BL_seen 16 = .ok (.if_icmp .lt 13, 3) := by decide +kernel
theorem d_BL_seen_19 : decode b_BL_seen 19 = .ok (.new 106, 3) := by decide +kernel
theorem d_BL_seen_22 : decode b_BL_seen 22 = .ok (.dup, 1) := by decide +kernel
theorem d_BL_seen_23 : decode b_BL_seen 23 = .ok (.ldc 155, 2) := by decide +kernel
theorem d_BL_seen_25 : decode b_BL_seen 25 = .ok (.invokespecial 110, 3) := by decide +kernel
theorem d_BL_seen_28 : decode b_BL_seen 28 = .ok (.athrow, 1) := by decide +kernel
theorem d_BL_seen_29 : decode b_BL_seen 29 = .ok (.aload_n 0, 1) := by decide +kernel
theorem d_BL_seen_30 : decode b_BL_seen 30 = .ok (.getfield 40, 3) := by decide +kernel
theorem d_BL_seen_33 : decode b_BL_seen 33 = .ok (.getfield 157, 3) := by decide +kernel
theorem d_BL_seen_36 : decode b_BL_seen 36 = .ok (.iload_n 1, 1) := by decide +kernel
theorem d_BL_seen_37 : decode b_BL_seen 37 = .ok (.iaload, 1) := by decide +kernel
theorem d_BL_seen_38 : decode b_BL_seen 38 = .ok (.istore_n 3, 1) := by decide +kernel
theorem d_BL_seen_39 : decode b_BL_seen 39 = .ok (.iload_n 2, 1) := by decide +kernel
theorem d_BL_seen_40 : decode b_BL_seen 40 = .ok (.tableswitch 46 0 2 #[28, 30, 40], 28) := by decide +kernel
theorem d_BL_seen_68 : decode b_BL_seen 68 = .ok (.iload_n 3, 1) := by decide +kernel
theorem d_BL_seen_69 : decode b_BL_seen 69 = .ok (.ireturn, 1) := by decide +kernel
theorem d_BL_seen_70 : decode b_BL_seen 70 = .ok (.aload_n 0, 1) := by decide +kernel
theorem d_BL_seen_71 : decode b_BL_seen 71 = .ok (.getfield 40, 3) := by decide +kernel
theorem d_BL_seen_74 : decode b_BL_seen 74 = .ok (.getfield 160, 3) := by decide +kernel
theorem d_BL_seen_77 : decode b_BL_seen 77 = .ok (.iload_n 3, 1) := by decide +kernel
theorem d_BL_seen_78 : decode b_BL_seen 78 = .ok (.iaload, 1) := by decide +kernel
theorem d_BL_seen_79 : decode b_BL_seen 79 = .ok (.ireturn, 1) := by decide +kernel
theorem d_BL_seen_80 : decode b_BL_seen 80 = .ok (.aload_n 0, 1) := by decide +kernel
theorem d_BL_seen_81 : decode b_BL_seen 81 = .ok (.iload_n 3, 1) := by decide +kernel
theorem d_BL_seen_82 : decode b_BL_seen 82 = .ok (.invokevirtual 161, 3) := by decide +kernel
theorem d_BL_seen_85 : decode b_BL_seen 85 = .ok (.ireturn, 1) := by decide +kernel
theorem d_BL_seen_86 : decode b_BL_seen 86 = .ok (.new 106, 3) := by decide +kernel
theorem d_BL_seen_89 : decode b_BL_seen 89 = .ok (.dup, 1) := by decide +kernel
theorem d_BL_seen_90 : decode b_BL_seen 90 = .ok (.ldc 124, 2) := by decide +kernel
theorem d_BL_seen_92 : decode b_BL_seen 92 = .ok (.invokespecial 110, 3) := by decide +kernel
theorem d_BL_seen_95 : decode b_BL_seen 95 = .ok (.athrow, 1) := by decide +kernel
theorem d_BL_place_0 : decode b_BL_place 0 = .ok (.aload_n 0, 1) := by decide +kernel
theorem d_BL_place_1 : decode b_BL_place 1 = .ok (.invokevirtual 152, 3) := by decide +kernel
theorem d_BL_place_4 : decode b_BL_place 4 = .ok (.aload_n 0, 1) := by decide +kernel
theorem d_BL_place_5 : decode b_BL_place 5 = .ok (.iload_n 1, 1) := by decide +kernel
theorem d_BL_place_6 : decode b_BL_place 6 = .ok (.invokevirtual 126, 3) := by decide +kernel
theorem d_BL_place_9 : decode b_BL_place 9 = .ok (.aload_n 0, 1) := by decide +kernel
theorem d_BL_place_10 : decode b_BL_place 10 = .ok (.getfield 40, 3) := by decide +kernel
theorem d_BL_place_13 : decode b_BL_place 13 = .ok (.getfield 164, 3) := by decide +kernel
theorem d_BL_place_16 : decode b_BL_place 16 = .ok (.iload_n 1, 1) := by decide +kernel
theorem d_BL_place_17 : decode b_BL_place 17 = .ok (.iaload, 1) := by decide +kernel
theorem d_BL_place_18 : decode b_BL_place 18 = .ok (.ireturn, 1) := by decide +kernel
theorem d_BL_tellPair_0 : decode b_BL_tellPair 0 = .ok (.iload_n 2, 1) := by decide +kernel
theorem d_BL_tellPair_1 : decode b_BL_tellPair 1 = .ok (.invokestatic 51, 3) := by decide +kernel
theorem d_BL_tellPair_4 : decode b_BL_tellPair 4 = .ok (.ifCond .eq 15, 3) := by decide +kernel
theorem d_BL_tellPair_7 : decode b_BL_tellPair 7 = .ok (.iload_n 3, 1) := by decide +kernel
theorem d_BL_tellPair_8 : decode b_BL_tellPair 8 = .ok (.invokestatic 51, 3) := by decide +kernel
theorem d_BL_tellPair_11 : decode b_BL_tellPair 11 = .ok (.ifCond .eq 8, 3) := by decide +kernel
theorem d_BL_tellPair_14 : decode b_BL_tellPair 14 = .ok (.iload_n 2, 1) := by decide +kernel
theorem d_BL_tellPair_15 : decode b_BL_tellPair 15 = .ok (.iload_n 3, 1) := by decide +kernel
theorem d_BL_tellPair_16 : decode b_BL_tellPair 16 = .ok (.if_icmp .ne 13, 3) := by decide +kernel
theorem d_BL_tellPair_19 : decode b_BL_tellPair 19 = .ok (.new 55, 3) := by decide +kernel
theorem d_BL_tellPair_22 : decode b_BL_tellPair 22 = .ok (.dup, 1) := by decide +kernel
theorem d_BL_tellPair_23 : decode b_BL_tellPair 23 = .ok (.ldc 167, 2) := by decide +kernel
theorem d_BL_tellPair_25 : decode b_BL_tellPair 25 = .ok (.invokespecial 59, 3) := by decide +kernel
theorem d_BL_tellPair_28 : decode b_BL_tellPair 28 = .ok (.athrow, 1) := by decide +kernel
theorem d_BL_tellPair_29 : decode b_BL_tellPair 29 = .ok (.aload_n 1, 1) := by decide +kernel
theorem d_BL_tellPair_30 : decode b_BL_tellPair 30 = .ok (.iload_n 2, 1) := by decide +kernel
theorem d_BL_tellPair_31 : decode b_BL_tellPair 31 = .ok (.invokevirtual 169, 3) := by decide +kernel
theorem d_BL_tellPair_34 : decode b_BL_tellPair 34 = .ok (.ifCond .ne 11, 3) := by decide +kernel
theorem d_BL_tellPair_37 : decode b_BL_tellPair 37 = .ok (.aload_n 1, 1) := by decide +kernel
theorem d_BL_tellPair_38 : decode b_BL_tellPair 38 = .ok (.iload_n 3, 1) := by decide +kernel
theorem d_BL_tellPair_39 : decode b_BL_tellPair 39 = .ok (.invokevirtual 169, 3) := by decide +kernel
theorem d_BL_tellPair_42 : decode b_BL_tellPair 42 = .ok (.ifCond .eq 13, 3) := by decide +kernel
theorem d_BL_tellPair_45 : decode b_BL_tellPair 45 = .ok (.new 55, 3) := by decide +kernel
theorem d_BL_tellPair_48 : decode b_BL_tellPair 48 = .ok (.dup, 1) := by decide +kernel
theorem d_BL_tellPair_49 : decode b_BL_tellPair 49 = .ok (.ldc 172, 2) := by decide +kernel
theorem d_BL_tellPair_51 : decode b_BL_tellPair 51 = .ok (.invokespecial 59, 3) := by decide +kernel
theorem d_BL_tellPair_54 : decode b_BL_tellPair 54 = .ok (.athrow, 1) := by decide +kernel
theorem d_BL_tellPair_55 : decode b_BL_tellPair 55 = .ok (.aload_n 1, 1) := by decide +kernel
theorem d_BL_tellPair_56 : decode b_BL_tellPair 56 = .ok (.getfield 174, 3) := by decide +kernel
theorem d_BL_tellPair_59 : decode b_BL_tellPair 59 = .ok (.bipush 40, 2) := by decide +kernel
theorem d_BL_tellPair_61 : decode b_BL_tellPair 61 = .ok (.if_icmp .lt 13, 3) := by decide +kernel
theorem d_BL_tellPair_64 : decode b_BL_tellPair 64 = .ok (.new 68, 3) := by decide +kernel
theorem d_BL_tellPair_67 : decode b_BL_tellPair 67 = .ok (.dup, 1) := by decide +kernel
theorem d_BL_tellPair_68 : decode b_BL_tellPair 68 = .ok (.ldc 175, 2) := by decide +kernel
theorem d_BL_tellPair_70 : decode b_BL_tellPair 70 = .ok (.invokespecial 72, 3) := by decide +kernel
theorem d_BL_tellPair_73 : decode b_BL_tellPair 73 = .ok (.athrow, 1) := by decide +kernel
theorem d_BL_tellPair_74 : decode b_BL_tellPair 74 = .ok (.aload_n 1, 1) := by decide +kernel
theorem d_BL_tellPair_75 : decode b_BL_tellPair 75 = .ok (.iload_n 2, 1) := by decide +kernel
theorem d_BL_tellPair_76 : decode b_BL_tellPair 76 = .ok (.iload_n 3, 1) := by decide +kernel
theorem d_BL_tellPair_77 : decode b_BL_tellPair 77 = .ok (.invokevirtual 177, 3) := by decide +kernel
theorem d_BL_tellPair_80 : decode b_BL_tellPair 80 = .ok (.aload_n 0, 1) := by decide +kernel
theorem d_BL_tellPair_81 : decode b_BL_tellPair 81 = .ok (.invokevirtual 77, 3) := by decide +kernel
theorem d_BL_tellPair_84 : decode b_BL_tellPair 84 = .ok (.return_, 1) := by decide +kernel
theorem d_BL_forgetLevels_0 : decode b_BL_forgetLevels 0 = .ok (.aload_n 0, 1) := by decide +kernel
theorem d_BL_forgetLevels_1 : decode b_BL_forgetLevels 1 = .ok (.iconst 0, 1) := by decide +kernel
theorem d_BL_forgetLevels_2 : decode b_BL_forgetLevels 2 = .ok (.putfield 44, 3) := by decide +kernel
theorem d_BL_forgetLevels_5 : decode b_BL_forgetLevels 5 = .ok (.aload_n 0, 1) := by decide +kernel
theorem d_BL_forgetLevels_6 : decode b_BL_forgetLevels 6 = .ok (.iconst 0, 1) := by decide +kernel
theorem d_BL_forgetLevels_7 : decode b_BL_forgetLevels 7 = .ok (.putfield 48, 3) := by decide +kernel
theorem d_BL_forgetLevels_10 : decode b_BL_forgetLevels 10 = .ok (.return_, 1) := by decide +kernel
theorem d_BL_needLevels_0 : decode b_BL_needLevels 0 = .ok (.aload_n 0, 1) := by decide +kernel
theorem d_BL_needLevels_1 : decode b_BL_needLevels 1 = .ok (.getfield 44, 3) := by decide +kernel
theorem d_BL_needLevels_4 : decode b_BL_needLevels 4 = .ok (.ifCond .ne 13, 3) := by decide +kernel
theorem d_BL_needLevels_7 : decode b_BL_needLevels 7 = .ok (.new 68, 3) := by decide +kernel
theorem d_BL_needLevels_10 : decode b_BL_needLevels 10 = .ok (.dup, 1) := by decide +kernel
theorem d_BL_needLevels_11 : decode b_BL_needLevels 11 = .ok (.ldc 181, 2) := by decide +kernel
theorem d_BL_needLevels_13 : decode b_BL_needLevels 13 = .ok (.invokespecial 72, 3) := by decide +kernel
theorem d_BL_needLevels_16 : decode b_BL_needLevels 16 = .ok (.athrow, 1) := by decide +kernel
theorem d_BL_needLevels_17 : decode b_BL_needLevels 17 = .ok (.return_, 1) := by decide +kernel
theorem d_BL_needLine_0 : decode b_BL_needLine 0 = .ok (.aload_n 0, 1) := by decide +kernel
theorem d_BL_needLine_1 : decode b_BL_needLine 1 = .ok (.getfield 48, 3) := by decide +kernel
theorem d_BL_needLine_4 : decode b_BL_needLine 4 = .ok (.ifCond .ne 13, 3) := by decide +kernel
theorem d_BL_needLine_7 : decode b_BL_needLine 7 = .ok (.new 68, 3) := by decide +kernel
theorem d_BL_needLine_10 : decode b_BL_needLine 10 = .ok (.dup, 1) := by decide +kernel
theorem d_BL_needLine_11 : decode b_BL_needLine 11 = .ok (.ldc 183, 2) := by decide +kernel
theorem d_BL_needLine_13 : decode b_BL_needLine 13 = .ok (.invokespecial 72, 3) := by decide +kernel
theorem d_BL_needLine_16 : decode b_BL_needLine 16 = .ok (.athrow, 1) := by decide +kernel
theorem d_BL_needLine_17 : decode b_BL_needLine 17 = .ok (.return_, 1) := by decide +kernel
theorem d_BL_needPosition_0 : decode b_BL_needPosition 0 = .ok (.iload_n 1, 1) := by decide +kernel
theorem d_BL_needPosition_1 : decode b_BL_needPosition 1 = .ok (.ifCond .lt 14, 3) := by decide +kernel
theorem d_BL_needPosition_4 : decode b_BL_needPosition 4 = .ok (.iload_n 1, 1) := by decide +kernel
theorem d_BL_needPosition_5 : decode b_BL_needPosition 5 = .ok (.aload_n 0, 1) := by decide +kernel
theorem d_BL_needPosition_6 : decode b_BL_needPosition 6 = .ok (.getfield 12, 3) := by decide +kernel
theorem d_BL_needPosition_9 : decode b_BL_needPosition 9 = .ok (.getfield 86, 3) := by decide +kernel
theorem d_BL_needPosition_12 : decode b_BL_needPosition 12 = .ok (.if_icmp .lt 13, 3) := by decide +kernel
theorem d_BL_needPosition_15 : decode b_BL_needPosition 15 = .ok (.new 106, 3) := by decide +kernel
theorem d_BL_needPosition_18 : decode b_BL_needPosition 18 = .ok (.dup, 1) := by decide +kernel
theorem d_BL_needPosition_19 : decode b_BL_needPosition 19 = .ok (.ldc 185, 2) := by decide +kernel
theorem d_BL_needPosition_21 : decode b_BL_needPosition 21 = .ok (.invokespecial 110, 3) := by decide +kernel
theorem d_BL_needPosition_24 : decode b_BL_needPosition 24 = .ok (.athrow, 1) := by decide +kernel
theorem d_BL_needPosition_25 : decode b_BL_needPosition 25 = .ok (.return_, 1) := by decide +kernel
theorem d_BL_asSeen_0 : decode b_BL_asSeen 0 = .ok (.aload_n 0, 1) := by decide +kernel
theorem d_BL_asSeen_1 : decode b_BL_asSeen 1 = .ok (.getfield 12, 3) := by decide +kernel
theorem d_BL_asSeen_4 : decode b_BL_asSeen 4 = .ok (.getfield 187, 3) := by decide +kernel
theorem d_BL_asSeen_7 : decode b_BL_asSeen 7 = .ok (.iload_n 1, 1) := by decide +kernel
theorem d_BL_asSeen_8 : decode b_BL_asSeen 8 = .ok (.iaload, 1) := by decide +kernel
theorem d_BL_asSeen_9 : decode b_BL_asSeen 9 = .ok (.istore_n 2, 1) := by decide +kernel
theorem d_BL_asSeen_10 : decode b_BL_asSeen 10 = .ok (.aload_n 0, 1) := by decide +kernel
theorem d_BL_asSeen_11 : decode b_BL_asSeen 11 = .ok (.getfield 23, 3) := by decide +kernel
theorem d_BL_asSeen_14 : decode b_BL_asSeen 14 = .ok (.iload_n 2, 1) := by decide +kernel
theorem d_BL_asSeen_15 : decode b_BL_asSeen 15 = .ok (.invokevirtual 190, 3) := by decide +kernel
theorem d_BL_asSeen_18 : decode b_BL_asSeen 18 = .ok (.istore_n 3, 1) := by decide +kernel
theorem d_BL_asSeen_19 : decode b_BL_asSeen 19 = .ok (.aload_n 0, 1) := by decide +kernel
theorem d_BL_asSeen_20 : decode b_BL_asSeen 20 = .ok (.getfield 40, 3) := by decide +kernel
theorem d_BL_asSeen_23 : decode b_BL_asSeen 23 = .ok (.getfield 160, 3) := by decide +kernel
theorem d_BL_asSeen_26 : decode b_BL_asSeen 26 = .ok (.iload_n 1, 1) := by decide +kernel
theorem d_BL_asSeen_27 : decode b_BL_asSeen 27 = .ok (.iaload, 1) := by decide +kernel
theorem d_BL_asSeen_28 : decode b_BL_asSeen 28 = .ok (.invokestatic 193, 3) := by decide +kernel
theorem d_BL_asSeen_31 : decode b_BL_asSeen 31 = .ok (.ifCond .eq 12, 3) := by decide +kernel
theorem d_BL_asSeen_34 : decode b_BL_asSeen 34 = .ok (.iload_n 3, 1) := by decide +kernel
theorem d_BL_asSeen_35 : decode b_BL_asSeen 35 = .ok (.iconst (-1), 1) := by decide +kernel
theorem d_BL_asSeen_36 : decode b_BL_asSeen 36 = .ok (.if_icmp .eq 7, 3) := by decide +kernel
theorem d_BL_asSeen_39 : decode b_BL_asSeen 39 = .ok (.iload_n 3, 1) := by decide +kernel
theorem d_BL_asSeen_40 : decode b_BL_asSeen 40 = .ok (.goto 4, 3) := by decide +kernel
theorem d_BL_asSeen_43 : decode b_BL_asSeen 43 = .ok (.iload_n 2, 1) := by decide +kernel
theorem d_BL_asSeen_44 : decode b_BL_asSeen 44 = .ok (.ireturn, 1) := by decide +kernel
theorem d_BL_isCharacter_0 : decode b_BL_isCharacter 0 = .ok (.iload_n 0, 1) := by decide +kernel
theorem d_BL_isCharacter_1 : decode b_BL_isCharacter 1 = .ok (.ifCond .lt 13, 3) := by decide +kernel
theorem d_BL_isCharacter_4 : decode b_BL_isCharacter 4 = .ok (.iload_n 0, 1) := by decide +kernel
theorem d_BL_isCharacter_5 : decode b_BL_isCharacter 5 = .ok (.ldc 196, 2) := by decide +kernel
theorem d_BL_isCharacter_7 : decode b_BL_isCharacter 7 = .ok (.if_icmp .gt 7, 3) := by decide +kernel
theorem d_BL_isCharacter_10 : decode b_BL_isCharacter 10 = .ok (.iconst 1, 1) := by decide +kernel
theorem d_BL_isCharacter_11 : decode b_BL_isCharacter 11 = .ok (.goto 4, 3) := by decide +kernel
theorem d_BL_isCharacter_14 : decode b_BL_isCharacter 14 = .ok (.iconst 0, 1) := by decide +kernel
theorem d_BL_isCharacter_15 : decode b_BL_isCharacter 15 = .ok (.ireturn, 1) := by decide +kernel
theorem d_BL_isEmbedding_0 : decode b_BL_isEmbedding 0 = .ok (.iload_n 0, 1) := by decide +kernel
theorem d_BL_isEmbedding_1 : decode b_BL_isEmbedding 1 = .ok (.bipush 14, 2) := by decide +kernel
theorem d_BL_isEmbedding_3 : decode b_BL_isEmbedding 3 = .ok (.if_icmp .lt 13, 3) := by decide +kernel
theorem d_BL_isEmbedding_6 : decode b_BL_isEmbedding 6 = .ok (.iload_n 0, 1) := by decide +kernel
theorem d_BL_isEmbedding_7 : decode b_BL_isEmbedding 7 = .ok (.bipush 17, 2) := by decide +kernel
theorem d_BL_isEmbedding_9 : decode b_BL_isEmbedding 9 = .ok (.if_icmp .gt 7, 3) := by decide +kernel
theorem d_BL_isEmbedding_12 : decode b_BL_isEmbedding 12 = .ok (.iconst 1, 1) := by decide +kernel
theorem d_BL_isEmbedding_13 : decode b_BL_isEmbedding 13 = .ok (.goto 4, 3) := by decide +kernel
theorem d_BL_isEmbedding_16 : decode b_BL_isEmbedding 16 = .ok (.iconst 0, 1) := by decide +kernel
theorem d_BL_isEmbedding_17 : decode b_BL_isEmbedding 17 = .ok (.ireturn, 1) := by decide +kernel
theorem d_BL_isIsolate_0 : decode b_BL_isIsolate 0 = .ok (.iload_n 0, 1) := by decide +kernel
theorem d_BL_isIsolate_1 : decode b_BL_isIsolate 1 = .ok (.bipush 19, 2) := by decide +kernel
theorem d_BL_isIsolate_3 : decode b_BL_isIsolate 3 = .ok (.if_icmp .lt 13, 3) := by decide +kernel
theorem d_BL_isIsolate_6 : decode b_BL_isIsolate 6 = .ok (.iload_n 0, 1) := by decide +kernel
theorem d_BL_isIsolate_7 : decode b_BL_isIsolate 7 = .ok (.bipush 21, 2) := by decide +kernel
theorem d_BL_isIsolate_9 : decode b_BL_isIsolate 9 = .ok (.if_icmp .gt 7, 3) := by decide +kernel
theorem d_BL_isIsolate_12 : decode b_BL_isIsolate 12 = .ok (.iconst 1, 1) := by decide +kernel
theorem d_BL_isIsolate_13 : decode b_BL_isIsolate 13 = .ok (.goto 4, 3) := by decide +kernel
theorem d_BL_isIsolate_16 : decode b_BL_isIsolate 16 = .ok (.iconst 0, 1) := by decide +kernel
theorem d_BL_isIsolate_17 : decode b_BL_isIsolate 17 = .ok (.ireturn, 1) := by decide +kernel
theorem d_BL_isOdd_0 : decode b_BL_isOdd 0 = .ok (.iload_n 0, 1) := by decide +kernel
theorem d_BL_isOdd_1 : decode b_BL_isOdd 1 = .ok (.iconst 1, 1) := by decide +kernel
theorem d_BL_isOdd_2 : decode b_BL_isOdd 2 = .ok (.iand, 1) := by decide +kernel
theorem d_BL_isOdd_3 : decode b_BL_isOdd 3 = .ok (.iconst 1, 1) := by decide +kernel
theorem d_BL_isOdd_4 : decode b_BL_isOdd 4 = .ok (.if_icmp .ne 7, 3) := by decide +kernel
theorem d_BL_isOdd_7 : decode b_BL_isOdd 7 = .ok (.iconst 1, 1) := by decide +kernel
theorem d_BL_isOdd_8 : decode b_BL_isOdd 8 = .ok (.goto 4, 3) := by decide +kernel
theorem d_BL_isOdd_11 : decode b_BL_isOdd 11 = .ok (.iconst 0, 1) := by decide +kernel
theorem d_BL_isOdd_12 : decode b_BL_isOdd 12 = .ok (.ireturn, 1) := by decide +kernel
theorem d_BL_directionOf_0 : decode b_BL_directionOf 0 = .ok (.iload_n 0, 1) := by decide +kernel
theorem d_BL_directionOf_1 : decode b_BL_directionOf 1 = .ok (.iconst 1, 1) := by decide +kernel
theorem d_BL_directionOf_2 : decode b_BL_directionOf 2 = .ok (.iand, 1) := by decide +kernel
theorem d_BL_directionOf_3 : decode b_BL_directionOf 3 = .ok (.iconst 1, 1) := by decide +kernel
theorem d_BL_directionOf_4 : decode b_BL_directionOf 4 = .ok (.if_icmp .ne 7, 3) := by decide +kernel
theorem d_BL_directionOf_7 : decode b_BL_directionOf 7 = .ok (.iconst 1, 1) := by decide +kernel
theorem d_BL_directionOf_8 : decode b_BL_directionOf 8 = .ok (.goto 4, 3) := by decide +kernel
theorem d_BL_directionOf_11 : decode b_BL_directionOf 11 = .ok (.iconst 0, 1) := by decide +kernel
theorem d_BL_directionOf_12 : decode b_BL_directionOf 12 = .ok (.ireturn, 1) := by decide +kernel
