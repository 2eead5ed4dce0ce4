theorem d_TX_init_0 : decode b_TX_init 0 = .ok (.aload_n 0, 1) := by decide +kernel
theorem d_TX_init_1 : decode b_TX_init 1 = .ok (.invokespecial 3, 3) := by decide +kernel
theorem d_TX_init_4 : decode b_TX_init 4 = .ok (.aload_n 0, 1) := by decide +kernel
theorem d_TX_init_5 : decode b_TX_init 5 = .ok (.sipush 2000, 3) := by decide +kernel
theorem d_TX_init_8 : decode b_TX_init 8 = .ok (.newarray .int, 2) := by decide +kernel
theorem d_TX_init_10 : decode b_TX_init 10 = .ok (.putfield 9, 3) := by decide +kernel
theorem d_TX_init_13 : decode b_TX_init 13 = .ok (.aload_n 0, 1) := by decide +kernel
theorem d_TX_init_14 : decode b_TX_init 14 = .ok (.sipush 2000, 3) := by decide +kernel
theorem d_TX_init_17 : decode b_TX_init 17 = .ok (.newarray .int, 2) := by decide +kernel
theorem d_TX_init_19 : decode b_TX_init 19 = .ok (.putfield 15, 3) := by decide +kernel
theorem d_TX_init_22 : decode b_TX_init 22 = .ok (.aload_n 0, 1) := by decide +kernel
theorem d_TX_init_23 : decode b_TX_init 23 = .ok (.sipush 2000, 3) := by decide +kernel
theorem d_TX_init_26 : decode b_TX_init 26 = .ok (.newarray .int, 2) := by decide +kernel
theorem d_TX_init_28 : decode b_TX_init 28 = .ok (.putfield 18, 3) := by decide +kernel
theorem d_TX_init_31 : decode b_TX_init 31 = .ok (.aload_n 0, 1) := by decide +kernel
theorem d_TX_init_32 : decode b_TX_init 32 = .ok (.sipush 2000, 3) := by decide +kernel
theorem d_TX_init_35 : decode b_TX_init 35 = .ok (.newarray .int, 2) := by decide +kernel
theorem d_TX_init_37 : decode b_TX_init 37 = .ok (.putfield 21, 3) := by decide +kernel
theorem d_TX_init_40 : decode b_TX_init 40 = .ok (.aload_n 0, 1) := by decide +kernel
theorem d_TX_init_41 : decode b_TX_init 41 = .ok (.sipush 2000, 3) := by decide +kernel
theorem d_TX_init_44 : decode b_TX_init 44 = .ok (.newarray .int, 2) := by decide +kernel
theorem d_TX_init_46 : decode b_TX_init 46 = .ok (.putfield 24, 3) := by decide +kernel
theorem d_TX_init_49 : decode b_TX_init 49 = .ok (.aload_n 0, 1) := by decide +kernel
theorem d_TX_init_50 : decode b_TX_init 50 = .ok (.iconst 0, 1) := by decide +kernel
theorem d_TX_init_51 : decode b_TX_init 51 = .ok (.putfield 27, 3) := by decide +kernel
theorem d_TX_init_54 : decode b_TX_init 54 = .ok (.aload_n 0, 1) := by decide +kernel
theorem d_TX_init_55 : decode b_TX_init 55 = .ok (.bipush 100, 2) := by decide +kernel
theorem d_TX_init_57 : decode b_TX_init 57 = .ok (.newarray .int, 2) := by decide +kernel
theorem d_TX_init_59 : decode b_TX_init 59 = .ok (.putfield 31, 3) := by decide +kernel
theorem d_TX_init_62 : decode b_TX_init 62 = .ok (.aload_n 0, 1) := by decide +kernel
theorem d_TX_init_63 : decode b_TX_init 63 = .ok (.bipush 100, 2) := by decide +kernel
theorem d_TX_init_65 : decode b_TX_init 65 = .ok (.newarray .int, 2) := by decide +kernel
theorem d_TX_init_67 : decode b_TX_init 67 = .ok (.putfield 34, 3) := by decide +kernel
theorem d_TX_init_70 : decode b_TX_init 70 = .ok (.aload_n 0, 1) := by decide +kernel
theorem d_TX_init_71 : decode b_TX_init 71 = .ok (.bipush 100, 2) := by decide +kernel
theorem d_TX_init_73 : decode b_TX_init 73 = .ok (.newarray .int, 2) := by decide +kernel
theorem d_TX_init_75 : decode b_TX_init 75 = .ok (.putfield 37, 3) := by decide +kernel
theorem d_TX_init_78 : decode b_TX_init 78 = .ok (.aload_n 0, 1) := by decide +kernel
theorem d_TX_init_79 : decode b_TX_init 79 = .ok (.iconst 0, 1) := by decide +kernel
theorem d_TX_init_80 : decode b_TX_init 80 = .ok (.putfield 40, 3) := by decide +kernel
theorem d_TX_init_83 : decode b_TX_init 83 = .ok (.return_, 1) := by decide +kernel
theorem d_TX_tellRange_0 : decode b_TX_tellRange 0 = .ok (.aload_n 0, 1) := by decide +kernel
theorem d_TX_tellRange_1 : decode b_TX_tellRange 1 = .ok (.getfield 40, 3) := by decide +kernel
theorem d_TX_tellRange_4 : decode b_TX_tellRange 4 = .ok (.bipush 100, 2) := by decide +kernel
theorem d_TX_tellRange_6 : decode b_TX_tellRange 6 = .ok (.if_icmp .lt 4, 3) := by decide +kernel
theorem d_TX_tellRange_9 : decode b_TX_tellRange 9 = .ok (.return_, 1) := by decide +kernel
theorem d_TX_tellRange_10 : decode b_TX_tellRange 10 = .ok (.aload_n 0, 1) := by decide +kernel
theorem d_TX_tellRange_11 : decode b_TX_tellRange 11 = .ok (.getfield 31, 3) := by decide +kernel
theorem d_TX_tellRange_14 : decode b_TX_tellRange 14 = .ok (.aload_n 0, 1) := by decide +kernel
theorem d_TX_tellRange_15 : decode b_TX_tellRange 15 = .ok (.getfield 40, 3) := by decide +kernel
theorem d_TX_tellRange_18 : decode b_TX_tellRange 18 = .ok (.iload_n 1, 1) := by decide +kernel
theorem d_TX_tellRange_19 : decode b_TX_tellRange 19 = .ok (.iastore, 1) := by decide +kernel
theorem d_TX_tellRange_20 : decode b_TX_tellRange 20 = .ok (.aload_n 0, 1) := by decide +kernel
theorem d_TX_tellRange_21 : decode b_TX_tellRange 21 = .ok (.getfield 34, 3) := by decide +kernel
theorem d_TX_tellRange_24 : decode b_TX_tellRange 24 = .ok (.aload_n 0, 1) := by decide +kernel
theorem d_TX_tellRange_25 : decode b_TX_tellRange 25 = .ok (.getfield 40, 3) := by decide +kernel
theorem d_TX_tellRange_28 : decode b_TX_tellRange 28 = .ok (.iload_n 2, 1) := by decide +kernel
theorem d_TX_tellRange_29 : decode b_TX_tellRange 29 = .ok (.iastore, 1) := by decide +kernel
theorem d_TX_tellRange_30 : decode b_TX_tellRange 30 = .ok (.aload_n 0, 1) := by decide +kernel
theorem d_TX_tellRange_31 : decode b_TX_tellRange 31 = .ok (.getfield 37, 3) := by decide +kernel
theorem d_TX_tellRange_34 : decode b_TX_tellRange 34 = .ok (.aload_n 0, 1) := by decide +kernel
theorem d_TX_tellRange_35 : decode b_TX_tellRange 35 = .ok (.getfield 40, 3) := by decide +kernel
theorem d_TX_tellRange_38 : decode b_TX_tellRange 38 = .ok (.iload_n 3, 1) := by decide +kernel
theorem d_TX_tellRange_39 : decode b_TX_tellRange 39 = .ok (.iastore, 1) := by decide +kernel
theorem d_TX_tellRange_40 : decode b_TX_tellRange 40 = .ok (.aload_n 0, 1) := by decide +kernel
theorem d_TX_tellRange_41 : decode b_TX_tellRange 41 = .ok (.dup, 1) := by decide +kernel
theorem d_TX_tellRange_42 : decode b_TX_tellRange 42 = .ok (.getfield 40, 3) := by decide +kernel
theorem d_TX_tellRange_45 : decode b_TX_tellRange 45 = .ok (.iconst 1, 1) := by decide +kernel
theorem d_TX_tellRange_46 : decode b_TX_tellRange 46 = .ok (.iadd, 1) := by decide +kernel
theorem d_TX_tellRange_47 : decode b_TX_tellRange 47 = .ok (.putfield 40, 3) := by decide +kernel
theorem d_TX_tellRange_50 : decode b_TX_tellRange 50 = .ok (.iconst 0, 1) := by decide +kernel
theorem d_TX_tellRange_51 : decode b_TX_tellRange 51 = .ok (.istore 4, 2) := by decide +kernel
theorem d_TX_tellRange_53 : decode b_TX_tellRange 53 = .ok (.iload 4, 2) := by decide +kernel
theorem d_TX_tellRange_55 : decode b_TX_tellRange 55 = .ok (.aload_n 0, 1) := by decide +kernel
theorem d_TX_tellRange_56 : decode b_TX_tellRange 56 = .ok (.getfield 27, 3) := by decide +kernel
theorem d_TX_tellRange_59 : decode b_TX_tellRange 59 = .ok (.if_icmp .ge 39, 3) := by decide +kernel
theorem d_TX_tellRange_62 : decode b_TX_tellRange 62 = .ok (.aload_n 0, 1) := by decide +kernel
theorem d_TX_tellRange_63 : decode b_TX_tellRange 63 = .ok (.getfield 9, 3) := by decide +kernel
theorem d_TX_tellRange_66 : decode b_TX_tellRange 66 = .ok (.iload 4, 2) := by decide +kernel
theorem d_TX_tellRange_68 : decode b_TX_tellRange 68 = .ok (.iaload, 1) := by decide +kernel
theorem d_TX_tellRange_69 : decode b_TX_tellRange 69 = .ok (.iload_n 1, 1) := by decide +kernel
theorem d_TX_tellRange_70 : decode b_TX_tellRange 70 = .ok (.if_icmp .lt 22, 3) := by decide +kernel
theorem d_TX_tellRange_73 : decode b_TX_tellRange 73 = .ok (.aload_n 0, 1) := by decide +kernel
theorem d_TX_tellRange_74 : decode b_TX_tellRange 74 = .ok (.getfield 9, 3) := by decide +kernel
theorem d_TX_tellRange_77 : decode b_TX_tellRange 77 = .ok (.iload 4, 2) := by decide +kernel
theorem d_TX_tellRange_79 : decode b_TX_tellRange 79 = .ok (.iaload, 1) := by decide +kernel
theorem d_TX_tellRange_80 : decode b_TX_tellRange 80 = .ok (.iload_n 2, 1) := by decide +kernel
theorem d_TX_tellRange_81 : decode b_TX_tellRange 81 = .ok (.if_icmp .gt 11, 3) := by decide +kernel
theorem d_TX_tellRange_84 : decode b_TX_tellRange 84 = .ok (.aload_n 0, 1) := by decide +kernel
theorem d_TX_tellRange_85 : decode b_TX_tellRange 85 = .ok (.getfield 15, 3) := by decide +kernel
theorem d_TX_tellRange_88 : decode b_TX_tellRange 88 = .ok (.iload 4, 2) := by decide +kernel
theorem d_TX_tellRange_90 : decode b_TX_tellRange 90 = .ok (.iload_n 3, 1) := by decide +kernel
theorem d_TX_tellRange_91 : decode b_TX_tellRange 91 = .ok (.iastore, 1) := by decide +kernel
theorem d_TX_tellRange_92 : decode b_TX_tellRange 92 = .ok (.iinc 4 1, 3) := by decide +kernel
theorem d_TX_tellRange_95 : decode b_TX_tellRange 95 = .ok (.goto (-42), 3) := by decide +kernel
theorem d_TX_tellRange_98 : decode b_TX_tellRange 98 = .ok (.return_, 1) := by decide +kernel
theorem d_TX_append_0 : decode b_TX_append 0 = .ok (.aload_n 0, 1) := by decide +kernel
theorem d_TX_append_1 : decode b_TX_append 1 = .ok (.getfield 27, 3) := by decide +kernel
theorem d_TX_append_4 : decode b_TX_append 4 = .ok (.sipush 2000, 3) := by decide +kernel
theorem d_TX_append_7 : decode b_TX_append 7 = .ok (.if_icmp .lt 4, 3) := by decide +kernel
theorem d_TX_append_10 : decode b_TX_append 10 = .ok (.return_, 1) := by decide +kernel
theorem d_TX_append_11 : decode b_TX_append 11 = .ok (.aload_n 0, 1) := by decide +kernel
theorem d_TX_append_12 : decode b_TX_append 12 = .ok (.getfield 9, 3) := by decide +kernel
theorem d_TX_append_15 : decode b_TX_append 15 = .ok (.aload_n 0, 1) := by decide +kernel
theorem d_TX_append_16 : decode b_TX_append 16 = .ok (.getfield 27, 3) := by decide +kernel
theorem d_TX_append_19 : decode b_TX_append 19 = .ok (.iload_n 1, 1) := by decide +kernel
theorem d_TX_append_20 : decode b_TX_append 20 = .ok (.iastore, 1) := by decide +kernel
theorem d_TX_append_21 : decode b_TX_append 21 = .ok (.aload_n 0, 1) := by decide +kernel
theorem d_TX_append_22 : decode b_TX_append 22 = .ok (.getfield 15, 3) := by decide +kernel
theorem d_TX_append_25 : decode b_TX_append 25 = .ok (.aload_n 0, 1) := by decide +kernel
theorem d_TX_append_26 : decode b_TX_append 26 = .ok (.getfield 27, 3) := by decide +kernel
theorem d_TX_append_29 : decode b_TX_append 29 = .ok (.aload_n 0, 1) := by decide +kernel
theorem d_TX_append_30 : decode b_TX_append 30 = .ok (.iload_n 1, 1) := by decide +kernel
theorem d_TX_append_31 : decode b_TX_append 31 = .ok (.invokevirtual 43, 3) := by decide +kernel
theorem d_TX_append_34 : decode b_TX_append 34 = .ok (.iastore, 1) := by decide +kernel
theorem d_TX_append_35 : decode b_TX_append 35 = .ok (.aload_n 0, 1) := by decide +kernel
theorem d_TX_append_36 : decode b_TX_append 36 = .ok (.dup, 1) := by decide +kernel
theorem d_TX_append_37 : decode b_TX_append 37 = .ok (.getfield 27, 3) := by decide +kernel
theorem d_TX_append_40 : decode b_TX_append 40 = .ok (.iconst 1, 1) := by decide +kernel
theorem d_TX_append_41 : decode b_TX_append 41 = .ok (.iadd, 1) := by decide +kernel
theorem d_TX_append_42 : decode b_TX_append 42 = .ok (.putfield 27, 3) := by decide +kernel
theorem d_TX_append_45 : decode b_TX_append 45 = .ok (.return_, 1) := by decide +kernel
theorem d_TX_classOf_0 : decode b_TX_classOf 0 = .ok (.aload_n 0, 1) := by decide +kernel
theorem d_TX_classOf_1 : decode b_TX_classOf 1 = .ok (.getfield 40, 3) := by decide +kernel
theorem d_TX_classOf_4 : decode b_TX_classOf 4 = .ok (.iconst 1, 1) := by decide +kernel
theorem d_TX_classOf_5 : decode b_TX_classOf 5 = .ok (.isub, 1) := by decide +kernel
theorem d_TX_classOf_6 : decode b_TX_classOf 6 = .ok (.istore_n 2, 1) := by decide +kernel
theorem d_TX_classOf_7 : decode b_TX_classOf 7 = .ok (.iload_n 2, 1) := by decide +kernel
theorem d_TX_classOf_8 : decode b_TX_classOf 8 = .ok (.ifCond .lt 36, 3) := by decide +kernel
theorem d_TX_classOf_11 : decode b_TX_classOf 11 = .ok (.iload_n 1, 1) := by decide +kernel
theorem d_TX_classOf_12 : decode b_TX_classOf 12 = .ok (.aload_n 0, 1) := by decide +kernel
theorem d_TX_classOf_13 : decode b_TX_classOf 13 = .ok (.getfield 31, 3) := by decide +kernel
theorem d_TX_classOf_16 : decode b_TX_classOf 16 = .ok (.iload_n 2, 1) := by decide +kernel
theorem d_TX_classOf_17 : decode b_TX_classOf 17 = .ok (.iaload, 1) := by decide +kernel
theorem d_TX_classOf_18 : decode b_TX_classOf 18 = .ok (.if_icmp .lt 20, 3) := by decide +kernel
theorem d_TX_classOf_21 : decode b_TX_classOf 21 = .ok (.iload_n 1, 1) := by decide +kernel
theorem d_TX_classOf_22 : decode b_TX_classOf 22 = .ok (.aload_n 0, 1) := by decide +kernel
theorem d_TX_classOf_23 : decode b_TX_classOf 23 = .ok (.getfield 34, 3) := by decide +kernel
theorem d_TX_classOf_26 : decode b_TX_classOf 26 = .ok (.iload_n 2, 1) := by decide +kernel
theorem d_TX_classOf_27 : decode b_TX_classOf 27 = .ok (.iaload, 1) := by decide +kernel
theorem d_TX_classOf_28 : decode b_TX_classOf 28 = .ok (.if_icmp .gt 10, 3) := by decide +kernel
theorem d_TX_classOf_31 : decode b_TX_classOf 31 = .ok (.aload_n 0, 1) := by decide +kernel
theorem d_TX_classOf_32 : decode b_TX_classOf 32 = .ok (.getfield 37, 3) := by decide +kernel
theorem d_TX_classOf_35 : decode b_TX_classOf 35 = .ok (.iload_n 2, 1) := by decide +kernel
theorem d_TX_classOf_36 : decode b_TX_classOf 36 = .ok (.iaload, 1) := by decide +kernel
theorem d_TX_classOf_37 : decode b_TX_classOf 37 = .ok (.ireturn, 1) := by decide +kernel
theorem d_TX_classOf_38 : decode b_TX_classOf 38 = .ok (.iinc 2 (-1), 3) := by decide +kernel
theorem d_TX_classOf_41 : decode b_TX_classOf 41 = .ok (.goto (-34), 3) := by decide +kernel
theorem d_TX_classOf_44 : decode b_TX_classOf 44 = .ok (.iconst 0, 1) := by decide +kernel
theorem d_TX_classOf_45 : decode b_TX_classOf 45 = .ok (.ireturn, 1) := by decide +kernel
theorem d_PR_init_0 : decode b_PR_init 0 = .ok (.aload_n 0, 1) := by decide +kernel
theorem d_PR_init_1 : decode b_PR_init 1 = .ok (.invokespecial 3, 3) := by decide +kernel
theorem d_PR_init_4 : decode b_PR_init 4 = .ok (.aload_n 0, 1) := by decide +kernel
theorem d_PR_init_5 : decode b_PR_init 5 = .ok (.bipush 40, 2) := by decide +kernel
theorem d_PR_init_7 : decode b_PR_init 7 = .ok (.newarray .int, 2) := by decide +kernel
theorem d_PR_init_9 : decode b_PR_init 9 = .ok (.putfield 9, 3) := by decide +kernel
theorem d_PR_init_12 : decode b_PR_init 12 = .ok (.aload_n 0, 1) := by decide +kernel
theorem d_PR_init_13 : decode b_PR_init 13 = .ok (.bipush 40, 2) := by decide +kernel
theorem d_PR_init_15 : decode b_PR_init 15 = .ok (.newarray .int, 2) := by decide +kernel
theorem d_PR_init_17 : decode b_PR_init 17 = .ok (.putfield 15, 3) := by decide +kernel
theorem d_PR_init_20 : decode b_PR_init 20 = .ok (.aload_n 0, 1) := by decide +kernel
theorem d_PR_init_21 : decode b_PR_init 21 = .ok (.iconst 0, 1) := by decide +kernel
theorem d_PR_init_22 : decode b_PR_init 22 = .ok (.putfield 18, 3) := by decide +kernel
theorem d_PR_init_25 : decode b_PR_init 25 = .ok (.return_, 1) := by decide +kernel
theorem d_PR_tell_0 : decode b_PR_tell 0 = .ok (.aload_n 0, 1) := by decide +kernel
theorem d_PR_tell_1 : decode b_PR_tell 1 = .ok (.getfield 18, 3) := by decide +kernel
theorem d_PR_tell_4 : decode b_PR_tell 4 = .ok (.bipush 40, 2) := by decide +kernel
theorem d_PR_tell_6 : decode b_PR_tell 6 = .ok (.if_icmp .lt 4, 3) := by decide +kernel
theorem d_PR_tell_9 : decode b_PR_tell 9 = .ok (.return_, 1) := by decide +kernel
theorem d_PR_tell_10 : decode b_PR_tell 10 = .ok (.aload_n 0, 1) := by decide +kernel
theorem d_PR_tell_11 : decode b_PR_tell 11 = .ok (.getfield 9, 3) := by decide +kernel
theorem d_PR_tell_14 : decode b_PR_tell 14 = .ok (.aload_n 0, 1) := by decide +kernel
theorem d_PR_tell_15 : decode b_PR_tell 15 = .ok (.getfield 18, 3) := by decide +kernel
theorem d_PR_tell_18 : decode b_PR_tell 18 = .ok (.iload_n 1, 1) := by decide +kernel
theorem d_PR_tell_19 : decode b_PR_tell 19 = .ok (.iastore, 1) := by decide +kernel
theorem d_PR_tell_20 : decode b_PR_tell 20 = .ok (.aload_n 0, 1) := by decide +kernel
theorem d_PR_tell_21 : decode b_PR_tell 21 = .ok (.getfield 15, 3) := by decide +kernel
theorem d_PR_tell_24 : decode b_PR_tell 24 = .ok (.aload_n 0, 1) := by decide +kernel
theorem d_PR_tell_25 : decode b_PR_tell 25 = .ok (.getfield 18, 3) := by decide +kernel
theorem d_PR_tell_28 : decode b_PR_tell 28 = .ok (.iload_n 2, 1) := by decide +kernel
theorem d_PR_tell_29 : decode b_PR_tell 29 = .ok (.iastore, 1) := by decide +kernel
theorem d_PR_tell_30 : decode b_PR_tell 30 = .ok (.aload_n 0, 1) := by decide +kernel
theorem d_PR_tell_31 : decode b_PR_tell 31 = .ok (.dup, 1) := by decide +kernel
theorem d_PR_tell_32 : decode b_PR_tell 32 = .ok (.getfield 18, 3) := by decide +kernel
theorem d_PR_tell_35 : decode b_PR_tell 35 = .ok (.iconst 1, 1) := by decide +kernel
theorem d_PR_tell_36 : decode b_PR_tell 36 = .ok (.iadd, 1) := by decide +kernel
theorem d_PR_tell_37 : decode b_PR_tell 37 = .ok (.putfield 18, 3) := by decide +kernel
theorem d_PR_tell_40 : decode b_PR_tell 40 = .ok (.return_, 1) := by decide +kernel
theorem d_PR_has_0 : decode b_PR_has 0 = .ok (.aload_n 0, 1) := by decide +kernel
theorem d_PR_has_1 : decode b_PR_has 1 = .ok (.iload_n 1, 1) := by decide +kernel
theorem d_PR_has_2 : decode b_PR_has 2 = .ok (.invokevirtual 22, 3) := by decide +kernel
theorem d_PR_has_5 : decode b_PR_has 5 = .ok (.iconst (-1), 1) := by decide +kernel
theorem d_PR_has_6 : decode b_PR_has 6 = .ok (.if_icmp .eq 7, 3) := by decide +kernel
theorem d_PR_has_9 : decode b_PR_has 9 = .ok (.iconst 1, 1) := by decide +kernel
theorem d_PR_has_10 : decode b_PR_has 10 = .ok (.goto 4, 3) := by decide +kernel
theorem d_PR_has_13 : decode b_PR_has 13 = .ok (.iconst 0, 1) := by decide +kernel
theorem d_PR_has_14 : decode b_PR_has 14 = .ok (.ireturn, 1) := by decide +kernel
theorem d_PR_partnerOf_0 : decode b_PR_partnerOf 0 = .ok (.aload_n 0, 1) := by decide +kernel
theorem d_PR_partnerOf_1 : decode b_PR_partnerOf 1 = .ok (.iload_n 1, 1) := by decide +kernel
theorem d_PR_partnerOf_2 : decode b_PR_partnerOf 2 = .ok (.invokevirtual 26, 3) := by decide +kernel
theorem d_PR_partnerOf_5 : decode b_PR_partnerOf 5 = .ok (.istore_n 2, 1) := by decide +kernel
theorem d_PR_partnerOf_6 : decode b_PR_partnerOf 6 = .ok (.iload_n 2, 1) := by decide +kernel
theorem d_PR_partnerOf_7 : decode b_PR_partnerOf 7 = .ok (.iconst (-1), 1) := by decide +kernel
theorem d_PR_partnerOf_8 : decode b_PR_partnerOf 8 = .ok (.if_icmp .eq 7, 3) := by decide +kernel
theorem d_PR_partnerOf_11 : decode b_PR_partnerOf 11 = .ok (.iload_n 2, 1) := by decide +kernel
theorem d_PR_partnerOf_12 : decode b_PR_partnerOf 12 = .ok (.goto 8, 3) := by decide +kernel
theorem d_PR_partnerOf_15 : decode b_PR_partnerOf 15 = .ok (.aload_n 0, 1) := by decide +kernel
theorem d_PR_partnerOf_16 : decode b_PR_partnerOf 16 = .ok (.iload_n 1, 1) := by decide +kernel
theorem d_PR_partnerOf_17 : decode b_PR_partnerOf 17 = .ok (.invokevirtual 29, 3) := by decide +kernel
theorem d_PR_partnerOf_20 : decode b_PR_partnerOf 20 = .ok (.ireturn, 1) := by decide +kernel
theorem d_PR_otherOf_0 : decode b_PR_otherOf 0 = .ok (.iconst 0, 1) := by decide +kernel
theorem d_PR_otherOf_1 : decode b_PR_otherOf 1 = .ok (.istore_n 2, 1) := by decide +kernel
theorem d_PR_otherOf_2 : decode b_PR_otherOf 2 = .ok (.iload_n 2, 1) := by decide +kernel
theorem d_PR_otherOf_3 : decode b_PR_otherOf 3 = .ok (.aload_n 0, 1) := by decide +kernel
theorem d_PR_otherOf_4 : decode b_PR_otherOf 4 = .ok (.getfield 18, 3) := by decide +kernel
theorem d_PR_otherOf_7 : decode b_PR_otherOf 7 = .ok (.if_icmp .ge 26, 3) := by decide +kernel
theorem d_PR_otherOf_10 : decode b_PR_otherOf 10 = .ok (.aload_n 0, 1) := by decide +kernel
theorem d_PR_otherOf_11 : decode b_PR_otherOf 11 = .ok (.getfield 9, 3) := by decide +kernel
theorem d_PR_otherOf_14 : decode b_PR_otherOf 14 = .ok (.iload_n 2, 1) := by decide +kernel
theorem d_PR_otherOf_15 : decode b_PR_otherOf 15 = .ok (.iaload, 1) := by decide +kernel
theorem d_PR_otherOf_16 : decode b_PR_otherOf 16 = .ok (.iload_n 1, 1) := by decide +kernel
theorem d_PR_otherOf_17 : decode b_PR_otherOf 17 = .ok (.if_icmp .ne 10, 3) := by decide +kernel
theorem d_PR_otherOf_20 : decode b_PR_otherOf 20 = .ok (.aload_n 0, 1) := by decide +kernel
theorem d_PR_otherOf_21 : decode b_PR_otherOf 21 = .ok (.getfield 15, 3) := by decide +kernel
theorem d_PR_otherOf_24 : decode b_PR_otherOf 24 = .ok (.iload_n 2, 1) := by decide +kernel
theorem d_PR_otherOf_25 : decode b_PR_otherOf 25 = .ok (.iaload, 1) := by decide +kernel
theorem d_PR_otherOf_26 : decode b_PR_otherOf 26 = .ok (.ireturn, 1) := by decide +kernel
theorem d_PR_otherOf_27 : decode b_PR_otherOf 27 = .ok (.iinc 2 1, 3) := by decide +kernel
theorem d_PR_otherOf_30 : decode b_PR_otherOf 30 = .ok (.goto (-28), 3) := by decide +kernel
theorem d_PR_otherOf_33 : decode b_PR_otherOf 33 = .ok (.iconst (-1), 1) := by decide +kernel
theorem d_PR_otherOf_34 : decode b_PR_otherOf 34 = .ok (.ireturn, 1) := by decide +kernel
theorem d_PR_oneOf_0 : decode b_PR_oneOf 0 = .ok (.iconst 0, 1) := by decide +kernel
theorem d_PR_oneOf_1 : decode b_PR_oneOf 1 = .ok (.istore_n 2, 1) := by decide +kernel
theorem d_PR_oneOf_2 : decode b_PR_oneOf 2 = .ok (.iload_n 2, 1) := by decide +kernel
theorem d_PR_oneOf_3 : decode b_PR_oneOf 3 = .ok (.aload_n 0, 1) := by decide +kernel
theorem d_PR_oneOf_4 : decode b_PR_oneOf 4 = .ok (.getfield 18, 3) := by decide +kernel
theorem d_PR_oneOf_7 : decode b_PR_oneOf 7 = .ok (.if_icmp .ge 26, 3) := by decide +kernel
theorem d_PR_oneOf_10 : decode b_PR_oneOf 10 = .ok (.aload_n 0, 1) := by decide +kernel
theorem d_PR_oneOf_11 : decode b_PR_oneOf 11 = .ok (.getfield 15, 3) := by decide +kernel
theorem d_PR_oneOf_14 : decode b_PR_oneOf 14 = .ok (.iload_n 2, 1) := by decide +kernel
theorem d_PR_oneOf_15 : decode b_PR_oneOf 15 = .ok (.iaload, 1) := by decide +kernel
theorem d_PR_oneOf_16 : decode b_PR_oneOf 16 = .ok (.iload_n 1, 1) := by decide +kernel
theorem d_PR_oneOf_17 : decode b_PR_oneOf 17 = .ok (.if_icmp .ne 10, 3) := by decide +kernel
theorem d_PR_oneOf_20 : decode b_PR_oneOf 20 = .ok (.aload_n 0, 1) := by decide +kernel
theorem d_PR_oneOf_21 : decode b_PR_oneOf 21 = .ok (.getfield 9, 3) := by decide +kernel
theorem d_PR_oneOf_24 : decode b_PR_oneOf 24 = .ok (.iload_n 2, 1) := by decide +kernel
theorem d_PR_oneOf_25 : decode b_PR_oneOf 25 = .ok (.iaload, 1) := by decide +kernel
theorem d_PR_oneOf_26 : decode b_PR_oneOf 26 = .ok (.ireturn, 1) := by decide +kernel
theorem d_PR_oneOf_27 : decode b_PR_oneOf 27 = .ok (.iinc 2 1, 3) := by decide +kernel
theorem d_PR_oneOf_30 : decode b_PR_oneOf 30 = .ok (.goto (-28), 3) := by decide +kernel
theorem d_PR_oneOf_33 : decode b_PR_oneOf 33 = .ok (.iconst (-1), 1) := by decide +kernel
theorem d_PR_oneOf_34 : decode b_PR_oneOf 34 = .ok (.ireturn, 1) := by decide +kernel
theorem d_IS_init_0 : decode b_IS_init 0 = .ok (.aload_n 0, 1) := by decide +kernel
theorem d_IS_init_1 : decode b_IS_init 1 = .ok (.invokespecial 3, 3) := by decide +kernel
theorem d_IS_init_4 : decode b_IS_init 4 = .ok (.aload_n 0, 1) := by decide +kernel
theorem d_IS_init_5 : decode b_IS_init 5 = .ok (.sipush 2000, 3) := by decide +kernel
theorem d_IS_init_8 : decode b_IS_init 8 = .ok (.newarray .int, 2) := by decide +kernel
theorem d_IS_init_10 : decode b_IS_init 10 = .ok (.putfield 9, 3) := by decide +kernel
theorem d_IS_init_13 : decode b_IS_init 13 = .ok (.aload_n 0, 1) := by decide +kernel
theorem d_IS_init_14 : decode b_IS_init 14 = .ok (.aload_n 1, 1) := by decide +kernel
theorem d_IS_init_15 : decode b_IS_init 15 = .ok (.putfield 15, 3) := by decide +kernel
theorem d_IS_init_18 : decode b_IS_init 18 = .ok (.return_, 1) := by decide +kernel
theorem d_IS_findMatches_0 : decode b_IS_findMatches 0 = .ok (.iconst 0, 1) := by decide +kernel
theorem d_IS_findMatches_1 : decode b_IS_findMatches 1 = .ok (.istore_n 3, 1) := by decide +kernel
theorem d_IS_findMatches_2 : decode b_IS_findMatches 2 = .ok (.iload_n 1, 1) := by decide +kernel
theorem d_IS_findMatches_3 : decode b_IS_findMatches 3 = .ok (.istore 4, 2) := by decide +kernel
theorem d_IS_findMatches_5 : decode b_IS_findMatches 5 = .ok (.iload 4, 2) := by decide +kernel
theorem d_IS_findMatches_7 : decode b_IS_findMatches 7 = .ok (.iload_n 2, 1) := by decide +kernel
theorem d_IS_findMatches_8 : decode b_IS_findMatches 8 = .ok (.if_icmp .ge 104, 3) := by decide +kernel
theorem d_IS_findMatches_11 : decode b_IS_findMatches 11 = .ok (.aload_n 0, 1) := by decide +kernel
theorem d_IS_findMatches_12 : decode b_IS_findMatches 12 = .ok (.getfield 15, 3) := by decide +kernel
theorem d_IS_findMatches_15 : decode b_IS_findMatches 15 = .ok (.getfield 19, 3) := by decide +kernel
theorem d_IS_findMatches_18 : decode b_IS_findMatches 18 = .ok (.iload 4, 2) := by decide +kernel
theorem d_IS_findMatches_20 : decode b_IS_findMatches 20 = .ok (.iconst (-1), 1) := by decide +kernel
theorem d_IS_findMatches_21 : decode b_IS_findMatches 21 = .ok (.iastore, 1) := by decide +kernel
theorem d_IS_findMatches_22 : decode b_IS_findMatches 22 = .ok (.aload_n 0, 1) := by decide +kernel
theorem d_IS_findMatches_23 : decode b_IS_findMatches 23 = .ok (.getfield 15, 3) := by decide +kernel
theorem d_IS_findMatches_26 : decode b_IS_findMatches 26 = .ok (.getfield 24, 3) := by decide +kernel
theorem d_IS_findMatches_29 : decode b_IS_findMatches 29 = .ok (.iload 4, 2) := by decide +kernel
theorem d_IS_findMatches_31 : decode b_IS_findMatches 31 = .ok (.iaload, 1) := by decide +kernel
theorem d_IS_findMatches_32 : decode b_IS_findMatches 32 = .ok (.invokestatic 27, 3) := by decide +kernel
theorem d_IS_findMatches_35 : decode b_IS_findMatches 35 = .ok (.ifCond .eq 17, 3) := by decide +kernel
theorem d_IS_findMatches_38 : decode b_IS_findMatches 38 = .ok (.aload_n 0, 1) := by decide +kernel
theorem d_IS_findMatches_39 : decode b_IS_findMatches 39 = .ok (.getfield 9, 3) := by decide +kernel
theorem d_IS_findMatches_42 : decode b_IS_findMatches 42 = .ok (.iload_n 3, 1) := by decide +kernel
theorem d_IS_findMatches_43 : decode b_IS_findMatches 43 = .ok (.iload 4, 2) := by decide +kernel
theorem d_IS_findMatches_45 : decode b_IS_findMatches 45 = .ok (.iastore, 1) := by decide +kernel
theorem d_IS_findMatches_46 : decode b_IS_findMatches 46 = .ok (.iinc 3 1, 3) := by decide +kernel
theorem d_IS_findMatches_49 : decode b_IS_findMatches 49 = .ok (.goto 57, 3) := by decide +kernel
theorem d_IS_findMatches_52 : decode b_IS_findMatches 52 = .ok (.aload_n 0, 1) := by decide +kernel
theorem d_IS_findMatches_53 : decode b_IS_findMatches 53 = .ok (.getfield 15, 3) := by decide +kernel
theorem d_IS_findMatches_56 : decode b_IS_findMatches 56 = .ok (.getfield 24, 3) := by decide +kernel
theorem d_IS_findMatches_59 : decode b_IS_findMatches 59 = .ok (.iload 4, 2) := by decide +kernel
theorem d_IS_findMatches_61 : decode b_IS_findMatches 61 = .ok (.iaload, 1) := by decide +kernel
theorem d_IS_findMatches_62 : decode b_IS_findMatches 62 = .ok (.bipush 22, 2) := by decide +kernel
theorem d_IS_findMatches_64 : decode b_IS_findMatches 64 = .ok (.if_icmp .ne 42, 3) := by decide +kernel
theorem d_IS_findMatches_67 : decode b_IS_findMatches 67 = .ok (.iload_n 3, 1) := by decide +kernel
theorem d_IS_findMatches_68 : decode b_IS_findMatches 68 = .ok (.ifCond .le 38, 3) := by decide +kernel
theorem d_IS_findMatches_71 : decode b_IS_findMatches 71 = .ok (.iinc 3 (-1), 3) := by decide +kernel
theorem d_IS_findMatches_74 : decode b_IS_findMatches 74 = .ok (.aload_n 0, 1) := by decide +kernel
theorem d_IS_findMatches_75 : decode b_IS_findMatches 75 = .ok (.getfield 15, 3) := by decide +kernel
theorem d_IS_findMatches_78 : decode b_IS_findMatches 78 = .ok (.getfield 19, 3) := by decide +kernel
theorem d_IS_findMatches_81 : decode b_IS_findMatches 81 = .ok (.iload 4, 2) := by decide +kernel
theorem d_IS_findMatches_83 : decode b_IS_findMatches 83 = .ok (.aload_n 0, 1) := by decide +kernel
theorem d_IS_findMatches_84 : decode b_IS_findMatches 84 = .ok (.getfield 9, 3) := by decide +kernel
theorem d_IS_findMatches_87 : decode b_IS_findMatches 87 = .ok (.iload_n 3, 1) := by decide +kernel
theorem d_IS_findMatches_88 : decode b_IS_findMatches 88 = .ok (.iaload, 1) := by decide +kernel
theorem d_IS_findMatches_89 : decode b_IS_findMatches 89 = .ok (.iastore, 1) := by decide +kernel
theorem d_IS_findMatches_90 : decode b_IS_findMatches 90 = .ok (.aload_n 0, 1) := by decide +kernel
theorem d_IS_findMatches_91 : decode b_IS_findMatches 91 = .ok (.getfield 15, 3) := by decide +kernel
theorem d_IS_findMatches_94 : decode b_IS_findMatches 94 = .ok (.getfield 19, 3) := by decide +kernel
theorem d_IS_findMatches_97 : decode b_IS_findMatches 97 = .ok (.aload_n 0, 1) := by decide +kernel
theorem d_IS_findMatches_98 : decode b_IS_findMatches 98 = .ok (.getfield 9, 3) := by decide +kernel
theorem d_IS_findMatches_101 : decode b_IS_findMatches 101 = .ok (.iload_n 3, 1) := by decide +kernel
theorem d_IS_findMatches_102 : decode b_IS_findMatches 102 = .ok (.iaload, 1) := by decide +kernel
theorem d_IS_findMatches_103 : decode b_IS_findMatches 103 = .ok (.iload 4, 2) := by decide +kernel
theorem d_IS_findMatches_105 : decode b_IS_findMatches 105 = .ok (.iastore, 1) := by decide +kernel
theorem d_IS_findMatches_106 : decode b_IS_findMatches 106 = .ok (.iinc 4 1, 3) := by decide +kernel
theorem d_IS_findMatches_109 : decode b_IS_findMatches 109 = .ok (.goto (-104), 3) := by decide +kernel
theorem d_IS_findMatches_112 : decode b_IS_findMatches 112 = .ok (.return_, 1) := by decide +kernel
theorem d_IS_directionIn_0 : decode b_IS_directionIn 0 = .ok (.iload_n 1, 1) := by decide +kernel
theorem d_IS_directionIn_1 : decode b_IS_directionIn 1 = .ok (.istore_n 3, 1) := by decide +kernel
theorem d_IS_directionIn_2 : decode b_IS_directionIn 2 = .ok (.iload_n 3, 1) := by decide +kernel
theorem d_IS_directionIn_3 : decode b_IS_directionIn 3 = .ok (.iload_n 2, 1) := by decide +kernel
theorem d_IS_directionIn_4 : decode b_IS_directionIn 4 = .ok (.if_icmp .ge 80, 3) := by decide +kernel
theorem d_IS_directionIn_7 : decode b_IS_directionIn 7 = .ok (.aload_n 0, 1) := by decide +kernel
theorem d_IS_directionIn_8 : decode b_IS_directionIn 8 = .ok (.getfield 15, 3) := by decide +kernel
theorem d_IS_directionIn_11 : decode b_IS_directionIn 11 = .ok (.getfield 24, 3) := by decide +kernel
theorem d_IS_directionIn_14 : decode b_IS_directionIn 14 = .ok (.iload_n 3, 1) := by decide +kernel
theorem d_IS_directionIn_15 : decode b_IS_directionIn 15 = .ok (.iaload, 1) := by decide +kernel
theorem d_IS_directionIn_16 : decode b_IS_directionIn 16 = .ok (.istore 4, 2) := by decide +kernel
theorem d_IS_directionIn_18 : decode b_IS_directionIn 18 = .ok (.iload 4, 2) := by decide +kernel
theorem d_IS_directionIn_20 : decode b_IS_directionIn 20 = .ok (.ifCond .ne 5, 3) := by decide +kernel
theorem d_IS_directionIn_23 : decode b_IS_directionIn 23 = .ok (.iconst 0, 1) := by decide +kernel
theorem d_IS_directionIn_24 : decode b_IS_directionIn 24 = .ok (.ireturn, 1) := by decide +kernel
theorem d_IS_directionIn_25 : decode b_IS_directionIn 25 = .ok (.iload 4, 2) := by decide +kernel
theorem d_IS_directionIn_27 : decode b_IS_directionIn 27 = .ok (.iconst 1, 1) := by decide +kernel
theorem d_IS_directionIn_28 : decode b_IS_directionIn 28 = .ok (.if_icmp .eq 9, 3) := by decide +kernel
theorem d_IS_directionIn_31 : decode b_IS_directionIn 31 = .ok (.iload 4, 2) := by decide +kernel
theorem d_IS_directionIn_33 : decode b_IS_directionIn 33 = .ok (.iconst 2, 1) := by decide +kernel
theorem d_IS_directionIn_34 : decode b_IS_directionIn 34 = .ok (.if_icmp .ne 5, 3) := by decide +kernel
theorem d_IS_directionIn_37 : decode b_IS_directionIn 37 = .ok (.iconst 1, 1) := by decide +kernel
theorem d_IS_directionIn_38 : decode b_IS_directionIn 38 = .ok (.ireturn, 1) := by decide +kernel
theorem d_IS_directionIn_39 : decode b_IS_directionIn 39 = .ok (.iload 4, 2) := by decide +kernel
theorem d_IS_directionIn_41 : decode b_IS_directionIn 41 = .ok (.invokestatic 27, 3) := by decide +kernel
theorem d_IS_directionIn_44 : decode b_IS_directionIn 44 = .ok (.ifCond .eq 34, 3) := by decide +kernel
theorem d_IS_directionIn_47 : decode b_IS_directionIn 47 = .ok (.iload_n 3, 1) := by decide +kernel
theorem d_IS_directionIn_48 : decode b_IS_directionIn 48 = .ok (.aload_n 0, 1) := by decide +kernel
theorem d_IS_directionIn_49 : decode b_IS_directionIn 49 = .ok (.getfield 15, 3) := by decide +kernel
theorem d_IS_directionIn_52 : decode b_IS_directionIn 52 = .ok (.getfield 19, 3) := by decide +kernel
theorem d_IS_directionIn_55 : decode b_IS_directionIn 55 = .ok (.iload_n 3, 1) := by decide +kernel
theorem d_IS_directionIn_56 : decode b_IS_directionIn 56 = .ok (.iaload, 1) := by decide +kernel
theorem d_IS_directionIn_57 : decode b_IS_directionIn 57 = .ok (.iconst (-1), 1) := by decide +kernel
theorem d_IS_directionIn_58 : decode b_IS_directionIn 58 = .ok (.if_icmp .ne 7, 3) := by decide +kernel
theorem d_IS_directionIn_61 : decode b_IS_directionIn 61 = .ok (.iload_n 2, 1) := by decide +kernel
theorem d_IS_directionIn_62 : decode b_IS_directionIn 62 = .ok (.goto 12, 3) := by decide +kernel
theorem d_IS_directionIn_65 : decode b_IS_directionIn 65 = .ok (.aload_n 0, 1) := by decide +kernel
theorem d_IS_directionIn_66 : decode b_IS_directionIn 66 = .ok (.getfield 15, 3) := by decide +kernel
theorem d_IS_directionIn_69 : decode b_IS_directionIn 69 = .ok (.getfield 19, 3) := by decide +kernel
theorem d_IS_directionIn_72 : decode b_IS_directionIn 72 = .ok (.iload_n 3, 1) := by decide +kernel
theorem d_IS_directionIn_73 : decode b_IS_directionIn 73 = .ok (.iaload, 1) := by decide +kernel
theorem d_IS_directionIn_74 : decode b_IS_directionIn 74 = .ok (.invokestatic 31, 3) := by decide +kernel
theorem d_IS_directionIn_77 : decode b_IS_directionIn 77 = .ok (.istore_n 3, 1) := by decide +kernel
theorem d_IS_directionIn_78 : decode b_IS_directionIn 78 = .ok (.iinc 3 1, 3) := by decide +kernel
theorem d_IS_directionIn_81 : decode b_IS_directionIn 81 = .ok (.goto (-79), 3) := by decide +kernel
theorem d_IS_directionIn_84 : decode b_IS_directionIn 84 = .ok (.iconst 0, 1) := by decide +kernel
theorem d_IS_directionIn_85 : decode b_IS_directionIn 85 = .ok (.ireturn, 1) := by decide +kernel
theorem d_IS_directionOfIsolate_0 : decode b_IS_directionOfIsolate 0 = .ok (.aload_n 0, 1) := by decide +kernel
theorem d_IS_directionOfIsolate_1 : decode b_IS_directionOfIsolate 1 = .ok (.getfield 15, 3) := by decide +kernel
theorem d_IS_directionOfIsolate_4 : decode b_IS_directionOfIsolate 4 = .ok (.getfield 24, 3) := by decide +kernel
theorem d_IS_directionOfIsolate_7 : decode b_IS_directionOfIsolate 7 = .ok (.iload_n 1, 1) := by decide +kernel
theorem d_IS_directionOfIsolate_8 : decode b_IS_directionOfIsolate 8 = .ok (.iaload, 1) := by decide +kernel
theorem d_IS_directionOfIsolate_9 : decode b_IS_directionOfIsolate 9 = .ok (.istore_n 3, 1) := by decide +kernel
theorem d_IS_directionOfIsolate_10 : decode b_IS_directionOfIsolate 10 = .ok (.iload_n 3, 1) := by decide +kernel
theorem d_IS_directionOfIsolate_11 : decode b_IS_directionOfIsolate 11 = .ok (.bipush 21, 2) := by decide +kernel
theorem d_IS_directionOfIsolate_13 : decode b_IS_directionOfIsolate 13 = .ok (.if_icmp .ne 34, 3) := by decide +kernel
theorem d_IS_directionOfIsolate_16 : decode b_IS_directionOfIsolate 16 = .ok (.aload_n 0, 1) := by decide +kernel
theorem d_IS_directionOfIsolate_17 : decode b_IS_directionOfIsolate 17 = .ok (.getfield 15, 3) := by decide +kernel
theorem d_IS_directionOfIsolate_20 : decode b_IS_directionOfIsolate 20 = .ok (.getfield 19, 3) := by decide +kernel
theorem d_IS_directionOfIsolate_23 : decode b_IS_directionOfIsolate 23 = .ok (.iload_n 1, 1) := by decide +kernel
theorem d_IS_directionOfIsolate_24 : decode b_IS_directionOfIsolate 24 = .ok (.iaload, 1) := by decide +kernel
theorem d_IS_directionOfIsolate_25 : decode b_IS_directionOfIsolate 25 = .ok (.istore 4, 2) := by decide +kernel
theorem d_IS_directionOfIsolate_27 : decode b_IS_directionOfIsolate 27 = .ok (.aload_n 0, 1) := by decide +kernel
theorem d_IS_directionOfIsolate_28 : decode b_IS_directionOfIsolate 28 = .ok (.iload_n 1, 1) := by decide +kernel
theorem d_IS_directionOfIsolate_29 : decode b_IS_directionOfIsolate 29 = .ok (.iconst 1, 1) := by decide +kernel
theorem d_IS_directionOfIsolate_30 : decode b_IS_directionOfIsolate 30 = .ok (.iadd, 1) := by decide +kernel
theorem d_IS_directionOfIsolate_31 : decode b_IS_directionOfIsolate 31 = .ok (.iload 4, 2) := by decide +kernel
theorem d_IS_directionOfIsolate_33 : decode b_IS_directionOfIsolate 33 = .ok (.iconst (-1), 1) := by decide +kernel
theorem d_IS_directionOfIsolate_34 : decode b_IS_directionOfIsolate 34 = .ok (.if_icmp .ne 7, 3) := by decide +kernel
theorem d_IS_directionOfIsolate_37 : decode b_IS_directionOfIsolate 37 = .ok (.iload_n 2, 1) := by decide +kernel
theorem d_IS_directionOfIsolate_38 : decode b_IS_directionOfIsolate 38 = .ok (.goto 5, 3) := by decide +kernel
theorem d_IS_directionOfIsolate_41 : decode b_IS_directionOfIsolate 41 = .ok (.iload 4, 2) := by decide +kernel
theorem d_IS_directionOfIsolate_43 : decode b_IS_directionOfIsolate 43 = .ok (.invokevirtual 37, 3) := by decide +kernel
theorem d_IS_directionOfIsolate_46 : decode b_IS_directionOfIsolate 46 = .ok (.ireturn, 1) := by decide +kernel
theorem d_IS_directionOfIsolate_47 : decode b_IS_directionOfIsolate 47 = .ok (.iload_n 3, 1) := by decide +kernel
theorem d_IS_directionOfIsolate_48 : decode b_IS_directionOfIsolate 48 = .ok (.bipush 20, 2) := by decide +kernel
theorem d_IS_directionOfIsolate_50 : decode b_IS_directionOfIsolate 50 = .ok (.if_icmp .ne 7, 3) := by decide +kernel
theorem d_IS_directionOfIsolate_53 : decode b_IS_directionOfIsolate 53 = .ok (.iconst 1, 1) := by decide +kernel
theorem d_IS_directionOfIsolate_54 : decode b_IS_directionOfIsolate 54 = .ok (.goto 4, 3) := by decide +kernel
theorem d_IS_directionOfIsolate_57 : decode b_IS_directionOfIsolate 57 = .ok (.iconst 0, 1) := by decide +kernel
theorem d_IS_directionOfIsolate_58 : decode b_IS_directionOfIsolate 58 = .ok (.ireturn, 1) := by decide +kernel
theorem d_EX_init_0 : decode b_EX_init 0 = .ok (.aload_n 0, 1) := by decide +kernel
theorem d_EX_init_1 : decode b_EX_init 1 = .ok (.invokespecial 3, 3) := by decide +kernel
theorem d_EX_init_4 : decode b_EX_init 4 = .ok (.aload_n 0, 1) := by decide +kernel
theorem d_EX_init_5 : decode b_EX_init 5 = .ok (.bipush 127, 2) := by decide +kernel
theorem d_EX_init_7 : decode b_EX_init 7 = .ok (.newarray .int, 2) := by decide +kernel
theorem d_EX_init_9 : decode b_EX_init 9 = .ok (.putfield 9, 3) := by decide +kernel
theorem d_EX_init_12 : decode b_EX_init 12 = .ok (.aload_n 0, 1) := by decide +kernel
theorem d_EX_init_13 : decode b_EX_init 13 = .ok (.bipush 127, 2) := by decide +kernel
theorem d_EX_init_15 : decode b_EX_init 15 = .ok (.newarray .int, 2) := by decide +kernel
theorem d_EX_init_17 : decode b_EX_init 17 = .ok (.putfield 15, 3) := by decide +kernel
theorem d_EX_init_20 : decode b_EX_init 20 = .ok (.aload_n 0, 1) := by decide +kernel
theorem d_EX_init_21 : decode b_EX_init 21 = .ok (.bipush 127, 2) := by decide +kernel
theorem d_EX_init_23 : decode b_EX_init 23 = .ok (.newarray .boolean, 2) := by decide +kernel
theorem d_EX_init_25 : decode b_EX_init 25 = .ok (.putfield 18, 3) := by decide +kernel
theorem d_EX_init_28 : decode b_EX_init 28 = .ok (.aload_n 0, 1) := by decide +kernel
theorem d_EX_init_29 : decode b_EX_init 29 = .ok (.iconst 0, 1) := by decide +kernel
theorem d_EX_init_30 : decode b_EX_init 30 = .ok (.putfield 22, 3) := by decide +kernel
theorem d_EX_init_33 : decode b_EX_init 33 = .ok (.aload_n 0, 1) := by decide +kernel
theorem d_EX_init_34 : decode b_EX_init 34 = .ok (.iconst 0, 1) := by decide +kernel
theorem d_EX_init_35 : decode b_EX_init 35 = .ok (.putfield 26, 3) := by decide +kernel
theorem d_EX_init_38 : decode b_EX_init 38 = .ok (.aload_n 0, 1) := by decide +kernel
theorem d_EX_init_39 : decode b_EX_init 39 = .ok (.iconst 0, 1) := by decide +kernel
theorem d_EX_init_40 : decode b_EX_init 40 = .ok (.putfield 29, 3) := by decide +kernel
theorem d_EX_init_43 : decode b_EX_init 43 = .ok (.aload_n 0, 1) := by decide +kernel
theorem d_EX_init_44 : decode b_EX_init 44 = .ok (.iconst 0, 1) := by decide +kernel
theorem d_EX_init_45 : decode b_EX_init 45 = .ok (.putfield 32, 3) := by decide +kernel
theorem d_EX_init_48 : decode b_EX_init 48 = .ok (.aload_n 0, 1) := by decide +kernel
theorem d_EX_init_49 : decode b_EX_init 49 = .ok (.aload_n 1, 1) := by decide +kernel
theorem d_EX_init_50 : decode b_EX_init 50 = .ok (.putfield 35, 3) := by decide +kernel
theorem d_EX_init_53 : decode b_EX_init 53 = .ok (.aload_n 0, 1) := by decide +kernel
theorem d_EX_init_54 : decode b_EX_init 54 = .ok (.aload_n 2, 1) := by decide +kernel
theorem d_EX_init_55 : decode b_EX_init 55 = .ok (.putfield 39, 3) := by decide +kernel
theorem d_EX_init_58 : decode b_EX_init 58 = .ok (.return_, 1) := by decide +kernel
theorem d_EX_giveLevels_0 : decode b_EX_giveLevels 0 = .ok (.aload_n 0, 1) := by decide +kernel
theorem d_EX_giveLevels_1 : decode b_EX_giveLevels 1 = .ok (.iconst 0, 1) := by decide +kernel
theorem d_EX_giveLevels_2 : decode b_EX_giveLevels 2 = .ok (.putfield 22, 3) := by decide +kernel
theorem d_EX_giveLevels_5 : decode b_EX_giveLevels 5 = .ok (.aload_n 0, 1) := by decide +kernel
theorem d_EX_giveLevels_6 : decode b_EX_giveLevels 6 = .ok (.getfield 9, 3) := by decide +kernel
theorem d_EX_giveLevels_9 : decode b_EX_giveLevels 9 = .ok (.iconst 0, 1) := by decide +kernel
theorem d_EX_giveLevels_10 : decode b_EX_giveLevels 10 = .ok (.iload_n 3, 1) := by decide +kernel
theorem d_EX_giveLevels_11 : decode b_EX_giveLevels 11 = .ok (.iastore, 1) := by decide +kernel
theorem d_EX_giveLevels_12 : decode b_EX_giveLevels 12 = .ok (.aload_n 0, 1) := by decide +kernel
theorem d_EX_giveLevels_13 : decode b_EX_giveLevels 13 = .ok (.getfield 15, 3) := by decide +kernel
theorem d_EX_giveLevels_16 : decode b_EX_giveLevels 16 = .ok (.iconst 0, 1) := by decide +kernel
theorem d_EX_giveLevels_17 : decode b_EX_giveLevels 17 = .ok (.iconst (-1), 1) := by decide +kernel
theorem d_EX_giveLevels_18 : decode b_EX_giveLevels 18 = .ok (.iastore, 1) := by decide +kernel
theorem d_EX_giveLevels_19 : decode b_EX_giveLevels 19 = .ok (.aload_n 0, 1) := by decide +kernel
theorem d_EX_giveLevels_20 : decode b_EX_giveLevels 20 = .ok (.getfield 18, 3) := by decide +kernel
theorem d_EX_giveLevels_23 : decode b_EX_giveLevels 23 = .ok (.iconst 0, 1) := by decide +kernel
theorem d_EX_giveLevels_24 : decode b_EX_giveLevels 24 = .ok (.iconst 0, 1) := by decide +kernel
theorem d_EX_giveLevels_25 : decode b_EX_giveLevels 25 = .ok (.bastore, 1) := by decide +kernel
theorem d_EX_giveLevels_26 : decode b_EX_giveLevels 26 = .ok (.aload_n 0, 1) := by decide +kernel
theorem d_EX_giveLevels_27 : decode b_EX_giveLevels 27 = .ok (.iconst 0, 1) := by decide +kernel
theorem d_EX_giveLevels_28 : decode b_EX_giveLevels 28 = .ok (.putfield 26, 3) := by decide +kernel
theorem d_EX_giveLevels_31 : decode b_EX_giveLevels 31 = .ok (.aload_n 0, 1) := by decide +kernel
theorem d_EX_giveLevels_32 : decode b_EX_giveLevels 32 = .ok (.iconst 0, 1) := by decide +kernel
theorem d_EX_giveLevels_33 : decode b_EX_giveLevels 33 = .ok (.putfield 29, 3) := by decide +kernel
theorem d_EX_giveLevels_36 : decode b_EX_giveLevels 36 = .ok (.aload_n 0, 1) := by decide +kernel
theorem d_EX_giveLevels_37 : decode b_EX_giveLevels 37 = .ok (.iconst 0, 1) := by decide +kernel
theorem d_EX_giveLevels_38 : decode b_EX_giveLevels 38 = .ok (.putfield 32, 3) := by decide +kernel
theorem d_EX_giveLevels_41 : decode b_EX_giveLevels 41 = .ok (.iload_n 1, 1) := by decide +kernel
theorem d_EX_giveLevels_42 : decode b_EX_giveLevels 42 = .ok (.istore 4, 2) := by decide +kernel
theorem d_EX_giveLevels_44 : decode b_EX_giveLevels 44 = .ok (.iload 4, 2) := by decide +kernel
theorem d_EX_giveLevels_46 : decode b_EX_giveLevels 46 = .ok (.iload_n 2, 1) := by decide +kernel
theorem d_EX_giveLevels_47 : decode b_EX_giveLevels 47 = .ok (.if_icmp .ge 17, 3) := by decide +kernel
theorem d_EX_giveLevels_50 : decode b_EX_giveLevels 50 = .ok (.aload_n 0, 1) := by decide +kernel
theorem d_EX_giveLevels_51 : decode b_EX_giveLevels 51 = .ok (.iload 4, 2) := by decide +kernel
theorem d_EX_giveLevels_53 : decode b_EX_giveLevels 53 = .ok (.iload_n 2, 1) := by decide +kernel
theorem d_EX_giveLevels_54 : decode b_EX_giveLevels 54 = .ok (.iload_n 3, 1) := by decide +kernel
theorem d_EX_giveLevels_55 : decode b_EX_giveLevels 55 = .ok (.invokevirtual 43, 3) := by decide +kernel
theorem d_EX_giveLevels_58 : decode b_EX_giveLevels 58 = .ok (.iinc 4 1, 3) := by decide +kernel
theorem d_EX_giveLevels_61 : decode b_EX_giveLevels 61 = .ok (.goto (-17), 3) := by decide +kernel
theorem d_EX_giveLevels_64 : decode b_EX_giveLevels 64 = .ok (.return_, 1) := by decide +kernel
theorem d_EX_giveLevel_0 : decode b_EX_giveLevel 0 = .ok (.aload_n 0, 1) := by decide +kernel
theorem d_EX_giveLevel_1 : decode b_EX_giveLevel 1 = .ok (.getfield 35, 3) := by decide +kernel
theorem d_EX_giveLevel_4 : decode b_EX_giveLevel 4 = .ok (.getfield 47, 3) := by decide +kernel
theorem d_EX_giveLevel_7 : decode b_EX_giveLevel 7 = .ok (.iload_n 1, 1) := by decide +kernel
theorem d_EX_giveLevel_8 : decode b_EX_giveLevel 8 = .ok (.iaload, 1) := by decide +kernel
theorem d_EX_giveLevel_9 : decode b_EX_giveLevel 9 = .ok (.istore 4, 2) := by decide +kernel
theorem d_EX_giveLevel_11 : decode b_EX_giveLevel 11 = .ok (.iload 4, 2) := by decide +kernel
theorem d_EX_giveLevel_13 : decode b_EX_giveLevel 13 = .ok (.invokestatic 52, 3) := by decide +kernel
theorem d_EX_giveLevel_16 : decode b_EX_giveLevel 16 = .ok (.ifCond .eq 17, 3) := by decide +kernel
theorem d_EX_giveLevel_19 : decode b_EX_giveLevel 19 = .ok (.aload_n 0, 1) := by decide +kernel
theorem d_EX_giveLevel_20 : decode b_EX_giveLevel 20 = .ok (.iload 4, 2) := by decide +kernel
theorem d_EX_giveLevel_22 : decode b_EX_giveLevel 22 = .ok (.invokevirtual 56, 3) := by decide +kernel
theorem d_EX_giveLevel_25 : decode b_EX_giveLevel 25 = .ok (.aload_n 0, 1) := by decide +kernel
theorem d_EX_giveLevel_26 : decode b_EX_giveLevel 26 = .ok (.iload_n 1, 1) := by decide +kernel
theorem d_EX_giveLevel_27 : decode b_EX_giveLevel 27 = .ok (.invokevirtual 60, 3) := by decide +kernel
theorem d_EX_giveLevel_30 : decode b_EX_giveLevel 30 = .ok (.goto 121, 3) := by decide +kernel
theorem d_EX_giveLevel_33 : decode b_EX_giveLevel 33 = .ok (.iload 4, 2) := by decide +kernel
theorem d_EX_giveLevel_35 : decode b_EX_giveLevel 35 = .ok (.invokestatic 63, 3) := by decide +kernel
theorem d_EX_giveLevel_38 : decode b_EX_giveLevel 38 = .ok (.ifCond .eq 24, 3) := by decide +kernel
theorem d_EX_giveLevel_41 : decode b_EX_giveLevel 41 = .ok (.aload_n 0, 1) := by decide +kernel
theorem d_EX_giveLevel_42 : decode b_EX_giveLevel 42 = .ok (.iload_n 1, 1) := by decide +kernel
theorem d_EX_giveLevel_43 : decode b_EX_giveLevel 43 = .ok (.invokevirtual 66, 3) := by decide +kernel
theorem d_EX_giveLevel_46 : decode b_EX_giveLevel 46 = .ok (.aload_n 0, 1) := by decide +kernel
theorem d_EX_giveLevel_47 : decode b_EX_giveLevel 47 = .ok (.aload_n 0, 1) := by decide +kernel
theorem d_EX_giveLevel_48 : decode b_EX_giveLevel 48 = .ok (.getfield 39, 3) := by decide +kernel
theorem d_EX_giveLevel_51 : decode b_EX_giveLevel 51 = .ok (.iload_n 1, 1) := by decide +kernel
theorem d_EX_giveLevel_52 : decode b_EX_giveLevel 52 = .ok (.iload_n 2, 1) := by decide +kernel
theorem d_EX_giveLevel_53 : decode b_EX_giveLevel 53 = .ok (.invokevirtual 69, 3) := by decide +kernel
theorem d_EX_giveLevel_56 : decode b_EX_giveLevel 56 = .ok (.invokevirtual 75, 3) := by decide +kernel
theorem d_EX_giveLevel_59 : decode b_EX_giveLevel 59 = .ok (.goto 92, 3) := by decide +kernel
theorem d_EX_giveLevel_62 : decode b_EX_giveLevel 62 = .ok (.iload 4, 2) := by decide +kernel
theorem d_EX_giveLevel_64 : decode b_EX_giveLevel 64 = .ok (.bipush 22, 2) := by decide +kernel
theorem d_EX_giveLevel_66 : decode b_EX_giveLevel 66 = .ok (.if_icmp .ne 15, 3) := by decide +kernel
theorem d_EX_giveLevel_69 : decode b_EX_giveLevel 69 = .ok (.aload_n 0, 1) := by decide +kernel
theorem d_EX_giveLevel_70 : decode b_EX_giveLevel 70 = .ok (.invokevirtual 78, 3) := by decide +kernel
theorem d_EX_giveLevel_73 : decode b_EX_giveLevel 73 = .ok (.aload_n 0, 1) := by decide +kernel
theorem d_EX_giveLevel_74 : decode b_EX_giveLevel 74 = .ok (.iload_n 1, 1) := by decide +kernel
theorem d_EX_giveLevel_75 : decode b_EX_giveLevel 75 = .ok (.invokevirtual 66, 3) := by decide +kernel
theorem d_EX_giveLevel_78 : decode b_EX_giveLevel 78 = .ok (.goto 73, 3) := by decide +kernel
theorem d_EX_giveLevel_81 : decode b_EX_giveLevel 81 = .ok (.iload 4, 2) := by decide +kernel
theorem d_EX_giveLevel_83 : decode b_EX_giveLevel 83 = .ok (.bipush 18, 2) := by decide +kernel
theorem d_EX_giveLevel_85 : decode b_EX_giveLevel 85 = .ok (.if_icmp .ne 15, 3) := by decide +kernel
theorem d_EX_giveLevel_88 : decode b_EX_giveLevel 88 = .ok (.aload_n 0, 1) := by decide +kernel
theorem d_EX_giveLevel_89 : decode b_EX_giveLevel 89 = .ok (.invokevirtual 81, 3) := by decide +kernel
theorem d_EX_giveLevel_92 : decode b_EX_giveLevel 92 = .ok (.aload_n 0, 1) := by decide +kernel
theorem d_EX_giveLevel_93 : decode b_EX_giveLevel 93 = .ok (.iload_n 1, 1) := by decide +kernel
theorem d_EX_giveLevel_94 : decode b_EX_giveLevel 94 = .ok (.invokevirtual 60, 3) := by decide +kernel
theorem d_EX_giveLevel_97 : decode b_EX_giveLevel 97 = .ok (.goto 54, 3) := by decide +kernel
theorem d_EX_giveLevel_100 : decode b_EX_giveLevel 100 = .ok (.iload 4, 2) := by decide +kernel
theorem d_EX_giveLevel_102 : decode b_EX_giveLevel 102 = .ok (.bipush 9, 2) := by decide +kernel
theorem d_EX_giveLevel_104 : decode b_EX_giveLevel 104 = .ok (.if_icmp .ne 11, 3) := by decide +kernel
theorem d_EX_giveLevel_107 : decode b_EX_giveLevel 107 = .ok (.aload_n 0, 1) := by decide +kernel
theorem d_EX_giveLevel_108 : decode b_EX_giveLevel 108 = .ok (.iload_n 1, 1) := by decide +kernel
theorem d_EX_giveLevel_109 : decode b_EX_giveLevel 109 = .ok (.invokevirtual 60, 3) := by decide +kernel
theorem d_EX_giveLevel_112 : decode b_EX_giveLevel 112 = .ok (.goto 39, 3) := by decide +kernel
theorem d_EX_giveLevel_115 : decode b_EX_giveLevel 115 = .ok (.iload 4, 2) := by decide +kernel
theorem d_EX_giveLevel_117 : decode b_EX_giveLevel 117 = .ok (.bipush 10, 2) := by decide +kernel
theorem d_EX_giveLevel_119 : decode b_EX_giveLevel 119 = .ok (.if_icmp .ne 27, 3) := by decide +kernel
theorem d_EX_giveLevel_122 : decode b_EX_giveLevel 122 = .ok (.aload_n 0, 1) := by decide +kernel
theorem d_EX_giveLevel_123 : decode b_EX_giveLevel 123 = .ok (.getfield 35, 3) := by decide +kernel
theorem d_EX_giveLevel_126 : decode b_EX_giveLevel 126 = .ok (.getfield 84, 3) := by decide +kernel
theorem d_EX_giveLevel_129 : decode b_EX_giveLevel 129 = .ok (.iload_n 1, 1) := by decide +kernel
theorem d_EX_giveLevel_130 : decode b_EX_giveLevel 130 = .ok (.iload_n 3, 1) := by decide +kernel
theorem d_EX_giveLevel_131 : decode b_EX_giveLevel 131 = .ok (.iastore, 1) := by decide +kernel
theorem d_EX_giveLevel_132 : decode b_EX_giveLevel 132 = .ok (.aload_n 0, 1) := by decide +kernel
theorem d_EX_giveLevel_133 : decode b_EX_giveLevel 133 = .ok (.getfield 35, 3) := by decide +kernel
theorem d_EX_giveLevel_136 : decode b_EX_giveLevel 136 = .ok (.getfield 87, 3) := by decide +kernel
theorem d_EX_giveLevel_139 : decode b_EX_giveLevel 139 = .ok (.iload_n 1, 1) := by decide +kernel
theorem d_EX_giveLevel_140 : decode b_EX_giveLevel 140 = .ok (.bipush 10, 2) := by decide +kernel
theorem d_EX_giveLevel_142 : decode b_EX_giveLevel 142 = .ok (.iastore, 1) := by decide +kernel
theorem d_EX_giveLevel_143 : decode b_EX_giveLevel 143 = .ok (.goto 8, 3) := by decide +kernel
theorem d_EX_giveLevel_146 : decode b_EX_giveLevel 146 = .ok (.aload_n 0, 1) := by decide +kernel
theorem d_EX_giveLevel_147 : decode b_EX_giveLevel 147 = .ok (.iload_n 1, 1) := by decide +kernel
theorem d_EX_giveLevel_148 : decode b_EX_giveLevel 148 = .ok (.invokevirtual 66, 3) := by decide +kernel
theorem d_EX_giveLevel_151 : decode b_EX_giveLevel 151 = .ok (.return_, 1) := by decide +kernel
theorem d_EX_remove_0 : decode b_EX_remove 0 = .ok (.aload_n 0, 1) := by decide +kernel
theorem d_EX_remove_1 : decode b_EX_remove 1 = .ok (.getfield 35, 3) := by decide +kernel
theorem d_EX_remove_4 : decode b_EX_remove 4 = .ok (.getfield 84, 3) := by decide +kernel
theorem d_EX_remove_7 : decode b_EX_remove 7 = .ok (.iload_n 1, 1) := by decide +kernel
theorem d_EX_remove_8 : decode b_EX_remove 8 = .ok (.iconst (-1), 1) := by decide +kernel
theorem d_EX_remove_9 : decode b_EX_remove 9 = .ok (.iastore, 1) := by decide +kernel
theorem d_EX_remove_10 : decode b_EX_remove 10 = .ok (.aload_n 0, 1) := by decide +kernel
theorem d_EX_remove_11 : decode b_EX_remove 11 = .ok (.getfield 35, 3) := by decide +kernel
theorem d_EX_remove_14 : decode b_EX_remove 14 = .ok (.getfield 87, 3) := by decide +kernel
theorem d_EX_remove_17 : decode b_EX_remove 17 = .ok (.iload_n 1, 1) := by decide +kernel
theorem d_EX_remove_18 : decode b_EX_remove 18 = .ok (.iconst (-1), 1) := by decide +kernel
theorem d_EX_remove_19 : decode b_EX_remove 19 = .ok (.iastore, 1) := by decide +kernel
theorem d_EX_remove_20 : decode b_EX_remove 20 = .ok (.return_, 1) := by decide +kernel
theorem d_EX_takeTop_0 : decode b_EX_takeTop 0 = .ok (.aload_n 0, 1) := by decide +kernel
theorem d_EX_takeTop_1 : decode b_EX_takeTop 1 = .ok (.getfield 15, 3) := by decide +kernel
theorem d_EX_takeTop_4 : decode b_EX_takeTop 4 = .ok (.aload_n 0, 1) := by decide +kernel
theorem d_EX_takeTop_5 : decode b_EX_takeTop 5 = .ok (.getfield 22, 3) := by decide +kernel
theorem d_EX_takeTop_8 : decode b_EX_takeTop 8 = .ok (.iaload, 1) := by decide +kernel
theorem d_EX_takeTop_9 : decode b_EX_takeTop 9 = .ok (.istore_n 2, 1) := by decide +kernel
theorem d_EX_takeTop_10 : decode b_EX_takeTop 10 = .ok (.aload_n 0, 1) := by decide +kernel
theorem d_EX_takeTop_11 : decode b_EX_takeTop 11 = .ok (.getfield 35, 3) := by decide +kernel
theorem d_EX_takeTop_14 : decode b_EX_takeTop 14 = .ok (.getfield 84, 3) := by decide +kernel
theorem d_EX_takeTop_17 : decode b_EX_takeTop 17 = .ok (.iload_n 1, 1) := by decide +kernel
theorem d_EX_takeTop_18 : decode b_EX_takeTop 18 = .ok (.aload_n 0, 1) := by decide +kernel
theorem d_EX_takeTop_19 : decode b_EX_takeTop 19 = .ok (.getfield 9, 3) := by decide +kernel
theorem d_EX_takeTop_22 : decode b_EX_takeTop 22 = .ok (.aload_n 0, 1) := by decide +kernel
theorem d_EX_takeTop_23 : decode b_EX_takeTop 23 = .ok (.getfield 22, 3) := by decide +kernel
theorem d_EX_takeTop_26 : decode b_EX_takeTop 26 = .ok (.iaload, 1) := by decide +kernel
theorem d_EX_takeTop_27 : decode b_EX_takeTop 27 = .ok (.iastore, 1) := by decide +kernel
theorem d_EX_takeTop_28 : decode b_EX_takeTop 28 = .ok (.aload_n 0, 1) := by decide +kernel
theorem d_EX_takeTop_29 : decode b_EX_takeTop 29 = .ok (.getfield 35, 3) := by decide +kernel
theorem d_EX_takeTop_32 : decode b_EX_takeTop 32 = .ok (.getfield 87, 3) := by decide +kernel
theorem d_EX_takeTop_35 : decode b_EX_takeTop 35 = .ok (.iload_n 1, 1) := by decide +kernel
theorem d_EX_takeTop_36 : decode b_EX_takeTop 36 = .ok (.iload_n 2, 1) := by decide +kernel
theorem d_EX_takeTop_37 : decode b_EX_takeTop 37 = .ok (.iconst (-1), 1) := by decide +kernel
theorem d_EX_takeTop_38 : decode b_EX_takeTop 38 = .ok (.if_icmp .ne 15, 3) := by decide +kernel
theorem d_EX_takeTop_41 : decode b_EX_takeTop 41 = .ok (.aload_n 0, 1) := by decide +kernel
theorem d_EX_takeTop_42 : decode b_EX_takeTop 42 = .ok (.getfield 35, 3) := by decide +kernel
theorem d_EX_takeTop_45 : decode b_EX_takeTop 45 = .ok (.getfield 47, 3) := by decide +kernel
theorem d_EX_takeTop_48 : decode b_EX_takeTop 48 = .ok (.iload_n 1, 1) := by decide +kernel
theorem d_EX_takeTop_49 : decode b_EX_takeTop 49 = .ok (.iaload, 1) := by decide +kernel
theorem d_EX_takeTop_50 : decode b_EX_takeTop 50 = .ok (.goto 4, 3) := by decide +kernel
theorem d_EX_takeTop_53 : decode b_EX_takeTop 53 = .ok (.iload_n 2, 1) := by decide +kernel
theorem d_EX_takeTop_54 : decode b_EX_takeTop 54 = .ok (.iastore, 1) := by decide +kernel
theorem d_EX_takeTop_55 : decode b_EX_takeTop 55 = .ok (.return_, 1) := by decide +kernel
theorem d_EX_openEmbedding_0 : decode b_EX_openEmbedding 0 = .ok (.aload_n 0, 1) := by decide +kernel
theorem d_EX_openEmbedding_1 : decode b_EX_openEmbedding 1 = .ok (.iload_n 1, 1) := by decide +kernel
theorem d_EX_openEmbedding_2 : decode b_EX_openEmbedding 2 = .ok (.bipush 16, 2) := by decide +kernel
theorem d_EX_openEmbedding_4 : decode b_EX_openEmbedding 4 = .ok (.if_icmp .eq 9, 3) := by decide +kernel
theorem d_EX_openEmbedding_7 : decode b_EX_openEmbedding 7 = .ok (.iload_n 1, 1) := by decide +kernel
theorem d_EX_openEmbedding_8 : decode b_EX_openEmbedding 8 = .ok (.bipush 17, 2) := by decide +kernel
theorem d_EX_openEmbedding_10 : decode b_EX_openEmbedding 10 = .ok (.if_icmp .ne 7, 3) := by decide +kernel
theorem d_EX_openEmbedding_13 : decode b_EX_openEmbedding 13 = .ok (.iconst 1, 1) := by decide +kernel
theorem d_EX_openEmbedding_14 : decode b_EX_openEmbedding 14 = .ok (.goto 4, 3) := by decide +kernel
theorem d_EX_openEmbedding_17 : decode b_EX_openEmbedding 17 = .ok (.iconst 0, 1) := by decide +kernel
theorem d_EX_openEmbedding_18 : decode b_EX_openEmbedding 18 = .ok (.invokevirtual 90, 3) := by decide +kernel
theorem d_EX_openEmbedding_21 : decode b_EX_openEmbedding 21 = .ok (.istore_n 2, 1) := by decide +kernel
theorem d_EX_openEmbedding_22 : decode b_EX_openEmbedding 22 = .ok (.aload_n 0, 1) := by decide +kernel
theorem d_EX_openEmbedding_23 : decode b_EX_openEmbedding 23 = .ok (.iload_n 2, 1) := by decide +kernel
theorem d_EX_openEmbedding_24 : decode b_EX_openEmbedding 24 = .ok (.invokevirtual 94, 3) := by decide +kernel
theorem d_EX_openEmbedding_27 : decode b_EX_openEmbedding 27 = .ok (.ifCond .eq 35, 3) := by decide +kernel
theorem d_EX_openEmbedding_30 : decode b_EX_openEmbedding 30 = .ok (.iload_n 1, 1) := by decide +kernel
theorem d_EX_openEmbedding_31 : decode b_EX_openEmbedding 31 = .ok (.bipush 17, 2) := by decide +kernel
theorem d_EX_openEmbedding_33 : decode b_EX_openEmbedding 33 = .ok (.if_icmp .ne 7, 3) := by decide +kernel
theorem d_EX_openEmbedding_36 : decode b_EX_openEmbedding 36 = .ok (.iconst 1, 1) := by decide +kernel
theorem d_EX_openEmbedding_37 : decode b_EX_openEmbedding 37 = .ok (.goto 14, 3) := by decide +kernel
theorem d_EX_openEmbedding_40 : decode b_EX_openEmbedding 40 = .ok (.iload_n 1, 1) := by decide +kernel
theorem d_EX_openEmbedding_41 : decode b_EX_openEmbedding 41 = .ok (.bipush 15, 2) := by decide +kernel
theorem d_EX_openEmbedding_43 : decode b_EX_openEmbedding 43 = .ok (.if_icmp .ne 7, 3) := by decide +kernel
theorem d_EX_openEmbedding_46 : decode b_EX_openEmbedding 46 = .ok (.iconst 0, 1) := by decide +kernel
theorem d_EX_openEmbedding_47 : decode b_EX_openEmbedding 47 = .ok (.goto 4, 3) := by decide +kernel
theorem d_EX_openEmbedding_50 : decode b_EX_openEmbedding 50 = .ok (.iconst (-1), 1) := by decide +kernel
theorem d_EX_openEmbedding_51 : decode b_EX_openEmbedding 51 = .ok (.istore_n 3, 1) := by decide +kernel
theorem d_EX_openEmbedding_52 : decode b_EX_openEmbedding 52 = .ok (.aload_n 0, 1) := by decide +kernel
theorem d_EX_openEmbedding_53 : decode b_EX_openEmbedding 53 = .ok (.iload_n 2, 1) := by decide +kernel
theorem d_EX_openEmbedding_54 : decode b_EX_openEmbedding 54 = .ok (.iload_n 3, 1) := by decide +kernel
theorem d_EX_openEmbedding_55 : decode b_EX_openEmbedding 55 = .ok (.iconst 0, 1) := by decide +kernel
theorem d_EX_openEmbedding_56 : decode b_EX_openEmbedding 56 = .ok (.invokevirtual 97, 3) := by decide +kernel
theorem d_EX_openEmbedding_59 : decode b_EX_openEmbedding 59 = .ok (.goto 20, 3) := by decide +kernel
theorem d_EX_openEmbedding_62 : decode b_EX_openEmbedding 62 = .ok (.aload_n 0, 1) := by decide +kernel
theorem d_EX_openEmbedding_63 : decode b_EX_openEmbedding 63 = .ok (.getfield 26, 3) := by decide +kernel
theorem d_EX_openEmbedding_66 : decode b_EX_openEmbedding 66 = .ok (.ifCond .ne 13, 3) := by decide +kernel
theorem d_EX_openEmbedding_69 : decode b_EX_openEmbedding 69 = .ok (.aload_n 0, 1) := by decide +kernel
theorem d_EX_openEmbedding_70 : decode b_EX_openEmbedding 70 = .ok (.dup, 1) := by decide +kernel
theorem d_EX_openEmbedding_71 : decode b_EX_openEmbedding 71 = .ok (.getfield 29, 3) := by decide +kernel
theorem d_EX_openEmbedding_74 : decode b_EX_openEmbedding 74 = .ok (.iconst 1, 1) := by decide +kernel
theorem d_EX_openEmbedding_75 : decode b_EX_openEmbedding 75 = .ok (.iadd, 1) := by decide +kernel
theorem d_EX_openEmbedding_76 : decode b_EX_openEmbedding 76 = .ok (.putfield 29, 3) := by decide +kernel
theorem d_EX_openEmbedding_79 : decode b_EX_openEmbedding 79 = .ok (.return_, 1) := by decide +kernel
theorem d_EX_openIsolate_0 : decode b_EX_openIsolate 0 = .ok (.aload_n 0, 1) := by decide +kernel
theorem d_EX_openIsolate_1 : decode b_EX_openIsolate 1 = .ok (.iload_n 1, 1) := by decide +kernel
theorem d_EX_openIsolate_2 : decode b_EX_openIsolate 2 = .ok (.invokevirtual 90, 3) := by decide +kernel
theorem d_EX_openIsolate_5 : decode b_EX_openIsolate 5 = .ok (.istore_n 2, 1) := by decide +kernel
theorem d_EX_openIsolate_6 : decode b_EX_openIsolate 6 = .ok (.aload_n 0, 1) := by decide +kernel
theorem d_EX_openIsolate_7 : decode b_EX_openIsolate 7 = .ok (.iload_n 2, 1) := by decide +kernel
theorem d_EX_openIsolate_8 : decode b_EX_openIsolate 8 = .ok (.invokevirtual 94, 3) := by decide +kernel
theorem d_EX_openIsolate_11 : decode b_EX_openIsolate 11 = .ok (.ifCond .eq 23, 3) := by decide +kernel
theorem d_EX_openIsolate_14 : decode b_EX_openIsolate 14 = .ok (.aload_n 0, 1) := by decide +kernel
theorem d_EX_openIsolate_15 : decode b_EX_openIsolate 15 = .ok (.dup, 1) := by decide +kernel
theorem d_EX_openIsolate_16 : decode b_EX_openIsolate 16 = .ok (.getfield 32, 3) := by decide +kernel
theorem d_EX_openIsolate_19 : decode b_EX_openIsolate 19 = .ok (.iconst 1, 1) := by decide +kernel
theorem d_EX_openIsolate_20 : decode b_EX_openIsolate 20 = .ok (.iadd, 1) := by decide +kernel
theorem d_EX_openIsolate_21 : decode b_EX_openIsolate 21 = .ok (.putfield 32, 3) := by decide +kernel
theorem d_EX_openIsolate_24 : decode b_EX_openIsolate 24 = .ok (.aload_n 0, 1) := by decide +kernel
theorem d_EX_openIsolate_25 : decode b_EX_openIsolate 25 = .ok (.iload_n 2, 1) := by decide +kernel
theorem d_EX_openIsolate_26 : decode b_EX_openIsolate 26 = .ok (.iconst (-1), 1) := by decide +kernel
theorem d_EX_openIsolate_27 : decode b_EX_openIsolate 27 = .ok (.iconst 1, 1) := by decide +kernel
theorem d_EX_openIsolate_28 : decode b_EX_openIsolate 28 = .ok (.invokevirtual 97, 3) := by decide +kernel
theorem d_EX_openIsolate_31 : decode b_EX_openIsolate 31 = .ok (.goto 13, 3) := by decide +kernel
theorem d_EX_openIsolate_34 : decode b_EX_openIsolate 34 = .ok (.aload_n 0, 1) := by decide +kernel
theorem d_EX_openIsolate_35 : decode b_EX_openIsolate 35 = .ok (.dup, 1) := by decide +kernel
theorem d_EX_openIsolate_36 : decode b_EX_openIsolate 36 = .ok (.getfield 26, 3) := by decide +kernel
theorem d_EX_openIsolate_39 : decode b_EX_openIsolate 39 = .ok (.iconst 1, 1) := by decide +kernel
theorem d_EX_openIsolate_40 : decode b_EX_openIsolate 40 = .ok (.iadd, 1) := by decide +kernel
theorem d_EX_openIsolate_41 : decode b_EX_openIsolate 41 = .ok (.putfield 26, 3) := by decide +kernel
theorem d_EX_openIsolate_44 : decode b_EX_openIsolate 44 = .ok (.return_, 1) := by decide +kernel
theorem d_EX_closeIsolate_0 : decode b_EX_closeIsolate 0 = .ok (.aload_n 0, 1) := by decide +kernel
theorem d_EX_closeIsolate_1 : decode b_EX_closeIsolate 1 = .ok (.getfield 26, 3) := by decide +kernel
theorem d_EX_closeIsolate_4 : decode b_EX_closeIsolate 4 = .ok (.ifCond .le 16, 3) := by decide +kernel
theorem d_EX_closeIsolate_7 : decode b_EX_closeIsolate 7 = .ok (.aload_n 0, 1) := by decide +kernel
theorem d_EX_closeIsolate_8 : decode b_EX_closeIsolate 8 = .ok (.dup, 1) := by decide +kernel
theorem d_EX_closeIsolate_9 : decode b_EX_closeIsolate 9 = .ok (.getfield 26, 3) := by decide +kernel
theorem d_EX_closeIsolate_12 : decode b_EX_closeIsolate 12 = .ok (.iconst 1, 1) := by decide +kernel
theorem d_EX_closeIsolate_13 : decode b_EX_closeIsolate 13 = .ok (.isub, 1) := by decide +kernel
theorem d_EX_closeIsolate_14 : decode b_EX_closeIsolate 14 = .ok (.putfield 26, 3) := by decide +kernel
theorem d_EX_closeIsolate_17 : decode b_EX_closeIsolate 17 = .ok (.goto 71, 3) := by decide +kernel
theorem d_EX_closeIsolate_20 : decode b_EX_closeIsolate 20 = .ok (.aload_n 0, 1) := by decide +kernel
theorem d_EX_closeIsolate_21 : decode b_EX_closeIsolate 21 = .ok (.getfield 32, 3) := by decide +kernel
theorem d_EX_closeIsolate_24 : decode b_EX_closeIsolate 24 = .ok (.ifCond .le 64, 3) := by decide +kernel
theorem d_EX_closeIsolate_27 : decode b_EX_closeIsolate 27 = .ok (.aload_n 0, 1) := by decide +kernel
theorem d_EX_closeIsolate_28 : decode b_EX_closeIsolate 28 = .ok (.iconst 0, 1) := by decide +kernel
theorem d_EX_closeIsolate_29 : decode b_EX_closeIsolate 29 = .ok (.putfield 29, 3) := by decide +kernel
theorem d_EX_closeIsolate_32 : decode b_EX_closeIsolate 32 = .ok (.aload_n 0, 1) := by decide +kernel
theorem d_EX_closeIsolate_33 : decode b_EX_closeIsolate 33 = .ok (.getfield 22, 3) := by decide +kernel
theorem d_EX_closeIsolate_36 : decode b_EX_closeIsolate 36 = .ok (.ifCond .le 28, 3) := by decide +kernel
theorem d_EX_closeIsolate_39 : decode b_EX_closeIsolate 39 = .ok (.aload_n 0, 1) := by decide +kernel
theorem d_EX_closeIsolate_40 : decode b_EX_closeIsolate 40 = .ok (.getfield 18, 3) := by decide +kernel
theorem d_EX_closeIsolate_43 : decode b_EX_closeIsolate 43 = .ok (.aload_n 0, 1) := by decide +kernel
theorem d_EX_closeIsolate_44 : decode b_EX_closeIsolate 44 = .ok (.getfield 22, 3) := by decide +kernel
theorem d_EX_closeIsolate_47 : decode b_EX_closeIsolate 47 = .ok (.baload, 1) := by decide +kernel
theorem d_EX_closeIsolate_48 : decode b_EX_closeIsolate 48 = .ok (.ifCond .ne 16, 3) := by decide +kernel
theorem d_EX_closeIsolate_51 : decode b_EX_closeIsolate 51 = .ok (.aload_n 0, 1) := by decide +kernel
theorem d_EX_closeIsolate_52 : decode b_EX_closeIsolate 52 = .ok (.dup, 1) := by decide +kernel
theorem d_EX_closeIsolate_53 : decode b_EX_closeIsolate 53 = .ok (.getfield 22, 3) := by decide +kernel
theorem d_EX_closeIsolate_56 : decode b_EX_closeIsolate 56 = .ok (.iconst 1, 1) := by decide +kernel
theorem d_EX_closeIsolate_57 : decode b_EX_closeIsolate 57 = .ok (.isub, 1) := by decide +kernel
theorem d_EX_closeIsolate_58 : decode b_EX_closeIsolate 58 = .ok (.putfield 22, 3) := by decide +kernel
theorem d_EX_closeIsolate_61 : decode b_EX_closeIsolate 61 = .ok (.goto (-29), 3) := by decide +kernel
theorem d_EX_closeIsolate_64 : decode b_EX_closeIsolate 64 = .ok (.aload_n 0, 1) := by decide +kernel
theorem d_EX_closeIsolate_65 : decode b_EX_closeIsolate 65 = .ok (.aload_n 0, 1) := by decide +kernel
theorem d_EX_closeIsolate_66 : decode b_EX_closeIsolate 66 = .ok (.getfield 22, 3) := by decide +kernel
theorem d_EX_closeIsolate_69 : decode b_EX_closeIsolate 69 = .ok (.iconst 1, 1) := by decide +kernel
theorem d_EX_closeIsolate_70 : decode b_EX_closeIsolate 70 = .ok (.isub, 1) := by decide +kernel
theorem d_EX_closeIsolate_71 : decode b_EX_closeIsolate 71 = .ok (.iconst 0, 1) := by decide +kernel
theorem d_EX_closeIsolate_72 : decode b_EX_closeIsolate 72 = .ok (.invokestatic 101, 3) := by decide +kernel
theorem d_EX_closeIsolate_75 : decode b_EX_closeIsolate 75 = .ok (.putfield 22, 3) := by decide +kernel
theorem d_EX_closeIsolate_78 : decode b_EX_closeIsolate 78 = .ok (.aload_n 0, 1) := by decide +kernel
theorem d_EX_closeIsolate_79 : decode b_EX_closeIsolate 79 = .ok (.dup, 1) := by decide +kernel
theorem d_EX_closeIsolate_80 : decode b_EX_closeIsolate 80 = .ok (.getfield 32, 3) := by decide +kernel
theorem d_EX_closeIsolate_83 : decode b_EX_closeIsolate 83 = .ok (.iconst 1, 1) := by decide +kernel
theorem d_EX_closeIsolate_84 : decode b_EX_closeIsolate 84 = .ok (.isub, 1) := by decide +kernel
theorem d_EX_closeIsolate_85 : decode b_EX_closeIsolate 85 = .ok (.putfield 32, 3) := by decide +kernel
theorem d_EX_closeIsolate_88 : decode b_EX_closeIsolate 88 = .ok (.return_, 1) := by decide +kernel
theorem d_EX_closeEmbedding_0 : decode b_EX_closeEmbedding 0 = .ok (.aload_n 0, 1) := by decide +kernel
theorem d_EX_closeEmbedding_1 : decode b_EX_closeEmbedding 1 = .ok (.getfield 26, 3) := by decide +kernel
theorem d_EX_closeEmbedding_4 : decode b_EX_closeEmbedding 4 = .ok (.ifCond .le 4, 3) := by decide +kernel
theorem d_EX_closeEmbedding_7 : decode b_EX_closeEmbedding 7 = .ok (.return_, 1) := by decide +kernel
theorem d_EX_closeEmbedding_8 : decode b_EX_closeEmbedding 8 = .ok (.aload_n 0, 1) := by decide +kernel
theorem d_EX_closeEmbedding_9 : decode b_EX_closeEmbedding 9 = .ok (.getfield 29, 3) := by decide +kernel
theorem d_EX_closeEmbedding_12 : decode b_EX_closeEmbedding 12 = .ok (.ifCond .le 16, 3) := by decide +kernel
theorem d_EX_closeEmbedding_15 : decode b_EX_closeEmbedding 15 = .ok (.aload_n 0, 1) := by decide +kernel
theorem d_EX_closeEmbedding_16 : decode b_EX_closeEmbedding 16 = .ok (.dup, 1) := by decide +kernel
theorem d_EX_closeEmbedding_17 : decode b_EX_closeEmbedding 17 = .ok (.getfield 29, 3) := by decide +kernel
theorem d_EX_closeEmbedding_20 : decode b_EX_closeEmbedding 20 = .ok (.iconst 1, 1) := by decide +kernel
theorem d_EX_closeEmbedding_21 : decode b_EX_closeEmbedding 21 = .ok (.isub, 1) := by decide +kernel
theorem d_EX_closeEmbedding_22 : decode b_EX_closeEmbedding 22 = .ok (.putfield 29, 3) := by decide +kernel
theorem d_EX_closeEmbedding_25 : decode b_EX_closeEmbedding 25 = .ok (.goto 32, 3) := by decide +kernel
theorem d_EX_closeEmbedding_28 : decode b_EX_closeEmbedding 28 = .ok (.aload_n 0, 1) := by decide +kernel
theorem d_EX_closeEmbedding_29 : decode b_EX_closeEmbedding 29 = .ok (.getfield 22, 3) := by decide +kernel
theorem d_EX_closeEmbedding_32 : decode b_EX_closeEmbedding 32 = .ok (.ifCond .le 25, 3) := by decide +kernel
theorem d_EX_closeEmbedding_35 : decode b_EX_closeEmbedding 35 = .ok (.aload_n 0, 1) := by decide +kernel
theorem d_EX_closeEmbedding_36 : decode b_EX_closeEmbedding 36 = .ok (.getfield 18, 3) := by decide +kernel
theorem d_EX_closeEmbedding_39 : decode b_EX_closeEmbedding 39 = .ok (.aload_n 0, 1) := by decide +kernel
theorem d_EX_closeEmbedding_40 : decode b_EX_closeEmbedding 40 = .ok (.getfield 22, 3) := by decide +kernel
theorem d_EX_closeEmbedding_43 : decode b_EX_closeEmbedding 43 = .ok (.baload, 1) := by decide +kernel
theorem d_EX_closeEmbedding_44 : decode b_EX_closeEmbedding 44 = .ok (.ifCond .ne 13, 3) := by decide +kernel
theorem d_EX_closeEmbedding_47 : decode b_EX_closeEmbedding 47 = .ok (.aload_n 0, 1) := by decide +kernel
theorem d_EX_closeEmbedding_48 : decode b_EX_closeEmbedding 48 = .ok (.dup, 1) := by decide +kernel
theorem d_EX_closeEmbedding_49 : decode b_EX_closeEmbedding 49 = .ok (.getfield 22, 3) := by decide +kernel
theorem d_EX_closeEmbedding_52 : decode b_EX_closeEmbedding 52 = .ok (.iconst 1, 1) := by decide +kernel
theorem d_EX_closeEmbedding_53 : decode b_EX_closeEmbedding 53 = .ok (.isub, 1) := by decide +kernel
theorem d_EX_closeEmbedding_54 : decode b_EX_closeEmbedding 54 = .ok (.putfield 22, 3) := by decide +kernel
theorem d_EX_closeEmbedding_57 : decode b_EX_closeEmbedding 57 = .ok (.return_, 1) := by decide +kernel
theorem d_EX_nextLevel_0 : decode b_EX_nextLevel 0 = .ok (.aload_n 0, 1) := by decide +kernel
theorem d_EX_nextLevel_1 : decode b_EX_nextLevel 1 = .ok (.getfield 9, 3) := by decide +kernel
theorem d_EX_nextLevel_4 : decode b_EX_nextLevel 4 = .ok (.aload_n 0, 1) := by decide +kernel
theorem d_EX_nextLevel_5 : decode b_EX_nextLevel 5 = .ok (.getfield 22, 3) := by decide +kernel
theorem d_EX_nextLevel_8 : decode b_EX_nextLevel 8 = .ok (.iaload, 1) := by decide +kernel
theorem d_EX_nextLevel_9 : decode b_EX_nextLevel 9 = .ok (.iconst 1, 1) := by decide +kernel
theorem d_EX_nextLevel_10 : decode b_EX_nextLevel 10 = .ok (.iadd, 1) := by decide +kernel
theorem d_EX_nextLevel_11 : decode b_EX_nextLevel 11 = .ok (.istore_n 2, 1) := by decide +kernel
theorem d_EX_nextLevel_12 : decode b_EX_nextLevel 12 = .ok (.iload_n 2, 1) := by decide +kernel
theorem d_EX_nextLevel_13 : decode b_EX_nextLevel 13 = .ok (.invokestatic 106, 3) := by decide +kernel
theorem d_EX_nextLevel_16 : decode b_EX_nextLevel 16 = .ok (.iload_n 1, 1) := by decide +kernel
theorem d_EX_nextLevel_17 : decode b_EX_nextLevel 17 = .ok (.if_icmp .ne 7, 3) := by decide +kernel
theorem d_EX_nextLevel_20 : decode b_EX_nextLevel 20 = .ok (.iload_n 2, 1) := by decide +kernel
theorem d_EX_nextLevel_21 : decode b_EX_nextLevel 21 = .ok (.goto 6, 3) := by decide +kernel
theorem d_EX_nextLevel_24 : decode b_EX_nextLevel 24 = .ok (.iload_n 2, 1) := by decide +kernel
theorem d_EX_nextLevel_25 : decode b_EX_nextLevel 25 = .ok (.iconst 1, 1) := by decide +kernel
theorem d_EX_nextLevel_26 : decode b_EX_nextLevel 26 = .ok (.iadd, 1) := by decide +kernel
theorem d_EX_nextLevel_27 : decode b_EX_nextLevel 27 = .ok (.ireturn, 1) := by decide +kernel
theorem d_EX_canOpen_0 : decode b_EX_canOpen 0 = .ok (.iload_n 1, 1) := by decide +kernel
theorem d_EX_canOpen_1 : decode b_EX_canOpen 1 = .ok (.bipush 125, 2) := by decide +kernel
theorem d_EX_canOpen_3 : decode b_EX_canOpen 3 = .ok (.if_icmp .gt 21, 3) := by decide +kernel
theorem d_EX_canOpen_6 : decode b_EX_canOpen 6 = .ok (.aload_n 0, 1) := by decide +kernel
theorem d_EX_canOpen_7 : decode b_EX_canOpen 7 = .ok (.getfield 26, 3) := by decide +kernel
theorem d_EX_canOpen_10 : decode b_EX_canOpen 10 = .ok (.ifCond .ne 14, 3) := by decide +kernel
theorem d_EX_canOpen_13 : decode b_EX_canOpen 13 = .ok (.aload_n 0, 1) := by decide +kernel
theorem d_EX_canOpen_14 : decode b_EX_canOpen 14 = .ok (.getfield 29, 3) := by decide +kernel
theorem d_EX_canOpen_17 : decode b_EX_canOpen 17 = .ok (.ifCond .ne 7, 3) := by decide +kernel
theorem d_EX_canOpen_20 : decode b_EX_canOpen 20 = .ok (.iconst 1, 1) := by decide +kernel
theorem d_EX_canOpen_21 : decode b_EX_canOpen 21 = .ok (.goto 4, 3) := by decide +kernel
theorem d_EX_canOpen_24 : decode b_EX_canOpen 24 = .ok (.iconst 0, 1) := by decide +kernel
theorem d_EX_canOpen_25 : decode b_EX_canOpen 25 = .ok (.ireturn, 1) := by decide +kernel
theorem d_EX_push_0 : decode b_EX_push 0 = .ok (.aload_n 0, 1) := by decide +kernel
theorem d_EX_push_1 : decode b_EX_push 1 = .ok (.getfield 22, 3) := by decide +kernel
theorem d_EX_push_4 : decode b_EX_push 4 = .ok (.iconst 1, 1) := by decide +kernel
theorem d_EX_push_5 : decode b_EX_push 5 = .ok (.iadd, 1) := by decide +kernel
theorem d_EX_push_6 : decode b_EX_push 6 = .ok (.bipush 127, 2) := by decide +kernel
theorem d_EX_push_8 : decode b_EX_push 8 = .ok (.if_icmp .lt 4, 3) := by decide +kernel
theorem d_EX_push_11 : decode b_EX_push 11 = .ok (.return_, 1) := by decide +kernel
theorem d_EX_push_12 : decode b_EX_push 12 = .ok (.aload_n 0, 1) := by decide +kernel
theorem d_EX_push_13 : decode b_EX_push 13 = .ok (.dup, 1) := by decide +kernel
theorem d_EX_push_14 : decode b_EX_push 14 = .ok (.getfield 22, 3) := by decide +kernel
theorem d_EX_push_17 : decode b_EX_push 17 = .ok (.iconst 1, 1) := by decide +kernel
theorem d_EX_push_18 : decode b_EX_push 18 = .ok (.iadd, 1) := by decide +kernel
theorem d_EX_push_19 : decode b_EX_push 19 = .ok (.putfield 22, 3) := by decide +kernel
theorem d_EX_push_22 : decode b_EX_push 22 = .ok (.aload_n 0, 1) := by decide +kernel
theorem d_EX_push_23 : decode b_EX_push 23 = .ok (.getfield 9, 3) := by decide +kernel
theorem d_EX_push_26 : decode b_EX_push 26 = .ok (.aload_n 0, 1) := by decide +kernel
theorem d_EX_push_27 : decode b_EX_push 27 = .ok (.getfield 22, 3) := by decide +kernel
theorem d_EX_push_30 : decode b_EX_push 30 = .ok (.iload_n 1, 1) := by decide +kernel
theorem d_EX_push_31 : decode b_EX_push 31 = .ok (.iastore, 1) := by decide +kernel
theorem d_EX_push_32 : decode b_EX_push 32 = .ok (.aload_n 0, 1) := by decide +kernel
theorem d_EX_push_33 : decode b_EX_push 33 = .ok (.getfield 15, 3) := by decide +kernel
theorem d_EX_push_36 : decode b_EX_push 36 = .ok (.aload_n 0, 1) := by decide +kernel
theorem d_EX_push_37 : decode b_EX_push 37 = .ok (.getfield 22, 3) := by decide +kernel
theorem d_EX_push_40 : decode b_EX_push 40 = .ok (.iload_n 2, 1) := by decide +kernel
theorem d_EX_push_41 : decode b_EX_push 41 = .ok (.iastore, 1) := by decide +kernel
theorem d_EX_push_42 : decode b_EX_push 42 = .ok (.aload_n 0, 1) := by decide +kernel
theorem d_EX_push_43 : decode b_EX_push 43 = .ok (.getfield 18, 3) := by decide +kernel
theorem d_EX_push_46 : decode b_EX_push 46 = .ok (.aload_n 0, 1) := by decide +kernel
theorem d_EX_push_47 : decode b_EX_push 47 = .ok (.getfield 22, 3) := by decide +kernel
theorem d_EX_push_50 : decode b_EX_push 50 = .ok (.iload_n 3, 1) := by decide +kernel
theorem d_EX_push_51 : decode b_EX_push 51 = .ok (.bastore, 1) := by decide +kernel
theorem d_EX_push_52 : decode b_EX_push 52 = .ok (.return_, 1) := by decide +kernel
theorem d_RU_init_0 : decode b_RU_init 0 = .ok (.aload_n 0, 1) := by decide +kernel
theorem d_RU_init_1 : decode b_RU_init 1 = .ok (.invokespecial 3, 3) := by decide +kernel
theorem d_RU_init_4 : decode b_RU_init 4 = .ok (.aload_n 0, 1) := by decide +kernel
theorem d_RU_init_5 : decode b_RU_init 5 = .ok (.sipush 2000, 3) := by decide +kernel
theorem d_RU_init_8 : decode b_RU_init 8 = .ok (.newarray .int, 2) := by decide +kernel
theorem d_RU_init_10 : decode b_RU_init 10 = .ok (.putfield 9, 3) := by decide +kernel
theorem d_RU_init_13 : decode b_RU_init 13 = .ok (.aload_n 0, 1) := by decide +kernel
theorem d_RU_init_14 : decode b_RU_init 14 = .ok (.iconst 0, 1) := by decide +kernel
theorem d_RU_init_15 : decode b_RU_init 15 = .ok (.putfield 15, 3) := by decide +kernel
theorem d_RU_init_18 : decode b_RU_init 18 = .ok (.aload_n 0, 1) := by decide +kernel
theorem d_RU_init_19 : decode b_RU_init 19 = .ok (.sipush 2000, 3) := by decide +kernel
theorem d_RU_init_22 : decode b_RU_init 22 = .ok (.newarray .int, 2) := by decide +kernel
theorem d_RU_init_24 : decode b_RU_init 24 = .ok (.putfield 19, 3) := by decide +kernel
theorem d_RU_init_27 : decode b_RU_init 27 = .ok (.aload_n 0, 1) := by decide +kernel
theorem d_RU_init_28 : decode b_RU_init 28 = .ok (.sipush 2000, 3) := by decide +kernel
theorem d_RU_init_31 : decode b_RU_init 31 = .ok (.newarray .int, 2) := by decide +kernel
theorem d_RU_init_33 : decode b_RU_init 33 = .ok (.putfield 22, 3) := by decide +kernel
theorem d_RU_init_36 : decode b_RU_init 36 = .ok (.aload_n 0, 1) := by decide +kernel
theorem d_RU_init_37 : decode b_RU_init 37 = .ok (.sipush 2000, 3) := by decide +kernel
theorem d_RU_init_40 : decode b_RU_init 40 = .ok (.newarray .int, 2) := by decide +kernel
theorem d_RU_init_42 : decode b_RU_init 42 = .ok (.putfield 25, 3) := by decide +kernel
theorem d_RU_init_45 : decode b_RU_init 45 = .ok (.aload_n 0, 1) := by decide +kernel
theorem d_RU_init_46 : decode b_RU_init 46 = .ok (.iconst 0, 1) := by decide +kernel
theorem d_RU_init_47 : decode b_RU_init 47 = .ok (.putfield 28, 3) := by decide +kernel
theorem d_RU_init_50 : decode b_RU_init 50 = .ok (.aload_n 0, 1) := by decide +kernel
theorem d_RU_init_51 : decode b_RU_init 51 = .ok (.aload_n 1, 1) := by decide +kernel
theorem d_RU_init_52 : decode b_RU_init 52 = .ok (.putfield 31, 3) := by decide +kernel
theorem d_RU_init_55 : decode b_RU_init 55 = .ok (.return_, 1) := by decide +kernel
theorem d_RU_findRuns_0 : decode b_RU_findRuns 0 = .ok (.aload_n 0, 1) := by decide +kernel
theorem d_RU_findRuns_1 : decode b_RU_findRuns 1 = .ok (.iconst 0, 1) := by decide +kernel
theorem d_RU_findRuns_2 : decode b_RU_findRuns 2 = .ok (.putfield 15, 3) := by decide +kernel
theorem d_RU_findRuns_5 : decode b_RU_findRuns 5 = .ok (.aload_n 0, 1) := by decide +kernel
theorem d_RU_findRuns_6 : decode b_RU_findRuns 6 = .ok (.iconst 0, 1) := by decide +kernel
theorem d_RU_findRuns_7 : decode b_RU_findRuns 7 = .ok (.putfield 28, 3) := by decide +kernel
theorem d_RU_findRuns_10 : decode b_RU_findRuns 10 = .ok (.iload_n 1, 1) := by decide +kernel
theorem d_RU_findRuns_11 : decode b_RU_findRuns 11 = .ok (.istore_n 3, 1) := by decide +kernel
theorem d_RU_findRuns_12 : decode b_RU_findRuns 12 = .ok (.iload_n 3, 1) := by decide +kernel
theorem d_RU_findRuns_13 : decode b_RU_findRuns 13 = .ok (.iload_n 2, 1) := by decide +kernel
theorem d_RU_findRuns_14 : decode b_RU_findRuns 14 = .ok (.if_icmp .ge 27, 3) := by decide +kernel
theorem d_RU_findRuns_17 : decode b_RU_findRuns 17 = .ok (.aload_n 0, 1) := by decide +kernel
theorem d_RU_findRuns_18 : decode b_RU_findRuns 18 = .ok (.getfield 31, 3) := by decide +kernel
theorem d_RU_findRuns_21 : decode b_RU_findRuns 21 = .ok (.getfield 35, 3) := by decide +kernel
theorem d_RU_findRuns_24 : decode b_RU_findRuns 24 = .ok (.iload_n 3, 1) := by decide +kernel
theorem d_RU_findRuns_25 : decode b_RU_findRuns 25 = .ok (.iaload, 1) := by decide +kernel
theorem d_RU_findRuns_26 : decode b_RU_findRuns 26 = .ok (.iconst (-1), 1) := by decide +kernel
theorem d_RU_findRuns_27 : decode b_RU_findRuns 27 = .ok (.if_icmp .eq 8, 3) := by decide +kernel
theorem d_RU_findRuns_30 : decode b_RU_findRuns 30 = .ok (.aload_n 0, 1) := by decide +kernel
theorem d_RU_findRuns_31 : decode b_RU_findRuns 31 = .ok (.iload_n 3, 1) := by decide +kernel
theorem d_RU_findRuns_32 : decode b_RU_findRuns 32 = .ok (.invokevirtual 40, 3) := by decide +kernel
theorem d_RU_findRuns_35 : decode b_RU_findRuns 35 = .ok (.iinc 3 1, 3) := by decide +kernel
theorem d_RU_findRuns_38 : decode b_RU_findRuns 38 = .ok (.goto (-26), 3) := by decide +kernel
theorem d_RU_findRuns_41 : decode b_RU_findRuns 41 = .ok (.return_, 1) := by decide +kernel
theorem d_RU_appendLeft_0 : decode b_RU_appendLeft 0 = .ok (.aload_n 0, 1) := by decide +kernel
theorem d_RU_appendLeft_1 : decode b_RU_appendLeft 1 = .ok (.getfield 15, 3) := by decide +kernel
theorem d_RU_appendLeft_4 : decode b_RU_appendLeft 4 = .ok (.ifCond .eq 34, 3) := by decide +kernel
theorem d_RU_appendLeft_7 : decode b_RU_appendLeft 7 = .ok (.aload_n 0, 1) := by decide +kernel
theorem d_RU_appendLeft_8 : decode b_RU_appendLeft 8 = .ok (.getfield 31, 3) := by decide +kernel
theorem d_RU_appendLeft_11 : decode b_RU_appendLeft 11 = .ok (.getfield 35, 3) := by decide +kernel
theorem d_RU_appendLeft_14 : decode b_RU_appendLeft 14 = .ok (.aload_n 0, 1) := by decide +kernel
theorem d_RU_appendLeft_15 : decode b_RU_appendLeft 15 = .ok (.getfield 9, 3) := by decide +kernel
theorem d_RU_appendLeft_18 : decode b_RU_appendLeft 18 = .ok (.aload_n 0, 1) := by decide +kernel
theorem d_RU_appendLeft_19 : decode b_RU_appendLeft 19 = .ok (.getfield 15, 3) := by decide +kernel
theorem d_RU_appendLeft_22 : decode b_RU_appendLeft 22 = .ok (.iconst 1, 1) := by decide +kernel
theorem d_RU_appendLeft_23 : decode b_RU_appendLeft 23 = .ok (.isub, 1) := by decide +kernel
theorem d_RU_appendLeft_24 : decode b_RU_appendLeft 24 = .ok (.iaload, 1) := by decide +kernel
theorem d_RU_appendLeft_25 : decode b_RU_appendLeft 25 = .ok (.iaload, 1) := by decide +kernel
theorem d_RU_appendLeft_26 : decode b_RU_appendLeft 26 = .ok (.aload_n 0, 1) := by decide +kernel
theorem d_RU_appendLeft_27 : decode b_RU_appendLeft 27 = .ok (.getfield 31, 3) := by decide +kernel
theorem d_RU_appendLeft_30 : decode b_RU_appendLeft 30 = .ok (.getfield 35, 3) := by decide +kernel
theorem d_RU_appendLeft_33 : decode b_RU_appendLeft 33 = .ok (.iload_n 1, 1) := by decide +kernel
theorem d_RU_appendLeft_34 : decode b_RU_appendLeft 34 = .ok (.iaload, 1) := by decide +kernel
theorem d_RU_appendLeft_35 : decode b_RU_appendLeft 35 = .ok (.if_icmp .eq 26, 3) := by decide +kernel
theorem d_RU_appendLeft_38 : decode b_RU_appendLeft 38 = .ok (.aload_n 0, 1) := by decide +kernel
theorem d_RU_appendLeft_39 : decode b_RU_appendLeft 39 = .ok (.getfield 19, 3) := by decide +kernel
theorem d_RU_appendLeft_42 : decode b_RU_appendLeft 42 = .ok (.aload_n 0, 1) := by decide +kernel
theorem d_RU_appendLeft_43 : decode b_RU_appendLeft 43 = .ok (.getfield 28, 3) := by decide +kernel
theorem d_RU_appendLeft_46 : decode b_RU_appendLeft 46 = .ok (.aload_n 0, 1) := by decide +kernel
theorem d_RU_appendLeft_47 : decode b_RU_appendLeft 47 = .ok (.getfield 15, 3) := by decide +kernel
theorem d_RU_appendLeft_50 : decode b_RU_appendLeft 50 = .ok (.iastore, 1) := by decide +kernel
theorem d_RU_appendLeft_51 : decode b_RU_appendLeft 51 = .ok (.aload_n 0, 1) := by decide +kernel
theorem d_RU_appendLeft_52 : decode b_RU_appendLeft 52 = .ok (.dup, 1) := by decide +kernel
theorem d_RU_appendLeft_53 : decode b_RU_appendLeft 53 = .ok (.getfield 28, 3) := by decide +kernel
theorem d_RU_appendLeft_56 : decode b_RU_appendLeft 56 = .ok (.iconst 1, 1) := by decide +kernel
theorem d_RU_appendLeft_57 : decode b_RU_appendLeft 57 = .ok (.iadd, 1) := by decide +kernel
theorem d_RU_appendLeft_58 : decode b_RU_appendLeft 58 = .ok (.putfield 28, 3) := by decide +kernel
theorem d_RU_appendLeft_61 : decode b_RU_appendLeft 61 = .ok (.aload_n 0, 1) := by decide +kernel
theorem d_RU_appendLeft_62 : decode b_RU_appendLeft 62 = .ok (.getfield 9, 3) := by decide +kernel
theorem d_RU_appendLeft_65 : decode b_RU_appendLeft 65 = .ok (.aload_n 0, 1) := by decide +kernel
theorem d_RU_appendLeft_66 : decode b_RU_appendLeft 66 = .ok (.getfield 15, 3) := by decide +kernel
theorem d_RU_appendLeft_69 : decode b_RU_appendLeft 69 = .ok (.iload_n 1, 1) := by decide +kernel
theorem d_RU_appendLeft_70 : decode b_RU_appendLeft 70 = .ok (.iastore, 1) := by decide +kernel
theorem d_RU_appendLeft_71 : decode b_RU_appendLeft 71 = .ok (.aload_n 0, 1) := by decide +kernel
theorem d_RU_appendLeft_72 : decode b_RU_appendLeft 72 = .ok (.dup, 1) := by decide +kernel
theorem d_RU_appendLeft_73 : decode b_RU_appendLeft 73 = .ok (.getfield 15, 3) := by decide +kernel
theorem d_RU_appendLeft_76 : decode b_RU_appendLeft 76 = .ok (.iconst 1, 1) := by decide +kernel
theorem d_RU_appendLeft_77 : decode b_RU_appendLeft 77 = .ok (.iadd, 1) := by decide +kernel
theorem d_RU_appendLeft_78 : decode b_RU_appendLeft 78 = .ok (.putfield 15, 3) := by decide +kernel
theorem d_RU_appendLeft_81 : decode b_RU_appendLeft 81 = .ok (.aload_n 0, 1) := by decide +kernel
theorem d_RU_appendLeft_82 : decode b_RU_appendLeft 82 = .ok (.getfield 22, 3) := by decide +kernel
theorem d_RU_appendLeft_85 : decode b_RU_appendLeft 85 = .ok (.aload_n 0, 1) := by decide +kernel
theorem d_RU_appendLeft_86 : decode b_RU_appendLeft 86 = .ok (.getfield 28, 3) := by decide +kernel
theorem d_RU_appendLeft_89 : decode b_RU_appendLeft 89 = .ok (.iconst 1, 1) := by decide +kernel
theorem d_RU_appendLeft_90 : decode b_RU_appendLeft 90 = .ok (.isub, 1) := by decide +kernel
theorem d_RU_appendLeft_91 : decode b_RU_appendLeft 91 = .ok (.aload_n 0, 1) := by decide +kernel
theorem d_RU_appendLeft_92 : decode b_RU_appendLeft 92 = .ok (.getfield 15, 3) := by decide +kernel
theorem d_RU_appendLeft_95 : decode b_RU_appendLeft 95 = .ok (.iastore, 1) := by decide +kernel
theorem d_RU_appendLeft_96 : decode b_RU_appendLeft 96 = .ok (.aload_n 0, 1) := by decide +kernel
theorem d_RU_appendLeft_97 : decode b_RU_appendLeft 97 = .ok (.getfield 25, 3) := by decide +kernel
theorem d_RU_appendLeft_100 : decode b_RU_appendLeft 100 = .ok (.iload_n 1, 1) := by decide +kernel
theorem d_RU_appendLeft_101 : decode b_RU_appendLeft 101 = .ok (.aload_n 0, 1) := by decide +kernel
theorem d_RU_appendLeft_102 : decode b_RU_appendLeft 102 = .ok (.getfield 28, 3) := by decide +kernel
theorem d_RU_appendLeft_105 : decode b_RU_appendLeft 105 = .ok (.iconst 1, 1) := by decide +kernel
theorem d_RU_appendLeft_106 : decode b_RU_appendLeft 106 = .ok (.isub, 1) := by decide +kernel
theorem d_RU_appendLeft_107 : decode b_RU_appendLeft 107 = .ok (.iastore, 1) := by decide +kernel
theorem d_RU_appendLeft_108 : decode b_RU_appendLeft 108 = .ok (.return_, 1) := by decide +kernel
theorem d_RU_beginsSequence_0 : decode b_RU_beginsSequence 0 = .ok (.aload_n 0, 1) := by decide +kernel
theorem d_RU_beginsSequence_1 : decode b_RU_beginsSequence 1 = .ok (.getfield 9, 3) := by decide +kernel
theorem d_RU_beginsSequence_4 : decode b_RU_beginsSequence 4 = .ok (.aload_n 0, 1) := by decide +kernel
theorem d_RU_beginsSequence_5 : decode b_RU_beginsSequence 5 = .ok (.getfield 19, 3) := by decide +kernel
theorem d_RU_beginsSequence_8 : decode b_RU_beginsSequence 8 = .ok (.iload_n 1, 1) := by decide +kernel
theorem d_RU_beginsSequence_9 : decode b_RU_beginsSequence 9 = .ok (.iaload, 1) := by decide +kernel
theorem d_RU_beginsSequence_10 : decode b_RU_beginsSequence 10 = .ok (.iaload, 1) := by decide +kernel
theorem d_RU_beginsSequence_11 : decode b_RU_beginsSequence 11 = .ok (.istore_n 2, 1) := by decide +kernel
theorem d_RU_beginsSequence_12 : decode b_RU_beginsSequence 12 = .ok (.aload_n 0, 1) := by decide +kernel
theorem d_RU_beginsSequence_13 : decode b_RU_beginsSequence 13 = .ok (.getfield 31, 3) := by decide +kernel
theorem d_RU_beginsSequence_16 : decode b_RU_beginsSequence 16 = .ok (.getfield 44, 3) := by decide +kernel
theorem d_RU_beginsSequence_19 : decode b_RU_beginsSequence 19 = .ok (.iload_n 2, 1) := by decide +kernel
theorem d_RU_beginsSequence_20 : decode b_RU_beginsSequence 20 = .ok (.iaload, 1) := by decide +kernel
theorem d_RU_beginsSequence_21 : decode b_RU_beginsSequence 21 = .ok (.bipush 22, 2) := by decide +kernel
theorem d_RU_beginsSequence_23 : decode b_RU_beginsSequence 23 = .ok (.if_icmp .ne 16, 3) := by decide +kernel
theorem d_RU_beginsSequence_26 : decode b_RU_beginsSequence 26 = .ok (.aload_n 0, 1) := by decide +kernel
theorem d_RU_beginsSequence_27 : decode b_RU_beginsSequence 27 = .ok (.getfield 31, 3) := by decide +kernel
theorem d_RU_beginsSequence_30 : decode b_RU_beginsSequence 30 = .ok (.getfield 47, 3) := by decide +kernel
theorem d_RU_beginsSequence_33 : decode b_RU_beginsSequence 33 = .ok (.iload_n 2, 1) := by decide +kernel
theorem d_RU_beginsSequence_34 : decode b_RU_beginsSequence 34 = .ok (.iaload, 1) := by decide +kernel
theorem d_RU_beginsSequence_35 : decode b_RU_beginsSequence 35 = .ok (.iconst (-1), 1) := by decide +kernel
theorem d_RU_beginsSequence_36 : decode b_RU_beginsSequence 36 = .ok (.if_icmp .ne 7, 3) := by decide +kernel
theorem d_RU_beginsSequence_39 : decode b_RU_beginsSequence 39 = .ok (.iconst 1, 1) := by decide +kernel
theorem d_RU_beginsSequence_40 : decode b_RU_beginsSequence 40 = .ok (.goto 4, 3) := by decide +kernel
theorem d_RU_beginsSequence_43 : decode b_RU_beginsSequence 43 = .ok (.iconst 0, 1) := by decide +kernel
theorem d_RU_beginsSequence_44 : decode b_RU_beginsSequence 44 = .ok (.ireturn, 1) := by decide +kernel
theorem d_RU_gather_0 : decode b_RU_gather 0 = .ok (.aload_n 0, 1) := by decide +kernel
theorem d_RU_gather_1 : decode b_RU_gather 1 = .ok (.getfield 19, 3) := by decide +kernel
theorem d_RU_gather_4 : decode b_RU_gather 4 = .ok (.iload_n 1, 1) := by decide +kernel
theorem d_RU_gather_5 : decode b_RU_gather 5 = .ok (.iaload, 1) := by decide +kernel
theorem d_RU_gather_6 : decode b_RU_gather 6 = .ok (.istore 4, 2) := by decide +kernel
theorem d_RU_gather_8 : decode b_RU_gather 8 = .ok (.aload_n 0, 1) := by decide +kernel
theorem d_RU_gather_9 : decode b_RU_gather 9 = .ok (.getfield 31, 3) := by decide +kernel
theorem d_RU_gather_12 : decode b_RU_gather 12 = .ok (.getfield 35, 3) := by decide +kernel
theorem d_RU_gather_15 : decode b_RU_gather 15 = .ok (.aload_n 0, 1) := by decide +kernel
theorem d_RU_gather_16 : decode b_RU_gather 16 = .ok (.getfield 9, 3) := by decide +kernel
theorem d_RU_gather_19 : decode b_RU_gather 19 = .ok (.iload 4, 2) := by decide +kernel
theorem d_RU_gather_21 : decode b_RU_gather 21 = .ok (.iaload, 1) := by decide +kernel
theorem d_RU_gather_22 : decode b_RU_gather 22 = .ok (.iaload, 1) := by decide +kernel
theorem d_RU_gather_23 : decode b_RU_gather 23 = .ok (.istore 5, 2) := by decide +kernel
theorem d_RU_gather_25 : decode b_RU_gather 25 = .ok (.aload_n 3, 1) := by decide +kernel
theorem d_RU_gather_26 : decode b_RU_gather 26 = .ok (.iload 5, 2) := by decide +kernel
theorem d_RU_gather_28 : decode b_RU_gather 28 = .ok (.invokevirtual 50, 3) := by decide +kernel
theorem d_RU_gather_31 : decode b_RU_gather 31 = .ok (.iload_n 1, 1) := by decide +kernel
theorem d_RU_gather_32 : decode b_RU_gather 32 = .ok (.istore 6, 2) := by decide +kernel
theorem d_RU_gather_34 : decode b_RU_gather 34 = .ok (.iload 4, 2) := by decide +kernel
theorem d_RU_gather_36 : decode b_RU_gather 36 = .ok (.istore 7, 2) := by decide +kernel
theorem d_RU_gather_38 : decode b_RU_gather 38 = .ok (.iconst 0, 1) := by decide +kernel
theorem d_RU_gather_39 : decode b_RU_gather 39 = .ok (.istore 8, 2) := by decide +kernel
theorem d_RU_gather_41 : decode b_RU_gather 41 = .ok (.iload 8, 2) := by decide +kernel
theorem d_RU_gather_43 : decode b_RU_gather 43 = .ok (.aload_n 0, 1) := by decide +kernel
theorem d_RU_gather_44 : decode b_RU_gather 44 = .ok (.getfield 28, 3) := by decide +kernel
theorem d_RU_gather_47 : decode b_RU_gather 47 = .ok (.if_icmp .ge 65, 3) := by decide +kernel
theorem d_RU_gather_50 : decode b_RU_gather 50 = .ok (.iload 6, 2) := by decide +kernel
theorem d_RU_gather_52 : decode b_RU_gather 52 = .ok (.iconst (-1), 1) := by decide +kernel
theorem d_RU_gather_53 : decode b_RU_gather 53 = .ok (.if_icmp .eq 59, 3) := by decide +kernel
theorem d_RU_gather_56 : decode b_RU_gather 56 = .ok (.aload_n 0, 1) := by decide +kernel
theorem d_RU_gather_57 : decode b_RU_gather 57 = .ok (.getfield 22, 3) := by decide +kernel
theorem d_RU_gather_60 : decode b_RU_gather 60 = .ok (.iload 6, 2) := by decide +kernel
theorem d_RU_gather_62 : decode b_RU_gather 62 = .ok (.iaload, 1) := by decide +kernel
theorem d_RU_gather_63 : decode b_RU_gather 63 = .ok (.istore 7, 2) := by decide +kernel
theorem d_RU_gather_65 : decode b_RU_gather 65 = .ok (.aload_n 0, 1) := by decide +kernel
theorem d_RU_gather_66 : decode b_RU_gather 66 = .ok (.getfield 19, 3) := by decide +kernel
theorem d_RU_gather_69 : decode b_RU_gather 69 = .ok (.iload 6, 2) := by decide +kernel
theorem d_RU_gather_71 : decode b_RU_gather 71 = .ok (.iaload, 1) := by decide +kernel
theorem d_RU_gather_72 : decode b_RU_gather 72 = .ok (.istore 9, 2) := by decide +kernel
theorem d_RU_gather_74 : decode b_RU_gather 74 = .ok (.iload 9, 2) := by decide +kernel
theorem d_RU_gather_76 : decode b_RU_gather 76 = .ok (.iload 7, 2) := by decide +kernel
theorem d_RU_gather_78 : decode b_RU_gather 78 = .ok (.if_icmp .ge 20, 3) := by decide +kernel
theorem d_RU_gather_81 : decode b_RU_gather 81 = .ok (.aload_n 3, 1) := by decide +kernel
theorem d_RU_gather_82 : decode b_RU_gather 82 = .ok (.aload_n 0, 1) := by decide +kernel
theorem d_RU_gather_83 : decode b_RU_gather 83 = .ok (.getfield 9, 3) := by decide +kernel
theorem d_RU_gather_86 : decode b_RU_gather 86 = .ok (.iload 9, 2) := by decide +kernel
theorem d_RU_gather_88 : decode b_RU_gather 88 = .ok (.iaload, 1) := by decide +kernel
theorem d_RU_gather_89 : decode b_RU_gather 89 = .ok (.invokevirtual 55, 3) := by decide +kernel
theorem d_RU_gather_92 : decode b_RU_gather 92 = .ok (.iinc 9 1, 3) := by decide +kernel
theorem d_RU_gather_95 : decode b_RU_gather 95 = .ok (.goto (-21), 3) := by decide +kernel
theorem d_RU_gather_98 : decode b_RU_gather 98 = .ok (.aload_n 0, 1) := by decide +kernel
theorem d_RU_gather_99 : decode b_RU_gather 99 = .ok (.iload 6, 2) := by decide +kernel
theorem d_RU_gather_101 : decode b_RU_gather 101 = .ok (.invokevirtual 58, 3) := by decide +kernel
theorem d_RU_gather_104 : decode b_RU_gather 104 = .ok (.istore 6, 2) := by decide +kernel
theorem d_RU_gather_106 : decode b_RU_gather 106 = .ok (.iinc 8 1, 3) := by decide +kernel
theorem d_RU_gather_109 : decode b_RU_gather 109 = .ok (.goto (-68), 3) := by decide +kernel
theorem d_RU_gather_112 : decode b_RU_gather 112 = .ok (.iload 4, 2) := by decide +kernel
theorem d_RU_gather_114 : decode b_RU_gather 114 = .ok (.ifCond .le 23, 3) := by decide +kernel
theorem d_RU_gather_117 : decode b_RU_gather 117 = .ok (.aload_n 0, 1) := by decide +kernel
theorem d_RU_gather_118 : decode b_RU_gather 118 = .ok (.getfield 31, 3) := by decide +kernel
theorem d_RU_gather_121 : decode b_RU_gather 121 = .ok (.getfield 35, 3) := by decide +kernel
theorem d_RU_gather_124 : decode b_RU_gather 124 = .ok (.aload_n 0, 1) := by decide +kernel
theorem d_RU_gather_125 : decode b_RU_gather 125 = .ok (.getfield 9, 3) := by decide +kernel
theorem d_RU_gather_128 : decode b_RU_gather 128 = .ok (.iload 4, 2) := by decide +kernel
theorem d_RU_gather_130 : decode b_RU_gather 130 = .ok (.iconst 1, 1) := by decide +kernel
theorem d_RU_gather_131 : decode b_RU_gather 131 = .ok (.isub, 1) := by decide +kernel
theorem d_RU_gather_132 : decode b_RU_gather 132 = .ok (.iaload, 1) := by decide +kernel
theorem d_RU_gather_133 : decode b_RU_gather 133 = .ok (.iaload, 1) := by decide +kernel
theorem d_RU_gather_134 : decode b_RU_gather 134 = .ok (.goto 4, 3) := by decide +kernel
theorem d_RU_gather_137 : decode b_RU_gather 137 = .ok (.iload_n 2, 1) := by decide +kernel
theorem d_RU_gather_138 : decode b_RU_gather 138 = .ok (.istore 8, 2) := by decide +kernel
theorem d_RU_gather_140 : decode b_RU_gather 140 = .ok (.aload_n 3, 1) := by decide +kernel
theorem d_RU_gather_141 : decode b_RU_gather 141 = .ok (.iload 5, 2) := by decide +kernel
theorem d_RU_gather_143 : decode b_RU_gather 143 = .ok (.iload 8, 2) := by decide +kernel
theorem d_RU_gather_145 : decode b_RU_gather 145 = .ok (.invokestatic 62, 3) := by decide +kernel
theorem d_RU_gather_148 : decode b_RU_gather 148 = .ok (.invokestatic 68, 3) := by decide +kernel
theorem d_RU_gather_151 : decode b_RU_gather 151 = .ok (.putfield 71, 3) := by decide +kernel
theorem d_RU_gather_154 : decode b_RU_gather 154 = .ok (.aload_n 3, 1) := by decide +kernel
theorem d_RU_gather_155 : decode b_RU_gather 155 = .ok (.iload 5, 2) := by decide +kernel
theorem d_RU_gather_157 : decode b_RU_gather 157 = .ok (.aload_n 0, 1) := by decide +kernel
theorem d_RU_gather_158 : decode b_RU_gather 158 = .ok (.iload 7, 2) := by decide +kernel
theorem d_RU_gather_160 : decode b_RU_gather 160 = .ok (.iload_n 2, 1) := by decide +kernel
theorem d_RU_gather_161 : decode b_RU_gather 161 = .ok (.invokevirtual 74, 3) := by decide +kernel
theorem d_RU_gather_164 : decode b_RU_gather 164 = .ok (.invokestatic 62, 3) := by decide +kernel
theorem d_RU_gather_167 : decode b_RU_gather 167 = .ok (.invokestatic 68, 3) := by decide +kernel
theorem d_RU_gather_170 : decode b_RU_gather 170 = .ok (.putfield 77, 3) := by decide +kernel
theorem d_RU_gather_173 : decode b_RU_gather 173 = .ok (.return_, 1) := by decide +kernel
theorem d_RU_runBehind_0 : decode b_RU_runBehind 0 = .ok (.aload_n 0, 1) := by decide +kernel
theorem d_RU_runBehind_1 : decode b_RU_runBehind 1 = .ok (.getfield 9, 3) := by decide +kernel
theorem d_RU_runBehind_4 : decode b_RU_runBehind 4 = .ok (.aload_n 0, 1) := by decide +kernel
theorem d_RU_runBehind_5 : decode b_RU_runBehind 5 = .ok (.getfield 22, 3) := by decide +kernel
theorem d_RU_runBehind_8 : decode b_RU_runBehind 8 = .ok (.iload_n 1, 1) := by decide +kernel
theorem d_RU_runBehind_9 : decode b_RU_runBehind 9 = .ok (.iaload, 1) := by decide +kernel
theorem d_RU_runBehind_10 : decode b_RU_runBehind 10 = .ok (.iconst 1, 1) := by decide +kernel
theorem d_RU_runBehind_11 : decode b_RU_runBehind 11 = .ok (.isub, 1) := by decide +kernel
theorem d_RU_runBehind_12 : decode b_RU_runBehind 12 = .ok (.iaload, 1) := by decide +kernel
theorem d_RU_runBehind_13 : decode b_RU_runBehind 13 = .ok (.istore_n 2, 1) := by decide +kernel
theorem d_RU_runBehind_14 : decode b_RU_runBehind 14 = .ok (.aload_n 0, 1) := by decide +kernel
theorem d_RU_runBehind_15 : decode b_RU_runBehind 15 = .ok (.getfield 31, 3) := by decide +kernel
theorem d_RU_runBehind_18 : decode b_RU_runBehind 18 = .ok (.getfield 44, 3) := by decide +kernel
theorem d_RU_runBehind_21 : decode b_RU_runBehind 21 = .ok (.iload_n 2, 1) := by decide +kernel
theorem d_RU_runBehind_22 : decode b_RU_runBehind 22 = .ok (.iaload, 1) := by decide +kernel
theorem d_RU_runBehind_23 : decode b_RU_runBehind 23 = .ok (.invokestatic 80, 3) := by decide +kernel
theorem d_RU_runBehind_26 : decode b_RU_runBehind 26 = .ok (.ifCond .eq 20, 3) := by decide +kernel
theorem d_RU_runBehind_29 : decode b_RU_runBehind 29 = .ok (.aload_n 0, 1) := by decide +kernel
theorem d_RU_runBehind_30 : decode b_RU_runBehind 30 = .ok (.getfield 31, 3) := by decide +kernel
theorem d_RU_runBehind_33 : decode b_RU_runBehind 33 = .ok (.getfield 47, 3) := by decide +kernel
theorem d_RU_runBehind_36 : decode b_RU_runBehind 36 = .ok (.iload_n 2, 1) := by decide +kernel
theorem d_RU_runBehind_37 : decode b_RU_runBehind 37 = .ok (.iaload, 1) := by decide +kernel
theorem d_RU_runBehind_38 : decode b_RU_runBehind 38 = .ok (.iconst (-1), 1) := by decide +kernel
theorem d_RU_runBehind_39 : decode b_RU_runBehind 39 = .ok (.if_icmp .eq 7, 3) := by decide +kernel
theorem d_RU_runBehind_42 : decode b_RU_runBehind 42 = .ok (.iconst 1, 1) := by decide +kernel
theorem d_RU_runBehind_43 : decode b_RU_runBehind 43 = .ok (.goto 4, 3) := by decide +kernel
theorem d_RU_runBehind_46 : decode b_RU_runBehind 46 = .ok (.iconst 0, 1) := by decide +kernel
theorem d_RU_runBehind_47 : decode b_RU_runBehind 47 = .ok (.istore_n 3, 1) := by decide +kernel
theorem d_RU_runBehind_48 : decode b_RU_runBehind 48 = .ok (.iload_n 3, 1) := by decide +kernel
theorem d_RU_runBehind_49 : decode b_RU_runBehind 49 = .ok (.ifCond .eq 20, 3) := by decide +kernel
theorem d_RU_runBehind_52 : decode b_RU_runBehind 52 = .ok (.aload_n 0, 1) := by decide +kernel
theorem d_RU_runBehind_53 : decode b_RU_runBehind 53 = .ok (.getfield 25, 3) := by decide +kernel
theorem d_RU_runBehind_56 : decode b_RU_runBehind 56 = .ok (.aload_n 0, 1) := by decide +kernel
theorem d_RU_runBehind_57 : decode b_RU_runBehind 57 = .ok (.getfield 31, 3) := by decide +kernel
theorem d_RU_runBehind_60 : decode b_RU_runBehind 60 = .ok (.getfield 47, 3) := by decide +kernel
theorem d_RU_runBehind_63 : decode b_RU_runBehind 63 = .ok (.iload_n 2, 1) := by decide +kernel
theorem d_RU_runBehind_64 : decode b_RU_runBehind 64 = .ok (.iaload, 1) := by decide +kernel
theorem d_RU_runBehind_65 : decode b_RU_runBehind 65 = .ok (.iaload, 1) := by decide +kernel
theorem d_RU_runBehind_66 : decode b_RU_runBehind 66 = .ok (.goto 4, 3) := by decide +kernel
theorem d_RU_runBehind_69 : decode b_RU_runBehind 69 = .ok (.iconst (-1), 1) := by decide +kernel
theorem d_RU_runBehind_70 : decode b_RU_runBehind 70 = .ok (.ireturn, 1) := by decide +kernel
theorem d_RU_levelBehind_0 : decode b_RU_levelBehind 0 = .ok (.aload_n 0, 1) := by decide +kernel
theorem d_RU_levelBehind_1 : decode b_RU_levelBehind 1 = .ok (.getfield 31, 3) := by decide +kernel
theorem d_RU_levelBehind_4 : decode b_RU_levelBehind 4 = .ok (.getfield 44, 3) := by decide +kernel
theorem d_RU_levelBehind_7 : decode b_RU_levelBehind 7 = .ok (.aload_n 0, 1) := by decide +kernel
theorem d_RU_levelBehind_8 : decode b_RU_levelBehind 8 = .ok (.getfield 9, 3) := by decide +kernel
theorem d_RU_levelBehind_11 : decode b_RU_levelBehind 11 = .ok (.iload_n 1, 1) := by decide +kernel
theorem d_RU_levelBehind_12 : decode b_RU_levelBehind 12 = .ok (.iconst 1, 1) := by decide +kernel
theorem d_RU_levelBehind_13 : decode b_RU_levelBehind 13 = .ok (.isub, 1) := by decide +kernel
theorem d_RU_levelBehind_14 : decode b_RU_levelBehind 14 = .ok (.iaload, 1) := by decide +kernel
theorem d_RU_levelBehind_15 : decode b_RU_levelBehind 15 = .ok (.iaload, 1) := by decide +kernel
theorem d_RU_levelBehind_16 : decode b_RU_levelBehind 16 = .ok (.invokestatic 80, 3) := by decide +kernel
theorem d_RU_levelBehind_19 : decode b_RU_levelBehind 19 = .ok (.istore_n 3, 1) := by decide +kernel
theorem d_RU_levelBehind_20 : decode b_RU_levelBehind 20 = .ok (.iload_n 1, 1) := by decide +kernel
theorem d_RU_levelBehind_21 : decode b_RU_levelBehind 21 = .ok (.aload_n 0, 1) := by decide +kernel
theorem d_RU_levelBehind_22 : decode b_RU_levelBehind 22 = .ok (.getfield 15, 3) := by decide +kernel
theorem d_RU_levelBehind_25 : decode b_RU_levelBehind 25 = .ok (.if_icmp .ge 24, 3) := by decide +kernel
theorem d_RU_levelBehind_28 : decode b_RU_levelBehind 28 = .ok (.iload_n 3, 1) := by decide +kernel
theorem d_RU_levelBehind_29 : decode b_RU_levelBehind 29 = .ok (.ifCond .ne 20, 3) := by decide +kernel
theorem d_RU_levelBehind_32 : decode b_RU_levelBehind 32 = .ok (.aload_n 0, 1) := by decide +kernel
theorem d_RU_levelBehind_33 : decode b_RU_levelBehind 33 = .ok (.getfield 31, 3) := by decide +kernel
theorem d_RU_levelBehind_36 : decode b_RU_levelBehind 36 = .ok (.getfield 35, 3) := by decide +kernel
theorem d_RU_levelBehind_39 : decode b_RU_levelBehind 39 = .ok (.aload_n 0, 1) := by decide +kernel
theorem d_RU_levelBehind_40 : decode b_RU_levelBehind 40 = .ok (.getfield 9, 3) := by decide +kernel
theorem d_RU_levelBehind_43 : decode b_RU_levelBehind 43 = .ok (.iload_n 1, 1) := by decide +kernel
theorem d_RU_levelBehind_44 : decode b_RU_levelBehind 44 = .ok (.iaload, 1) := by decide +kernel
theorem d_RU_levelBehind_45 : decode b_RU_levelBehind 45 = .ok (.iaload, 1) := by decide +kernel
theorem d_RU_levelBehind_46 : decode b_RU_levelBehind 46 = .ok (.goto 4, 3) := by decide +kernel
theorem d_RU_levelBehind_49 : decode b_RU_levelBehind 49 = .ok (.iload_n 2, 1) := by decide +kernel
theorem d_RU_levelBehind_50 : decode b_RU_levelBehind 50 = .ok (.ireturn, 1) := by decide +kernel
