theorem dX1_init_0 : decode cX1_init 0 = .ok (.aload_n 0, 1) := by decide +kernel
theorem dX1_init_1 : decode cX1_init 1 = .ok (.invokespecial 3, 3) := by decide +kernel
theorem dX1_init_4 : decode cX1_init 4 = .ok (.aload_n 0, 1) := by decide +kernel
theorem dX1_init_5 : decode cX1_init 5 = .ok (.iconst 0, 1) := by decide +kernel
theorem dX1_init_6 : decode cX1_init 6 = .ok (.putfield 9, 3) := by decide +kernel
theorem dX1_init_9 : decode cX1_init 9 = .ok (.aload_n 0, 1) := by decide +kernel
theorem dX1_init_10 : decode cX1_init 10 = .ok (.bipush 6, 2) := by decide +kernel
theorem dX1_init_12 : decode cX1_init 12 = .ok (.newarray .int, 2) := by decide +kernel
theorem dX1_init_14 : decode cX1_init 14 = .ok (.putfield 15, 3) := by decide +kernel
theorem dX1_init_17 : decode cX1_init 17 = .ok (.aload_n 0, 1) := by decide +kernel
theorem dX1_init_18 : decode cX1_init 18 = .ok (.bipush 6, 2) := by decide +kernel
theorem dX1_init_20 : decode cX1_init 20 = .ok (.newarray .int, 2) := by decide +kernel
theorem dX1_init_22 : decode cX1_init 22 = .ok (.putfield 19, 3) := by decide +kernel
theorem dX1_init_25 : decode cX1_init 25 = .ok (.aload_n 0, 1) := by decide +kernel
theorem dX1_init_26 : decode cX1_init 26 = .ok (.bipush 36, 2) := by decide +kernel
theorem dX1_init_28 : decode cX1_init 28 = .ok (.newarray .int, 2) := by decide +kernel
theorem dX1_init_30 : decode cX1_init 30 = .ok (.putfield 22, 3) := by decide +kernel
theorem dX1_init_33 : decode cX1_init 33 = .ok (.aload_n 0, 1) := by decide +kernel
theorem dX1_init_34 : decode cX1_init 34 = .ok (.bipush 6, 2) := by decide +kernel
theorem dX1_init_36 : decode cX1_init 36 = .ok (.newarray .int, 2) := by decide +kernel
theorem dX1_init_38 : decode cX1_init 38 = .ok (.putfield 25, 3) := by decide +kernel
theorem dX1_init_41 : decode cX1_init 41 = .ok (.aload_n 0, 1) := by decide +kernel
theorem dX1_init_42 : decode cX1_init 42 = .ok (.bipush 6, 2) := by decide +kernel
theorem dX1_init_44 : decode cX1_init 44 = .ok (.newarray .int, 2) := by decide +kernel
theorem dX1_init_46 : decode cX1_init 46 = .ok (.putfield 28, 3) := by decide +kernel
theorem dX1_init_49 : decode cX1_init 49 = .ok (.aload_n 0, 1) := by decide +kernel
theorem dX1_init_50 : decode cX1_init 50 = .ok (.bipush 6, 2) := by decide +kernel
theorem dX1_init_52 : decode cX1_init 52 = .ok (.newarray .int, 2) := by decide +kernel
theorem dX1_init_54 : decode cX1_init 54 = .ok (.putfield 31, 3) := by decide +kernel
theorem dX1_init_57 : decode cX1_init 57 = .ok (.aload_n 0, 1) := by decide +kernel
theorem dX1_init_58 : decode cX1_init 58 = .ok (.iconst 0, 1) := by decide +kernel
theorem dX1_init_59 : decode cX1_init 59 = .ok (.putfield 34, 3) := by decide +kernel
theorem dX1_init_62 : decode cX1_init 62 = .ok (.aload_n 0, 1) := by decide +kernel
theorem dX1_init_63 : decode cX1_init 63 = .ok (.iconst 0, 1) := by decide +kernel
theorem dX1_init_64 : decode cX1_init 64 = .ok (.putfield 37, 3) := by decide +kernel
theorem dX1_init_67 : decode cX1_init 67 = .ok (.aload_n 0, 1) := by decide +kernel
theorem dX1_init_68 : decode cX1_init 68 = .ok (.iconst 0, 1) := by decide +kernel
theorem dX1_init_69 : decode cX1_init 69 = .ok (.putfield 40, 3) := by decide +kernel
theorem dX1_init_72 : decode cX1_init 72 = .ok (.aload_n 0, 1) := by decide +kernel
theorem dX1_init_73 : decode cX1_init 73 = .ok (.iconst 0, 1) := by decide +kernel
theorem dX1_init_74 : decode cX1_init 74 = .ok (.putfield 43, 3) := by decide +kernel
theorem dX1_init_77 : decode cX1_init 77 = .ok (.aload_n 0, 1) := by decide +kernel
theorem dX1_init_78 : decode cX1_init 78 = .ok (.iconst (-1), 1) := by decide +kernel
theorem dX1_init_79 : decode cX1_init 79 = .ok (.putfield 46, 3) := by decide +kernel
theorem dX1_init_82 : decode cX1_init 82 = .ok (.aload_n 0, 1) := by decide +kernel
theorem dX1_init_83 : decode cX1_init 83 = .ok (.iconst 0, 1) := by decide +kernel
theorem dX1_init_84 : decode cX1_init 84 = .ok (.putfield 49, 3) := by decide +kernel
theorem dX1_init_87 : decode cX1_init 87 = .ok (.aload_n 0, 1) := by decide +kernel
theorem dX1_init_88 : decode cX1_init 88 = .ok (.iconst 0, 1) := by decide +kernel
theorem dX1_init_89 : decode cX1_init 89 = .ok (.putfield 52, 3) := by decide +kernel
theorem dX1_init_92 : decode cX1_init 92 = .ok (.aload_n 0, 1) := by decide +kernel
theorem dX1_init_93 : decode cX1_init 93 = .ok (.iconst 0, 1) := by decide +kernel
theorem dX1_init_94 : decode cX1_init 94 = .ok (.putfield 55, 3) := by decide +kernel
theorem dX1_init_97 : decode cX1_init 97 = .ok (.aload_n 0, 1) := by decide +kernel
theorem dX1_init_98 : decode cX1_init 98 = .ok (.iconst 0, 1) := by decide +kernel
theorem dX1_init_99 : decode cX1_init 99 = .ok (.putfield 58, 3) := by decide +kernel
theorem dX1_init_102 : decode cX1_init 102 = .ok (.return_, 1) := by decide +kernel
theorem dX1_begin_0 : decode cX1_begin 0 = .ok (.aload_n 0, 1) := by decide +kernel
theorem dX1_begin_1 : decode cX1_begin 1 = .ok (.aload_n 1, 1) := by decide +kernel
theorem dX1_begin_2 : decode cX1_begin 2 = .ok (.getfield 61, 3) := by decide +kernel
theorem dX1_begin_5 : decode cX1_begin 5 = .ok (.putfield 9, 3) := by decide +kernel
theorem dX1_begin_8 : decode cX1_begin 8 = .ok (.aload_n 1, 1) := by decide +kernel
theorem dX1_begin_9 : decode cX1_begin 9 = .ok (.getfield 64, 3) := by decide +kernel
theorem dX1_begin_12 : decode cX1_begin 12 = .ok (.iconst 0, 1) := by decide +kernel
theorem dX1_begin_13 : decode cX1_begin 13 = .ok (.aload_n 0, 1) := by decide +kernel
theorem dX1_begin_14 : decode cX1_begin 14 = .ok (.getfield 15, 3) := by decide +kernel
theorem dX1_begin_17 : decode cX1_begin 17 = .ok (.iconst 0, 1) := by decide +kernel
theorem dX1_begin_18 : decode cX1_begin 18 = .ok (.bipush 6, 2) := by decide +kernel
theorem dX1_begin_20 : decode cX1_begin 20 = .ok (.invokestatic 65, 3) := by decide +kernel
theorem dX1_begin_23 : decode cX1_begin 23 = .ok (.aload_n 1, 1) := by decide +kernel
theorem dX1_begin_24 : decode cX1_begin 24 = .ok (.getfield 71, 3) := by decide +kernel
theorem dX1_begin_27 : decode cX1_begin 27 = .ok (.iconst 0, 1) := by decide +kernel
theorem dX1_begin_28 : decode cX1_begin 28 = .ok (.aload_n 0, 1) := by decide +kernel
theorem dX1_begin_29 : decode cX1_begin 29 = .ok (.getfield 19, 3) := by decide +kernel
theorem dX1_begin_32 : decode cX1_begin 32 = .ok (.iconst 0, 1) := by decide +kernel
theorem dX1_begin_33 : decode cX1_begin 33 = .ok (.bipush 6, 2) := by decide +kernel
theorem dX1_begin_35 : decode cX1_begin 35 = .ok (.invokestatic 65, 3) := by decide +kernel
theorem dX1_begin_38 : decode cX1_begin 38 = .ok (.aload_n 1, 1) := by decide +kernel
theorem dX1_begin_39 : decode cX1_begin 39 = .ok (.getfield 72, 3) := by decide +kernel
theorem dX1_begin_42 : decode cX1_begin 42 = .ok (.iconst 0, 1) := by decide +kernel
theorem dX1_begin_43 : decode cX1_begin 43 = .ok (.aload_n 0, 1) := by decide +kernel
theorem dX1_begin_44 : decode cX1_begin 44 = .ok (.getfield 22, 3) := by decide +kernel
theorem dX1_begin_47 : decode cX1_begin 47 = .ok (.iconst 0, 1) := by decide +kernel
theorem dX1_begin_48 : decode cX1_begin 48 = .ok (.bipush 36, 2) := by decide +kernel
theorem dX1_begin_50 : decode cX1_begin 50 = .ok (.invokestatic 65, 3) := by decide +kernel
theorem dX1_begin_53 : decode cX1_begin 53 = .ok (.aload_n 0, 1) := by decide +kernel
theorem dX1_begin_54 : decode cX1_begin 54 = .ok (.getfield 25, 3) := by decide +kernel
theorem dX1_begin_57 : decode cX1_begin 57 = .ok (.bipush 6, 2) := by decide +kernel
theorem dX1_begin_59 : decode cX1_begin 59 = .ok (.invokestatic 73, 3) := by decide +kernel
theorem dX1_begin_62 : decode cX1_begin 62 = .ok (.aload_n 0, 1) := by decide +kernel
theorem dX1_begin_63 : decode cX1_begin 63 = .ok (.getfield 28, 3) := by decide +kernel
theorem dX1_begin_66 : decode cX1_begin 66 = .ok (.iconst 0, 1) := by decide +kernel
theorem dX1_begin_67 : decode cX1_begin 67 = .ok (.invokestatic 73, 3) := by decide +kernel
theorem dX1_begin_70 : decode cX1_begin 70 = .ok (.aload_n 0, 1) := by decide +kernel
theorem dX1_begin_71 : decode cX1_begin 71 = .ok (.getfield 31, 3) := by decide +kernel
theorem dX1_begin_74 : decode cX1_begin 74 = .ok (.iconst 0, 1) := by decide +kernel
theorem dX1_begin_75 : decode cX1_begin 75 = .ok (.invokestatic 73, 3) := by decide +kernel
theorem dX1_begin_78 : decode cX1_begin 78 = .ok (.aload_n 0, 1) := by decide +kernel
theorem dX1_begin_79 : decode cX1_begin 79 = .ok (.iconst 0, 1) := by decide +kernel
theorem dX1_begin_80 : decode cX1_begin 80 = .ok (.putfield 34, 3) := by decide +kernel
theorem dX1_begin_83 : decode cX1_begin 83 = .ok (.aload_n 0, 1) := by decide +kernel
theorem dX1_begin_84 : decode cX1_begin 84 = .ok (.iconst 0, 1) := by decide +kernel
theorem dX1_begin_85 : decode cX1_begin 85 = .ok (.putfield 37, 3) := by decide +kernel
theorem dX1_begin_88 : decode cX1_begin 88 = .ok (.aload_n 0, 1) := by decide +kernel
theorem dX1_begin_89 : decode cX1_begin 89 = .ok (.iconst 0, 1) := by decide +kernel
theorem dX1_begin_90 : decode cX1_begin 90 = .ok (.putfield 40, 3) := by decide +kernel
theorem dX1_begin_93 : decode cX1_begin 93 = .ok (.aload_n 0, 1) := by decide +kernel
theorem dX1_begin_94 : decode cX1_begin 94 = .ok (.iconst 0, 1) := by decide +kernel
theorem dX1_begin_95 : decode cX1_begin 95 = .ok (.putfield 43, 3) := by decide +kernel
theorem dX1_begin_98 : decode cX1_begin 98 = .ok (.aload_n 0, 1) := by decide +kernel
theorem dX1_begin_99 : decode cX1_begin 99 = .ok (.iconst (-1), 1) := by decide +kernel
theorem dX1_begin_100 : decode cX1_begin 100 = .ok (.putfield 46, 3) := by decide +kernel
theorem dX1_begin_103 : decode cX1_begin 103 = .ok (.aload_n 0, 1) := by decide +kernel
theorem dX1_begin_104 : decode cX1_begin 104 = .ok (.iconst 0, 1) := by decide +kernel
theorem dX1_begin_105 : decode cX1_begin 105 = .ok (.putfield 49, 3) := by decide +kernel
theorem dX1_begin_108 : decode cX1_begin 108 = .ok (.aload_n 0, 1) := by decide +kernel
theorem dX1_begin_109 : decode cX1_begin 109 = .ok (.iconst 0, 1) := by decide +kernel
theorem dX1_begin_110 : decode cX1_begin 110 = .ok (.putfield 52, 3) := by decide +kernel
theorem dX1_begin_113 : decode cX1_begin 113 = .ok (.aload_n 0, 1) := by decide +kernel
theorem dX1_begin_114 : decode cX1_begin 114 = .ok (.iconst 0, 1) := by decide +kernel
theorem dX1_begin_115 : decode cX1_begin 115 = .ok (.putfield 55, 3) := by decide +kernel
theorem dX1_begin_118 : decode cX1_begin 118 = .ok (.return_, 1) := by decide +kernel
theorem dX1_live_0 : decode cX1_live 0 = .ok (.aload_n 0, 1) := by decide +kernel
theorem dX1_live_1 : decode cX1_live 1 = .ok (.aload_n 1, 1) := by decide +kernel
theorem dX1_live_2 : decode cX1_live 2 = .ok (.invokevirtual 79, 3) := by decide +kernel
theorem dX1_live_5 : decode cX1_live 5 = .ok (.iload_n 3, 1) := by decide +kernel
theorem dX1_live_6 : decode cX1_live 6 = .ok (.aload_n 2, 1) := by decide +kernel
theorem dX1_live_7 : decode cX1_live 7 = .ok (.getfield 83, 3) := by decide +kernel
theorem dX1_live_10 : decode cX1_live 10 = .ok (.invokestatic 88, 3) := by decide +kernel
theorem dX1_live_13 : decode cX1_live 13 = .ok (.istore 4, 2) := by decide +kernel
theorem dX1_live_15 : decode cX1_live 15 = .ok (.aload_n 0, 1) := by decide +kernel
theorem dX1_live_16 : decode cX1_live 16 = .ok (.getfield 43, 3) := by decide +kernel
theorem dX1_live_19 : decode cX1_live 19 = .ok (.iload 4, 2) := by decide +kernel
theorem dX1_live_21 : decode cX1_live 21 = .ok (.if_icmp .ge 59, 3) := by decide +kernel
theorem dX1_live_24 : decode cX1_live 24 = .ok (.aload_n 0, 1) := by decide +kernel
theorem dX1_live_25 : decode cX1_live 25 = .ok (.aload_n 2, 1) := by decide +kernel
theorem dX1_live_26 : decode cX1_live 26 = .ok (.aload_n 0, 1) := by decide +kernel
theorem dX1_live_27 : decode cX1_live 27 = .ok (.getfield 43, 3) := by decide +kernel
theorem dX1_live_30 : decode cX1_live 30 = .ok (.iconst 0, 1) := by decide +kernel
theorem dX1_live_31 : decode cX1_live 31 = .ok (.invokevirtual 94, 3) := by decide +kernel
theorem dX1_live_34 : decode cX1_live 34 = .ok (.aload_n 2, 1) := by decide +kernel
theorem dX1_live_35 : decode cX1_live 35 = .ok (.aload_n 0, 1) := by decide +kernel
theorem dX1_live_36 : decode cX1_live 36 = .ok (.getfield 43, 3) := by decide +kernel
theorem dX1_live_39 : decode cX1_live 39 = .ok (.iconst 1, 1) := by decide +kernel
theorem dX1_live_40 : decode cX1_live 40 = .ok (.invokevirtual 94, 3) := by decide +kernel
theorem dX1_live_43 : decode cX1_live 43 = .ok (.aload_n 2, 1) := by decide +kernel
theorem dX1_live_44 : decode cX1_live 44 = .ok (.aload_n 0, 1) := by decide +kernel
theorem dX1_live_45 : decode cX1_live 45 = .ok (.getfield 43, 3) := by decide +kernel
theorem dX1_live_48 : decode cX1_live 48 = .ok (.iconst 2, 1) := by decide +kernel
theorem dX1_live_49 : decode cX1_live 49 = .ok (.invokevirtual 94, 3) := by decide +kernel
theorem dX1_live_52 : decode cX1_live 52 = .ok (.aload_n 2, 1) := by decide +kernel
theorem dX1_live_53 : decode cX1_live 53 = .ok (.aload_n 0, 1) := by decide +kernel
theorem dX1_live_54 : decode cX1_live 54 = .ok (.getfield 43, 3) := by decide +kernel
theorem dX1_live_57 : decode cX1_live 57 = .ok (.iconst 3, 1) := by decide +kernel
theorem dX1_live_58 : decode cX1_live 58 = .ok (.invokevirtual 94, 3) := by decide +kernel
theorem dX1_live_61 : decode cX1_live 61 = .ok (.invokevirtual 97, 3) := by decide +kernel
theorem dX1_live_64 : decode cX1_live 64 = .ok (.ifCond .eq 16, 3) := by decide +kernel
theorem dX1_live_67 : decode cX1_live 67 = .ok (.aload_n 0, 1) := by decide +kernel
theorem dX1_live_68 : decode cX1_live 68 = .ok (.dup, 1) := by decide +kernel
theorem dX1_live_69 : decode cX1_live 69 = .ok (.getfield 43, 3) := by decide +kernel
theorem dX1_live_72 : decode cX1_live 72 = .ok (.iconst 1, 1) := by decide +kernel
theorem dX1_live_73 : decode cX1_live 73 = .ok (.iadd, 1) := by decide +kernel
theorem dX1_live_74 : decode cX1_live 74 = .ok (.putfield 43, 3) := by decide +kernel
theorem dX1_live_77 : decode cX1_live 77 = .ok (.goto (-62), 3) := by decide +kernel
theorem dX1_live_80 : decode cX1_live 80 = .ok (.aload_n 0, 1) := by decide +kernel
theorem dX1_live_81 : decode cX1_live 81 = .ok (.getfield 43, 3) := by decide +kernel
theorem dX1_live_84 : decode cX1_live 84 = .ok (.ireturn, 1) := by decide +kernel
theorem dX1_drift_0 : decode cX1_drift 0 = .ok (.aload_n 0, 1) := by decide +kernel
theorem dX1_drift_1 : decode cX1_drift 1 = .ok (.aload_n 1, 1) := by decide +kernel
theorem dX1_drift_2 : decode cX1_drift 2 = .ok (.invokevirtual 79, 3) := by decide +kernel
theorem dX1_drift_5 : decode cX1_drift 5 = .ok (.aload_n 0, 1) := by decide +kernel
theorem dX1_drift_6 : decode cX1_drift 6 = .ok (.iload_n 2, 1) := by decide +kernel
theorem dX1_drift_7 : decode cX1_drift 7 = .ok (.putfield 58, 3) := by decide +kernel
theorem dX1_drift_10 : decode cX1_drift 10 = .ok (.iconst 0, 1) := by decide +kernel
theorem dX1_drift_11 : decode cX1_drift 11 = .ok (.istore 4, 2) := by decide +kernel
theorem dX1_drift_13 : decode cX1_drift 13 = .ok (.iload 4, 2) := by decide +kernel
theorem dX1_drift_15 : decode cX1_drift 15 = .ok (.iload_n 3, 1) := by decide +kernel
theorem dX1_drift_16 : decode cX1_drift 16 = .ok (.if_icmp .ge 45, 3) := by decide +kernel
theorem dX1_drift_19 : decode cX1_drift 19 = .ok (.aload_n 0, 1) := by decide +kernel
theorem dX1_drift_20 : decode cX1_drift 20 = .ok (.bipush 10, 2) := by decide +kernel
theorem dX1_drift_22 : decode cX1_drift 22 = .ok (.invokevirtual 101, 3) := by decide +kernel
theorem dX1_drift_25 : decode cX1_drift 25 = .ok (.istore 5, 2) := by decide +kernel
theorem dX1_drift_27 : decode cX1_drift 27 = .ok (.iload 5, 2) := by decide +kernel
theorem dX1_drift_29 : decode cX1_drift 29 = .ok (.bipush 8, 2) := by decide +kernel
theorem dX1_drift_31 : decode cX1_drift 31 = .ok (.if_icmp .lt 10, 3) := by decide +kernel
theorem dX1_drift_34 : decode cX1_drift 34 = .ok (.aload_n 0, 1) := by decide +kernel
theorem dX1_drift_35 : decode cX1_drift 35 = .ok (.invokevirtual 105, 3) := by decide +kernel
theorem dX1_drift_38 : decode cX1_drift 38 = .ok (.goto 17, 3) := by decide +kernel
theorem dX1_drift_41 : decode cX1_drift 41 = .ok (.aload_n 0, 1) := by decide +kernel
theorem dX1_drift_42 : decode cX1_drift 42 = .ok (.getfield 9, 3) := by decide +kernel
theorem dX1_drift_45 : decode cX1_drift 45 = .ok (.iconst 2, 1) := by decide +kernel
theorem dX1_drift_46 : decode cX1_drift 46 = .ok (.if_icmp .lt 9, 3) := by decide +kernel
theorem dX1_drift_49 : decode cX1_drift 49 = .ok (.aload_n 0, 1) := by decide +kernel
theorem dX1_drift_50 : decode cX1_drift 50 = .ok (.iload 5, 2) := by decide +kernel
theorem dX1_drift_52 : decode cX1_drift 52 = .ok (.invokevirtual 108, 3) := by decide +kernel
theorem dX1_drift_55 : decode cX1_drift 55 = .ok (.iinc 4 1, 3) := by decide +kernel
theorem dX1_drift_58 : decode cX1_drift 58 = .ok (.goto (-45), 3) := by decide +kernel
theorem dX1_drift_61 : decode cX1_drift 61 = .ok (.return_, 1) := by decide +kernel
theorem dX1_driftOn_0 : decode cX1_driftOn 0 = .ok (.aload_n 0, 1) := by decide +kernel
theorem dX1_driftOn_1 : decode cX1_driftOn 1 = .ok (.aload_n 0, 1) := by decide +kernel
theorem dX1_driftOn_2 : decode cX1_driftOn 2 = .ok (.getfield 9, 3) := by decide +kernel
theorem dX1_driftOn_5 : decode cX1_driftOn 5 = .ok (.invokevirtual 101, 3) := by decide +kernel
theorem dX1_driftOn_8 : decode cX1_driftOn 8 = .ok (.istore_n 2, 1) := by decide +kernel
theorem dX1_driftOn_9 : decode cX1_driftOn 9 = .ok (.iload_n 1, 1) := by decide +kernel
theorem dX1_driftOn_10 : decode cX1_driftOn 10 = .ok (.bipush 6, 2) := by decide +kernel
theorem dX1_driftOn_12 : decode cX1_driftOn 12 = .ok (.if_icmp .lt 23, 3) := by decide +kernel
theorem dX1_driftOn_15 : decode cX1_driftOn 15 = .ok (.aload_n 0, 1) := by decide +kernel
theorem dX1_driftOn_16 : decode cX1_driftOn 16 = .ok (.iload_n 1, 1) := by decide +kernel
theorem dX1_driftOn_17 : decode cX1_driftOn 17 = .ok (.bipush 6, 2) := by decide +kernel
theorem dX1_driftOn_19 : decode cX1_driftOn 19 = .ok (.if_icmp .ne 7, 3) := by decide +kernel
theorem dX1_driftOn_22 : decode cX1_driftOn 22 = .ok (.iconst 4, 1) := by decide +kernel
theorem dX1_driftOn_23 : decode cX1_driftOn 23 = .ok (.goto 4, 3) := by decide +kernel
theorem dX1_driftOn_26 : decode cX1_driftOn 26 = .ok (.iconst 5, 1) := by decide +kernel
theorem dX1_driftOn_27 : decode cX1_driftOn 27 = .ok (.iload_n 2, 1) := by decide +kernel
theorem dX1_driftOn_28 : decode cX1_driftOn 28 = .ok (.iconst (-1), 1) := by decide +kernel
theorem dX1_driftOn_29 : decode cX1_driftOn 29 = .ok (.iconst (-1), 1) := by decide +kernel
theorem dX1_driftOn_30 : decode cX1_driftOn 30 = .ok (.invokevirtual 97, 3) := by decide +kernel
theorem dX1_driftOn_33 : decode cX1_driftOn 33 = .ok (.pop, 1) := by decide +kernel
theorem dX1_driftOn_34 : decode cX1_driftOn 34 = .ok (.return_, 1) := by decide +kernel
theorem dX1_driftOn_35 : decode cX1_driftOn 35 = .ok (.aload_n 0, 1) := by decide +kernel
theorem dX1_driftOn_36 : decode cX1_driftOn 36 = .ok (.getfield 9, 3) := by decide +kernel
theorem dX1_driftOn_39 : decode cX1_driftOn 39 = .ok (.iconst 2, 1) := by decide +kernel
theorem dX1_driftOn_40 : decode cX1_driftOn 40 = .ok (.if_icmp .ge 7, 3) := by decide +kernel
theorem dX1_driftOn_43 : decode cX1_driftOn 43 = .ok (.iconst (-1), 1) := by decide +kernel
theorem dX1_driftOn_44 : decode cX1_driftOn 44 = .ok (.goto 22, 3) := by decide +kernel
theorem dX1_driftOn_47 : decode cX1_driftOn 47 = .ok (.aload_n 0, 1) := by decide +kernel
theorem dX1_driftOn_48 : decode cX1_driftOn 48 = .ok (.aload_n 0, 1) := by decide +kernel
theorem dX1_driftOn_49 : decode cX1_driftOn 49 = .ok (.getfield 9, 3) := by decide +kernel
theorem dX1_driftOn_52 : decode cX1_driftOn 52 = .ok (.iconst 1, 1) := by decide +kernel
theorem dX1_driftOn_53 : decode cX1_driftOn 53 = .ok (.isub, 1) := by decide +kernel
theorem dX1_driftOn_54 : decode cX1_driftOn 54 = .ok (.invokevirtual 101, 3) := by decide +kernel
theorem dX1_driftOn_57 : decode cX1_driftOn 57 = .ok (.iconst 1, 1) := by decide +kernel
theorem dX1_driftOn_58 : decode cX1_driftOn 58 = .ok (.iadd, 1) := by decide +kernel
theorem dX1_driftOn_59 : decode cX1_driftOn 59 = .ok (.iload_n 2, 1) := by decide +kernel
theorem dX1_driftOn_60 : decode cX1_driftOn 60 = .ok (.iadd, 1) := by decide +kernel
theorem dX1_driftOn_61 : decode cX1_driftOn 61 = .ok (.aload_n 0, 1) := by decide +kernel
theorem dX1_driftOn_62 : decode cX1_driftOn 62 = .ok (.getfield 9, 3) := by decide +kernel
theorem dX1_driftOn_65 : decode cX1_driftOn 65 = .ok (.irem, 1) := by decide +kernel
theorem dX1_driftOn_66 : decode cX1_driftOn 66 = .ok (.istore_n 3, 1) := by decide +kernel
theorem dX1_driftOn_67 : decode cX1_driftOn 67 = .ok (.iload_n 1, 1) := by decide +kernel
theorem dX1_driftOn_68 : decode cX1_driftOn 68 = .ok (.iconst 3, 1) := by decide +kernel
theorem dX1_driftOn_69 : decode cX1_driftOn 69 = .ok (.if_icmp .ge 13, 3) := by decide +kernel
theorem dX1_driftOn_72 : decode cX1_driftOn 72 = .ok (.aload_n 0, 1) := by decide +kernel
theorem dX1_driftOn_73 : decode cX1_driftOn 73 = .ok (.iconst 0, 1) := by decide +kernel
theorem dX1_driftOn_74 : decode cX1_driftOn 74 = .ok (.iload_n 2, 1) := by decide +kernel
theorem dX1_driftOn_75 : decode cX1_driftOn 75 = .ok (.iload_n 3, 1) := by decide +kernel
theorem dX1_driftOn_76 : decode cX1_driftOn 76 = .ok (.iconst (-1), 1) := by decide +kernel
theorem dX1_driftOn_77 : decode cX1_driftOn 77 = .ok (.invokevirtual 97, 3) := by decide +kernel
theorem dX1_driftOn_80 : decode cX1_driftOn 80 = .ok (.pop, 1) := by decide +kernel
theorem dX1_driftOn_81 : decode cX1_driftOn 81 = .ok (.return_, 1) := by decide +kernel
theorem dX1_driftOn_82 : decode cX1_driftOn 82 = .ok (.iconst 1, 1) := by decide +kernel
theorem dX1_driftOn_83 : decode cX1_driftOn 83 = .ok (.aload_n 0, 1) := by decide +kernel
theorem dX1_driftOn_84 : decode cX1_driftOn 84 = .ok (.iconst 5, 1) := by decide +kernel
theorem dX1_driftOn_85 : decode cX1_driftOn 85 = .ok (.invokevirtual 101, 3) := by decide +kernel
theorem dX1_driftOn_88 : decode cX1_driftOn 88 = .ok (.iadd, 1) := by decide +kernel
theorem dX1_driftOn_89 : decode cX1_driftOn 89 = .ok (.istore 4, 2) := by decide +kernel
theorem dX1_driftOn_91 : decode cX1_driftOn 91 = .ok (.aload_n 0, 1) := by decide +kernel
theorem dX1_driftOn_92 : decode cX1_driftOn 92 = .ok (.iload_n 1, 1) := by decide +kernel
theorem dX1_driftOn_93 : decode cX1_driftOn 93 = .ok (.iconst 3, 1) := by decide +kernel
theorem dX1_driftOn_94 : decode cX1_driftOn 94 = .ok (.if_icmp .ne 7, 3) := by decide +kernel
theorem dX1_driftOn_97 : decode cX1_driftOn 97 = .ok (.iconst 1, 1) := by decide +kernel
theorem dX1_driftOn_98 : decode cX1_driftOn 98 = .ok (.goto 13, 3) := by decide +kernel
theorem dX1_driftOn_101 : decode cX1_driftOn 101 = .ok (.iload_n 1, 1) := by decide +kernel
theorem dX1_driftOn_102 : decode cX1_driftOn 102 = .ok (.iconst 4, 1) := by decide +kernel
theorem dX1_driftOn_103 : decode cX1_driftOn 103 = .ok (.if_icmp .ne 7, 3) := by decide +kernel
theorem dX1_driftOn_106 : decode cX1_driftOn 106 = .ok (.iconst 2, 1) := by decide +kernel
theorem dX1_driftOn_107 : decode cX1_driftOn 107 = .ok (.goto 4, 3) := by decide +kernel
theorem dX1_driftOn_110 : decode cX1_driftOn 110 = .ok (.iconst 3, 1) := by decide +kernel
theorem dX1_driftOn_111 : decode cX1_driftOn 111 = .ok (.iload_n 2, 1) := by decide +kernel
theorem dX1_driftOn_112 : decode cX1_driftOn 112 = .ok (.iload_n 3, 1) := by decide +kernel
theorem dX1_driftOn_113 : decode cX1_driftOn 113 = .ok (.iload 4, 2) := by decide +kernel
theorem dX1_driftOn_115 : decode cX1_driftOn 115 = .ok (.invokevirtual 97, 3) := by decide +kernel
theorem dX1_driftOn_118 : decode cX1_driftOn 118 = .ok (.pop, 1) := by decide +kernel
theorem dX1_driftOn_119 : decode cX1_driftOn 119 = .ok (.return_, 1) := by decide +kernel
theorem dX1_below_0 : decode cX1_below 0 = .ok (.aload_n 0, 1) := by decide +kernel
theorem dX1_below_1 : decode cX1_below 1 = .ok (.aload_n 0, 1) := by decide +kernel
theorem dX1_below_2 : decode cX1_below 2 = .ok (.getfield 58, 3) := by decide +kernel
theorem dX1_below_5 : decode cX1_below 5 = .ok (.ldc 112, 2) := by decide +kernel
theorem dX1_below_7 : decode cX1_below 7 = .ok (.imul, 1) := by decide +kernel
theorem dX1_below_8 : decode cX1_below 8 = .ok (.sipush 12345, 3) := by decide +kernel
theorem dX1_below_11 : decode cX1_below 11 = .ok (.iadd, 1) := by decide +kernel
theorem dX1_below_12 : decode cX1_below 12 = .ok (.putfield 58, 3) := by decide +kernel
theorem dX1_below_15 : decode cX1_below 15 = .ok (.iload_n 1, 1) := by decide +kernel
theorem dX1_below_16 : decode cX1_below 16 = .ok (.iconst 1, 1) := by decide +kernel
theorem dX1_below_17 : decode cX1_below 17 = .ok (.if_icmp .ge 7, 3) := by decide +kernel
theorem dX1_below_20 : decode cX1_below 20 = .ok (.iconst 0, 1) := by decide +kernel
theorem dX1_below_21 : decode cX1_below 21 = .ok (.goto 12, 3) := by decide +kernel
theorem dX1_below_24 : decode cX1_below 24 = .ok (.aload_n 0, 1) := by decide +kernel
theorem dX1_below_25 : decode cX1_below 25 = .ok (.getfield 58, 3) := by decide +kernel
theorem dX1_below_28 : decode cX1_below 28 = .ok (.bipush 16, 2) := by decide +kernel
theorem dX1_below_30 : decode cX1_below 30 = .ok (.iushr, 1) := by decide +kernel
theorem dX1_below_31 : decode cX1_below 31 = .ok (.iload_n 1, 1) := by decide +kernel
theorem dX1_below_32 : decode cX1_below 32 = .ok (.irem, 1) := by decide +kernel
theorem dX1_below_33 : decode cX1_below 33 = .ok (.ireturn, 1) := by decide +kernel
theorem dX1_has_0 : decode cX1_has 0 = .ok (.iload_n 1, 1) := by decide +kernel
theorem dX1_has_1 : decode cX1_has 1 = .ok (.ifCond .lt 15, 3) := by decide +kernel
theorem dX1_has_4 : decode cX1_has 4 = .ok (.iload_n 1, 1) := by decide +kernel
theorem dX1_has_5 : decode cX1_has 5 = .ok (.aload_n 0, 1) := by decide +kernel
theorem dX1_has_6 : decode cX1_has 6 = .ok (.getfield 9, 3) := by decide +kernel
theorem dX1_has_9 : decode cX1_has 9 = .ok (.if_icmp .ge 7, 3) := by decide +kernel
theorem dX1_has_12 : decode cX1_has 12 = .ok (.iconst 1, 1) := by decide +kernel
theorem dX1_has_13 : decode cX1_has 13 = .ok (.goto 4, 3) := by decide +kernel
theorem dX1_has_16 : decode cX1_has 16 = .ok (.iconst 0, 1) := by decide +kernel
theorem dX1_has_17 : decode cX1_has 17 = .ok (.ireturn, 1) := by decide +kernel
theorem dX1_mayDo_0 : decode cX1_mayDo 0 = .ok (.iload_n 1, 1) := by decide +kernel
theorem dX1_mayDo_1 : decode cX1_mayDo 1 = .ok (.bipush 6, 2) := by decide +kernel
theorem dX1_mayDo_3 : decode cX1_mayDo 3 = .ok (.if_icmp .ne 9, 3) := by decide +kernel
theorem dX1_mayDo_6 : decode cX1_mayDo 6 = .ok (.aload_n 0, 1) := by decide +kernel
theorem dX1_mayDo_7 : decode cX1_mayDo 7 = .ok (.invokevirtual 105, 3) := by decide +kernel
theorem dX1_mayDo_10 : decode cX1_mayDo 10 = .ok (.iconst 1, 1) := by decide +kernel
theorem dX1_mayDo_11 : decode cX1_mayDo 11 = .ok (.ireturn, 1) := by decide +kernel
theorem dX1_mayDo_12 : decode cX1_mayDo 12 = .ok (.aload_n 0, 1) := by decide +kernel
theorem dX1_mayDo_13 : decode cX1_mayDo 13 = .ok (.iload_n 2, 1) := by decide +kernel
theorem dX1_mayDo_14 : decode cX1_mayDo 14 = .ok (.invokevirtual 113, 3) := by decide +kernel
theorem dX1_mayDo_17 : decode cX1_mayDo 17 = .ok (.ifCond .ne 5, 3) := by decide +kernel
theorem dX1_mayDo_20 : decode cX1_mayDo 20 = .ok (.iconst 0, 1) := by decide +kernel
theorem dX1_mayDo_21 : decode cX1_mayDo 21 = .ok (.ireturn, 1) := by decide +kernel
theorem dX1_mayDo_22 : decode cX1_mayDo 22 = .ok (.iload_n 1, 1) := by decide +kernel
theorem dX1_mayDo_23 : decode cX1_mayDo 23 = .ok (.iconst 4, 1) := by decide +kernel
theorem dX1_mayDo_24 : decode cX1_mayDo 24 = .ok (.if_icmp .ne 17, 3) := by decide +kernel
theorem dX1_mayDo_27 : decode cX1_mayDo 27 = .ok (.aload_n 0, 1) := by decide +kernel
theorem dX1_mayDo_28 : decode cX1_mayDo 28 = .ok (.dup, 1) := by decide +kernel
theorem dX1_mayDo_29 : decode cX1_mayDo 29 = .ok (.getfield 34, 3) := by decide +kernel
theorem dX1_mayDo_32 : decode cX1_mayDo 32 = .ok (.iconst 1, 1) := by decide +kernel
theorem dX1_mayDo_33 : decode cX1_mayDo 33 = .ok (.iload_n 2, 1) := by decide +kernel
theorem dX1_mayDo_34 : decode cX1_mayDo 34 = .ok (.ishl, 1) := by decide +kernel
theorem dX1_mayDo_35 : decode cX1_mayDo 35 = .ok (.ior, 1) := by decide +kernel
theorem dX1_mayDo_36 : decode cX1_mayDo 36 = .ok (.putfield 34, 3) := by decide +kernel
theorem dX1_mayDo_39 : decode cX1_mayDo 39 = .ok (.iconst 1, 1) := by decide +kernel
theorem dX1_mayDo_40 : decode cX1_mayDo 40 = .ok (.ireturn, 1) := by decide +kernel
theorem dX1_mayDo_41 : decode cX1_mayDo 41 = .ok (.iload_n 1, 1) := by decide +kernel
theorem dX1_mayDo_42 : decode cX1_mayDo 42 = .ok (.iconst 5, 1) := by decide +kernel
theorem dX1_mayDo_43 : decode cX1_mayDo 43 = .ok (.if_icmp .ne 19, 3) := by decide +kernel
theorem dX1_mayDo_46 : decode cX1_mayDo 46 = .ok (.aload_n 0, 1) := by decide +kernel
theorem dX1_mayDo_47 : decode cX1_mayDo 47 = .ok (.dup, 1) := by decide +kernel
theorem dX1_mayDo_48 : decode cX1_mayDo 48 = .ok (.getfield 34, 3) := by decide +kernel
theorem dX1_mayDo_51 : decode cX1_mayDo 51 = .ok (.iconst 1, 1) := by decide +kernel
theorem dX1_mayDo_52 : decode cX1_mayDo 52 = .ok (.iload_n 2, 1) := by decide +kernel
theorem dX1_mayDo_53 : decode cX1_mayDo 53 = .ok (.ishl, 1) := by decide +kernel
theorem dX1_mayDo_54 : decode cX1_mayDo 54 = .ok (.iconst (-1), 1) := by decide +kernel
theorem dX1_mayDo_55 : decode cX1_mayDo 55 = .ok (.ixor, 1) := by decide +kernel
theorem dX1_mayDo_56 : decode cX1_mayDo 56 = .ok (.iand, 1) := by decide +kernel
theorem dX1_mayDo_57 : decode cX1_mayDo 57 = .ok (.putfield 34, 3) := by decide +kernel
theorem dX1_mayDo_60 : decode cX1_mayDo 60 = .ok (.iconst 1, 1) := by decide +kernel
theorem dX1_mayDo_61 : decode cX1_mayDo 61 = .ok (.ireturn, 1) := by decide +kernel
theorem dX1_mayDo_62 : decode cX1_mayDo 62 = .ok (.aload_n 0, 1) := by decide +kernel
theorem dX1_mayDo_63 : decode cX1_mayDo 63 = .ok (.iload_n 3, 1) := by decide +kernel
theorem dX1_mayDo_64 : decode cX1_mayDo 64 = .ok (.invokevirtual 113, 3) := by decide +kernel
theorem dX1_mayDo_67 : decode cX1_mayDo 67 = .ok (.ifCond .ne 5, 3) := by decide +kernel
theorem dX1_mayDo_70 : decode cX1_mayDo 70 = .ok (.iconst 0, 1) := by decide +kernel
theorem dX1_mayDo_71 : decode cX1_mayDo 71 = .ok (.ireturn, 1) := by decide +kernel
theorem dX1_mayDo_72 : decode cX1_mayDo 72 = .ok (.iload_n 1, 1) := by decide +kernel
theorem dX1_mayDo_73 : decode cX1_mayDo 73 = .ok (.ifCond .ne 10, 3) := by decide +kernel
theorem dX1_mayDo_76 : decode cX1_mayDo 76 = .ok (.aload_n 0, 1) := by decide +kernel
theorem dX1_mayDo_77 : decode cX1_mayDo 77 = .ok (.iload_n 2, 1) := by decide +kernel
theorem dX1_mayDo_78 : decode cX1_mayDo 78 = .ok (.iload_n 3, 1) := by decide +kernel
theorem dX1_mayDo_79 : decode cX1_mayDo 79 = .ok (.invokevirtual 117, 3) := by decide +kernel
theorem dX1_mayDo_82 : decode cX1_mayDo 82 = .ok (.ireturn, 1) := by decide +kernel
theorem dX1_mayDo_83 : decode cX1_mayDo 83 = .ok (.iload_n 1, 1) := by decide +kernel
theorem dX1_mayDo_84 : decode cX1_mayDo 84 = .ok (.iconst 3, 1) := by decide +kernel
theorem dX1_mayDo_85 : decode cX1_mayDo 85 = .ok (.if_icmp .ne 12, 3) := by decide +kernel
theorem dX1_mayDo_88 : decode cX1_mayDo 88 = .ok (.aload_n 0, 1) := by decide +kernel
theorem dX1_mayDo_89 : decode cX1_mayDo 89 = .ok (.iload_n 2, 1) := by decide +kernel
theorem dX1_mayDo_90 : decode cX1_mayDo 90 = .ok (.iload_n 3, 1) := by decide +kernel
theorem dX1_mayDo_91 : decode cX1_mayDo 91 = .ok (.iload 4, 2) := by decide +kernel
theorem dX1_mayDo_93 : decode cX1_mayDo 93 = .ok (.invokevirtual 121, 3) := by decide +kernel
theorem dX1_mayDo_96 : decode cX1_mayDo 96 = .ok (.ireturn, 1) := by decide +kernel
theorem dX1_mayDo_97 : decode cX1_mayDo 97 = .ok (.iload_n 1, 1) := by decide +kernel
theorem dX1_mayDo_98 : decode cX1_mayDo 98 = .ok (.iconst 1, 1) := by decide +kernel
theorem dX1_mayDo_99 : decode cX1_mayDo 99 = .ok (.if_icmp .ne 14, 3) := by decide +kernel
theorem dX1_mayDo_102 : decode cX1_mayDo 102 = .ok (.aload_n 0, 1) := by decide +kernel
theorem dX1_mayDo_103 : decode cX1_mayDo 103 = .ok (.iload_n 2, 1) := by decide +kernel
theorem dX1_mayDo_104 : decode cX1_mayDo 104 = .ok (.iload_n 3, 1) := by decide +kernel
theorem dX1_mayDo_105 : decode cX1_mayDo 105 = .ok (.iload 4, 2) := by decide +kernel
theorem dX1_mayDo_107 : decode cX1_mayDo 107 = .ok (.invokevirtual 125, 3) := by decide +kernel
theorem dX1_mayDo_110 : decode cX1_mayDo 110 = .ok (.goto 11, 3) := by decide +kernel
theorem dX1_mayDo_113 : decode cX1_mayDo 113 = .ok (.aload_n 0, 1) := by decide +kernel
theorem dX1_mayDo_114 : decode cX1_mayDo 114 = .ok (.iload_n 2, 1) := by decide +kernel
theorem dX1_mayDo_115 : decode cX1_mayDo 115 = .ok (.iload_n 3, 1) := by decide +kernel
theorem dX1_mayDo_116 : decode cX1_mayDo 116 = .ok (.iload 4, 2) := by decide +kernel
theorem dX1_mayDo_118 : decode cX1_mayDo 118 = .ok (.invokevirtual 128, 3) := by decide +kernel
theorem dX1_mayDo_121 : decode cX1_mayDo 121 = .ok (.ireturn, 1) := by decide +kernel
theorem dX1_maySit_0 : decode cX1_maySit 0 = .ok (.bipush 6, 2) := by decide +kernel
theorem dX1_maySit_2 : decode cX1_maySit 2 = .ok (.iload_n 2, 1) := by decide +kernel
theorem dX1_maySit_3 : decode cX1_maySit 3 = .ok (.imul, 1) := by decide +kernel
theorem dX1_maySit_4 : decode cX1_maySit 4 = .ok (.iload_n 1, 1) := by decide +kernel
theorem dX1_maySit_5 : decode cX1_maySit 5 = .ok (.iadd, 1) := by decide +kernel
theorem dX1_maySit_6 : decode cX1_maySit 6 = .ok (.istore_n 3, 1) := by decide +kernel
theorem dX1_maySit_7 : decode cX1_maySit 7 = .ok (.aload_n 0, 1) := by decide +kernel
theorem dX1_maySit_8 : decode cX1_maySit 8 = .ok (.getfield 22, 3) := by decide +kernel
theorem dX1_maySit_11 : decode cX1_maySit 11 = .ok (.iload_n 3, 1) := by decide +kernel
theorem dX1_maySit_12 : decode cX1_maySit 12 = .ok (.iaload, 1) := by decide +kernel
theorem dX1_maySit_13 : decode cX1_maySit 13 = .ok (.iconst 1, 1) := by decide +kernel
theorem dX1_maySit_14 : decode cX1_maySit 14 = .ok (.if_icmp .lt 14, 3) := by decide +kernel
theorem dX1_maySit_17 : decode cX1_maySit 17 = .ok (.aload_n 0, 1) := by decide +kernel
theorem dX1_maySit_18 : decode cX1_maySit 18 = .ok (.getfield 25, 3) := by decide +kernel
theorem dX1_maySit_21 : decode cX1_maySit 21 = .ok (.iload_n 1, 1) := by decide +kernel
theorem dX1_maySit_22 : decode cX1_maySit 22 = .ok (.iaload, 1) := by decide +kernel
theorem dX1_maySit_23 : decode cX1_maySit 23 = .ok (.bipush 6, 2) := by decide +kernel
theorem dX1_maySit_25 : decode cX1_maySit 25 = .ok (.if_icmp .eq 5, 3) := by decide +kernel
theorem dX1_maySit_28 : decode cX1_maySit 28 = .ok (.iconst 0, 1) := by decide +kernel
theorem dX1_maySit_29 : decode cX1_maySit 29 = .ok (.ireturn, 1) := by decide +kernel
theorem dX1_maySit_30 : decode cX1_maySit 30 = .ok (.iconst 0, 1) := by decide +kernel
theorem dX1_maySit_31 : decode cX1_maySit 31 = .ok (.istore 4, 2) := by decide +kernel
theorem dX1_maySit_33 : decode cX1_maySit 33 = .ok (.iload 4, 2) := by decide +kernel
theorem dX1_maySit_35 : decode cX1_maySit 35 = .ok (.aload_n 0, 1) := by decide +kernel
theorem dX1_maySit_36 : decode cX1_maySit 36 = .ok (.getfield 9, 3) := by decide +kernel
theorem dX1_maySit_39 : decode cX1_maySit 39 = .ok (.if_icmp .ge 36, 3) := by decide +kernel
theorem dX1_maySit_42 : decode cX1_maySit 42 = .ok (.aload_n 0, 1) := by decide +kernel
theorem dX1_maySit_43 : decode cX1_maySit 43 = .ok (.getfield 25, 3) := by decide +kernel
theorem dX1_maySit_46 : decode cX1_maySit 46 = .ok (.iload 4, 2) := by decide +kernel
theorem dX1_maySit_48 : decode cX1_maySit 48 = .ok (.iaload, 1) := by decide +kernel
theorem dX1_maySit_49 : decode cX1_maySit 49 = .ok (.iload_n 2, 1) := by decide +kernel
theorem dX1_maySit_50 : decode cX1_maySit 50 = .ok (.if_icmp .ne 19, 3) := by decide +kernel
theorem dX1_maySit_53 : decode cX1_maySit 53 = .ok (.aload_n 0, 1) := by decide +kernel
theorem dX1_maySit_54 : decode cX1_maySit 54 = .ok (.getfield 15, 3) := by decide +kernel
theorem dX1_maySit_57 : decode cX1_maySit 57 = .ok (.iload_n 1, 1) := by decide +kernel
theorem dX1_maySit_58 : decode cX1_maySit 58 = .ok (.iaload, 1) := by decide +kernel
theorem dX1_maySit_59 : decode cX1_maySit 59 = .ok (.iload 4, 2) := by decide +kernel
theorem dX1_maySit_61 : decode cX1_maySit 61 = .ok (.ishr, 1) := by decide +kernel
theorem dX1_maySit_62 : decode cX1_maySit 62 = .ok (.iconst 1, 1) := by decide +kernel
theorem dX1_maySit_63 : decode cX1_maySit 63 = .ok (.iand, 1) := by decide +kernel
theorem dX1_maySit_64 : decode cX1_maySit 64 = .ok (.ifCond .eq 5, 3) := by decide +kernel
theorem dX1_maySit_67 : decode cX1_maySit 67 = .ok (.iconst 0, 1) := by decide +kernel
theorem dX1_maySit_68 : decode cX1_maySit 68 = .ok (.ireturn, 1) := by decide +kernel
theorem dX1_maySit_69 : decode cX1_maySit 69 = .ok (.iinc 4 1, 3) := by decide +kernel
theorem dX1_maySit_72 : decode cX1_maySit 72 = .ok (.goto (-39), 3) := by decide +kernel
theorem dX1_maySit_75 : decode cX1_maySit 75 = .ok (.aload_n 0, 1) := by decide +kernel
theorem dX1_maySit_76 : decode cX1_maySit 76 = .ok (.getfield 25, 3) := by decide +kernel
theorem dX1_maySit_79 : decode cX1_maySit 79 = .ok (.iload_n 1, 1) := by decide +kernel
theorem dX1_maySit_80 : decode cX1_maySit 80 = .ok (.iload_n 2, 1) := by decide +kernel
theorem dX1_maySit_81 : decode cX1_maySit 81 = .ok (.iastore, 1) := by decide +kernel
theorem dX1_maySit_82 : decode cX1_maySit 82 = .ok (.aload_n 0, 1) := by decide +kernel
theorem dX1_maySit_83 : decode cX1_maySit 83 = .ok (.getfield 46, 3) := by decide +kernel
theorem dX1_maySit_86 : decode cX1_maySit 86 = .ok (.iconst (-1), 1) := by decide +kernel
theorem dX1_maySit_87 : decode cX1_maySit 87 = .ok (.if_icmp .ne 11, 3) := by decide +kernel
theorem dX1_maySit_90 : decode cX1_maySit 90 = .ok (.aload_n 0, 1) := by decide +kernel
theorem dX1_maySit_91 : decode cX1_maySit 91 = .ok (.aload_n 0, 1) := by decide +kernel
theorem dX1_maySit_92 : decode cX1_maySit 92 = .ok (.getfield 43, 3) := by decide +kernel
theorem dX1_maySit_95 : decode cX1_maySit 95 = .ok (.putfield 46, 3) := by decide +kernel
theorem dX1_maySit_98 : decode cX1_maySit 98 = .ok (.aload_n 0, 1) := by decide +kernel
theorem dX1_maySit_99 : decode cX1_maySit 99 = .ok (.dup, 1) := by decide +kernel
theorem dX1_maySit_100 : decode cX1_maySit 100 = .ok (.getfield 40, 3) := by decide +kernel
theorem dX1_maySit_103 : decode cX1_maySit 103 = .ok (.iconst 1, 1) := by decide +kernel
theorem dX1_maySit_104 : decode cX1_maySit 104 = .ok (.iadd, 1) := by decide +kernel
theorem dX1_maySit_105 : decode cX1_maySit 105 = .ok (.putfield 40, 3) := by decide +kernel
theorem dX1_maySit_108 : decode cX1_maySit 108 = .ok (.aload_n 0, 1) := by decide +kernel
theorem dX1_maySit_109 : decode cX1_maySit 109 = .ok (.getfield 28, 3) := by decide +kernel
theorem dX1_maySit_112 : decode cX1_maySit 112 = .ok (.iload_n 1, 1) := by decide +kernel
theorem dX1_maySit_113 : decode cX1_maySit 113 = .ok (.dup2, 1) := by decide +kernel
theorem dX1_maySit_114 : decode cX1_maySit 114 = .ok (.iaload, 1) := by decide +kernel
theorem dX1_maySit_115 : decode cX1_maySit 115 = .ok (.iconst 1, 1) := by decide +kernel
theorem dX1_maySit_116 : decode cX1_maySit 116 = .ok (.iadd, 1) := by decide +kernel
theorem dX1_maySit_117 : decode cX1_maySit 117 = .ok (.iastore, 1) := by decide +kernel
theorem dX1_maySit_118 : decode cX1_maySit 118 = .ok (.aload_n 0, 1) := by decide +kernel
theorem dX1_maySit_119 : decode cX1_maySit 119 = .ok (.getfield 31, 3) := by decide +kernel
theorem dX1_maySit_122 : decode cX1_maySit 122 = .ok (.iload_n 2, 1) := by decide +kernel
theorem dX1_maySit_123 : decode cX1_maySit 123 = .ok (.dup2, 1) := by decide +kernel
theorem dX1_maySit_124 : decode cX1_maySit 124 = .ok (.iaload, 1) := by decide +kernel
theorem dX1_maySit_125 : decode cX1_maySit 125 = .ok (.iconst 1, 1) := by decide +kernel
theorem dX1_maySit_126 : decode cX1_maySit 126 = .ok (.iadd, 1) := by decide +kernel
theorem dX1_maySit_127 : decode cX1_maySit 127 = .ok (.iastore, 1) := by decide +kernel
theorem dX1_maySit_128 : decode cX1_maySit 128 = .ok (.aload_n 0, 1) := by decide +kernel
theorem dX1_maySit_129 : decode cX1_maySit 129 = .ok (.getfield 34, 3) := by decide +kernel
theorem dX1_maySit_132 : decode cX1_maySit 132 = .ok (.iload_n 2, 1) := by decide +kernel
theorem dX1_maySit_133 : decode cX1_maySit 133 = .ok (.ishr, 1) := by decide +kernel
theorem dX1_maySit_134 : decode cX1_maySit 134 = .ok (.iconst 1, 1) := by decide +kernel
theorem dX1_maySit_135 : decode cX1_maySit 135 = .ok (.iand, 1) := by decide +kernel
theorem dX1_maySit_136 : decode cX1_maySit 136 = .ok (.ifCond .eq 16, 3) := by decide +kernel
theorem dX1_maySit_139 : decode cX1_maySit 139 = .ok (.aload_n 0, 1) := by decide +kernel
theorem dX1_maySit_140 : decode cX1_maySit 140 = .ok (.dup, 1) := by decide +kernel
theorem dX1_maySit_141 : decode cX1_maySit 141 = .ok (.getfield 49, 3) := by decide +kernel
theorem dX1_maySit_144 : decode cX1_maySit 144 = .ok (.iconst 1, 1) := by decide +kernel
theorem dX1_maySit_145 : decode cX1_maySit 145 = .ok (.iadd, 1) := by decide +kernel
theorem dX1_maySit_146 : decode cX1_maySit 146 = .ok (.putfield 49, 3) := by decide +kernel
theorem dX1_maySit_149 : decode cX1_maySit 149 = .ok (.goto 13, 3) := by decide +kernel
theorem dX1_maySit_152 : decode cX1_maySit 152 = .ok (.aload_n 0, 1) := by decide +kernel
theorem dX1_maySit_153 : decode cX1_maySit 153 = .ok (.getfield 22, 3) := by decide +kernel
theorem dX1_maySit_156 : decode cX1_maySit 156 = .ok (.iload_n 3, 1) := by decide +kernel
theorem dX1_maySit_157 : decode cX1_maySit 157 = .ok (.dup2, 1) := by decide +kernel
theorem dX1_maySit_158 : decode cX1_maySit 158 = .ok (.iaload, 1) := by decide +kernel
theorem dX1_maySit_159 : decode cX1_maySit 159 = .ok (.iconst 1, 1) := by decide +kernel
theorem dX1_maySit_160 : decode cX1_maySit 160 = .ok (.isub, 1) := by decide +kernel
theorem dX1_maySit_161 : decode cX1_maySit 161 = .ok (.iastore, 1) := by decide +kernel
theorem dX1_maySit_162 : decode cX1_maySit 162 = .ok (.iconst 1, 1) := by decide +kernel
theorem dX1_maySit_163 : decode cX1_maySit 163 = .ok (.ireturn, 1) := by decide +kernel
theorem dX1_mayLend_0 : decode cX1_mayLend 0 = .ok (.bipush 6, 2) := by decide +kernel
theorem dX1_mayLend_2 : decode cX1_mayLend 2 = .ok (.iload_n 2, 1) := by decide +kernel
theorem dX1_mayLend_3 : decode cX1_mayLend 3 = .ok (.imul, 1) := by decide +kernel
theorem dX1_mayLend_4 : decode cX1_mayLend 4 = .ok (.iload_n 1, 1) := by decide +kernel
theorem dX1_mayLend_5 : decode cX1_mayLend 5 = .ok (.iadd, 1) := by decide +kernel
theorem dX1_mayLend_6 : decode cX1_mayLend 6 = .ok (.istore 4, 2) := by decide +kernel
theorem dX1_mayLend_8 : decode cX1_mayLend 8 = .ok (.aload_n 0, 1) := by decide +kernel
theorem dX1_mayLend_9 : decode cX1_mayLend 9 = .ok (.getfield 19, 3) := by decide +kernel
theorem dX1_mayLend_12 : decode cX1_mayLend 12 = .ok (.iload_n 1, 1) := by decide +kernel
theorem dX1_mayLend_13 : decode cX1_mayLend 13 = .ok (.iaload, 1) := by decide +kernel
theorem dX1_mayLend_14 : decode cX1_mayLend 14 = .ok (.iload_n 3, 1) := by decide +kernel
theorem dX1_mayLend_15 : decode cX1_mayLend 15 = .ok (.if_icmp .lt 30, 3) := by decide +kernel
theorem dX1_mayLend_18 : decode cX1_mayLend 18 = .ok (.aload_n 0, 1) := by decide +kernel
theorem dX1_mayLend_19 : decode cX1_mayLend 19 = .ok (.getfield 19, 3) := by decide +kernel
theorem dX1_mayLend_22 : decode cX1_mayLend 22 = .ok (.iload_n 2, 1) := by decide +kernel
theorem dX1_mayLend_23 : decode cX1_mayLend 23 = .ok (.iaload, 1) := by decide +kernel
theorem dX1_mayLend_24 : decode cX1_mayLend 24 = .ok (.iload_n 3, 1) := by decide +kernel
theorem dX1_mayLend_25 : decode cX1_mayLend 25 = .ok (.iadd, 1) := by decide +kernel
theorem dX1_mayLend_26 : decode cX1_mayLend 26 = .ok (.bipush 99, 2) := by decide +kernel
theorem dX1_mayLend_28 : decode cX1_mayLend 28 = .ok (.if_icmp .gt 17, 3) := by decide +kernel
theorem dX1_mayLend_31 : decode cX1_mayLend 31 = .ok (.aload_n 0, 1) := by decide +kernel
theorem dX1_mayLend_32 : decode cX1_mayLend 32 = .ok (.getfield 22, 3) := by decide +kernel
theorem dX1_mayLend_35 : decode cX1_mayLend 35 = .ok (.iload 4, 2) := by decide +kernel
theorem dX1_mayLend_37 : decode cX1_mayLend 37 = .ok (.iaload, 1) := by decide +kernel
theorem dX1_mayLend_38 : decode cX1_mayLend 38 = .ok (.iload_n 3, 1) := by decide +kernel
theorem dX1_mayLend_39 : decode cX1_mayLend 39 = .ok (.iadd, 1) := by decide +kernel
theorem dX1_mayLend_40 : decode cX1_mayLend 40 = .ok (.bipush 99, 2) := by decide +kernel
theorem dX1_mayLend_42 : decode cX1_mayLend 42 = .ok (.if_icmp .le 5, 3) := by decide +kernel
theorem dX1_mayLend_45 : decode cX1_mayLend 45 = .ok (.iconst 0, 1) := by decide +kernel
theorem dX1_mayLend_46 : decode cX1_mayLend 46 = .ok (.ireturn, 1) := by decide +kernel
theorem dX1_mayLend_47 : decode cX1_mayLend 47 = .ok (.aload_n 0, 1) := by decide +kernel
theorem dX1_mayLend_48 : decode cX1_mayLend 48 = .ok (.getfield 19, 3) := by decide +kernel
theorem dX1_mayLend_51 : decode cX1_mayLend 51 = .ok (.iload_n 1, 1) := by decide +kernel
theorem dX1_mayLend_52 : decode cX1_mayLend 52 = .ok (.dup2, 1) := by decide +kernel
theorem dX1_mayLend_53 : decode cX1_mayLend 53 = .ok (.iaload, 1) := by decide +kernel
theorem dX1_mayLend_54 : decode cX1_mayLend 54 = .ok (.iload_n 3, 1) := by decide +kernel
theorem dX1_mayLend_55 : decode cX1_mayLend 55 = .ok (.isub, 1) := by decide +kernel
theorem dX1_mayLend_56 : decode cX1_mayLend 56 = .ok (.iastore, 1) := by decide +kernel
theorem dX1_mayLend_57 : decode cX1_mayLend 57 = .ok (.aload_n 0, 1) := by decide +kernel
theorem dX1_mayLend_58 : decode cX1_mayLend 58 = .ok (.getfield 19, 3) := by decide +kernel
theorem dX1_mayLend_61 : decode cX1_mayLend 61 = .ok (.iload_n 2, 1) := by decide +kernel
theorem dX1_mayLend_62 : decode cX1_mayLend 62 = .ok (.dup2, 1) := by decide +kernel
theorem dX1_mayLend_63 : decode cX1_mayLend 63 = .ok (.iaload, 1) := by decide +kernel
theorem dX1_mayLend_64 : decode cX1_mayLend 64 = .ok (.iload_n 3, 1) := by decide +kernel
theorem dX1_mayLend_65 : decode cX1_mayLend 65 = .ok (.iadd, 1) := by decide +kernel
theorem dX1_mayLend_66 : decode cX1_mayLend 66 = .ok (.iastore, 1) := by decide +kernel
theorem dX1_mayLend_67 : decode cX1_mayLend 67 = .ok (.aload_n 0, 1) := by decide +kernel
theorem dX1_mayLend_68 : decode cX1_mayLend 68 = .ok (.getfield 22, 3) := by decide +kernel
theorem dX1_mayLend_71 : decode cX1_mayLend 71 = .ok (.iload 4, 2) := by decide +kernel
theorem dX1_mayLend_73 : decode cX1_mayLend 73 = .ok (.dup2, 1) := by decide +kernel
theorem dX1_mayLend_74 : decode cX1_mayLend 74 = .ok (.iaload, 1) := by decide +kernel
theorem dX1_mayLend_75 : decode cX1_mayLend 75 = .ok (.iload_n 3, 1) := by decide +kernel
theorem dX1_mayLend_76 : decode cX1_mayLend 76 = .ok (.iadd, 1) := by decide +kernel
theorem dX1_mayLend_77 : decode cX1_mayLend 77 = .ok (.iastore, 1) := by decide +kernel
theorem dX1_mayLend_78 : decode cX1_mayLend 78 = .ok (.aload_n 0, 1) := by decide +kernel
theorem dX1_mayLend_79 : decode cX1_mayLend 79 = .ok (.dup, 1) := by decide +kernel
theorem dX1_mayLend_80 : decode cX1_mayLend 80 = .ok (.getfield 52, 3) := by decide +kernel
theorem dX1_mayLend_83 : decode cX1_mayLend 83 = .ok (.iload_n 3, 1) := by decide +kernel
theorem dX1_mayLend_84 : decode cX1_mayLend 84 = .ok (.iadd, 1) := by decide +kernel
theorem dX1_mayLend_85 : decode cX1_mayLend 85 = .ok (.putfield 52, 3) := by decide +kernel
theorem dX1_mayLend_88 : decode cX1_mayLend 88 = .ok (.iconst 1, 1) := by decide +kernel
theorem dX1_mayLend_89 : decode cX1_mayLend 89 = .ok (.ireturn, 1) := by decide +kernel
theorem dX1_mayPay_0 : decode cX1_mayPay 0 = .ok (.bipush 6, 2) := by decide +kernel
theorem dX1_mayPay_2 : decode cX1_mayPay 2 = .ok (.iload_n 1, 1) := by decide +kernel
theorem dX1_mayPay_3 : decode cX1_mayPay 3 = .ok (.imul, 1) := by decide +kernel
theorem dX1_mayPay_4 : decode cX1_mayPay 4 = .ok (.iload_n 2, 1) := by decide +kernel
theorem dX1_mayPay_5 : decode cX1_mayPay 5 = .ok (.iadd, 1) := by decide +kernel
theorem dX1_mayPay_6 : decode cX1_mayPay 6 = .ok (.istore 4, 2) := by decide +kernel
theorem dX1_mayPay_8 : decode cX1_mayPay 8 = .ok (.aload_n 0, 1) := by decide +kernel
theorem dX1_mayPay_9 : decode cX1_mayPay 9 = .ok (.getfield 22, 3) := by decide +kernel
theorem dX1_mayPay_12 : decode cX1_mayPay 12 = .ok (.iload 4, 2) := by decide +kernel
theorem dX1_mayPay_14 : decode cX1_mayPay 14 = .ok (.iaload, 1) := by decide +kernel
theorem dX1_mayPay_15 : decode cX1_mayPay 15 = .ok (.iload_n 3, 1) := by decide +kernel
theorem dX1_mayPay_16 : decode cX1_mayPay 16 = .ok (.if_icmp .lt 26, 3) := by decide +kernel
theorem dX1_mayPay_19 : decode cX1_mayPay 19 = .ok (.aload_n 0, 1) := by decide +kernel
theorem dX1_mayPay_20 : decode cX1_mayPay 20 = .ok (.getfield 19, 3) := by decide +kernel
theorem dX1_mayPay_23 : decode cX1_mayPay 23 = .ok (.iload_n 1, 1) := by decide +kernel
theorem dX1_mayPay_24 : decode cX1_mayPay 24 = .ok (.iaload, 1) := by decide +kernel
theorem dX1_mayPay_25 : decode cX1_mayPay 25 = .ok (.iload_n 3, 1) := by decide +kernel
theorem dX1_mayPay_26 : decode cX1_mayPay 26 = .ok (.if_icmp .lt 16, 3) := by decide +kernel
theorem dX1_mayPay_29 : decode cX1_mayPay 29 = .ok (.aload_n 0, 1) := by decide +kernel
theorem dX1_mayPay_30 : decode cX1_mayPay 30 = .ok (.getfield 19, 3) := by decide +kernel
theorem dX1_mayPay_33 : decode cX1_mayPay 33 = .ok (.iload_n 2, 1) := by decide +kernel
theorem dX1_mayPay_34 : decode cX1_mayPay 34 = .ok (.iaload, 1) := by decide +kernel
theorem dX1_mayPay_35 : decode cX1_mayPay 35 = .ok (.iload_n 3, 1) := by decide +kernel
theorem dX1_mayPay_36 : decode cX1_mayPay 36 = .ok (.iadd, 1) := by decide +kernel
theorem dX1_mayPay_37 : decode cX1_mayPay 37 = .ok (.bipush 99, 2) := by decide +kernel
theorem dX1_mayPay_39 : decode cX1_mayPay 39 = .ok (.if_icmp .le 5, 3) := by decide +kernel
theorem dX1_mayPay_42 : decode cX1_mayPay 42 = .ok (.iconst 0, 1) := by decide +kernel
theorem dX1_mayPay_43 : decode cX1_mayPay 43 = .ok (.ireturn, 1) := by decide +kernel
theorem dX1_mayPay_44 : decode cX1_mayPay 44 = .ok (.aload_n 0, 1) := by decide +kernel
theorem dX1_mayPay_45 : decode cX1_mayPay 45 = .ok (.getfield 19, 3) := by decide +kernel
theorem dX1_mayPay_48 : decode cX1_mayPay 48 = .ok (.iload_n 1, 1) := by decide +kernel
theorem dX1_mayPay_49 : decode cX1_mayPay 49 = .ok (.dup2, 1) := by decide +kernel
theorem dX1_mayPay_50 : decode cX1_mayPay 50 = .ok (.iaload, 1) := by decide +kernel
theorem dX1_mayPay_51 : decode cX1_mayPay 51 = .ok (.iload_n 3, 1) := by decide +kernel
theorem dX1_mayPay_52 : decode cX1_mayPay 52 = .ok (.isub, 1) := by decide +kernel
theorem dX1_mayPay_53 : decode cX1_mayPay 53 = .ok (.iastore, 1) := by decide +kernel
theorem dX1_mayPay_54 : decode cX1_mayPay 54 = .ok (.aload_n 0, 1) := by decide +kernel
theorem dX1_mayPay_55 : decode cX1_mayPay 55 = .ok (.getfield 19, 3) := by decide +kernel
theorem dX1_mayPay_58 : decode cX1_mayPay 58 = .ok (.iload_n 2, 1) := by decide +kernel
theorem dX1_mayPay_59 : decode cX1_mayPay 59 = .ok (.dup2, 1) := by decide +kernel
theorem dX1_mayPay_60 : decode cX1_mayPay 60 = .ok (.iaload, 1) := by decide +kernel
theorem dX1_mayPay_61 : decode cX1_mayPay 61 = .ok (.iload_n 3, 1) := by decide +kernel
theorem dX1_mayPay_62 : decode cX1_mayPay 62 = .ok (.iadd, 1) := by decide +kernel
theorem dX1_mayPay_63 : decode cX1_mayPay 63 = .ok (.iastore, 1) := by decide +kernel
theorem dX1_mayPay_64 : decode cX1_mayPay 64 = .ok (.aload_n 0, 1) := by decide +kernel
theorem dX1_mayPay_65 : decode cX1_mayPay 65 = .ok (.getfield 22, 3) := by decide +kernel
theorem dX1_mayPay_68 : decode cX1_mayPay 68 = .ok (.iload 4, 2) := by decide +kernel
theorem dX1_mayPay_70 : decode cX1_mayPay 70 = .ok (.dup2, 1) := by decide +kernel
theorem dX1_mayPay_71 : decode cX1_mayPay 71 = .ok (.iaload, 1) := by decide +kernel
theorem dX1_mayPay_72 : decode cX1_mayPay 72 = .ok (.iload_n 3, 1) := by decide +kernel
theorem dX1_mayPay_73 : decode cX1_mayPay 73 = .ok (.isub, 1) := by decide +kernel
theorem dX1_mayPay_74 : decode cX1_mayPay 74 = .ok (.iastore, 1) := by decide +kernel
theorem dX1_mayPay_75 : decode cX1_mayPay 75 = .ok (.iconst 1, 1) := by decide +kernel
theorem dX1_mayPay_76 : decode cX1_mayPay 76 = .ok (.ireturn, 1) := by decide +kernel
theorem dX1_mayForgive_0 : decode cX1_mayForgive 0 = .ok (.bipush 6, 2) := by decide +kernel
theorem dX1_mayForgive_2 : decode cX1_mayForgive 2 = .ok (.iload_n 2, 1) := by decide +kernel
theorem dX1_mayForgive_3 : decode cX1_mayForgive 3 = .ok (.imul, 1) := by decide +kernel
theorem dX1_mayForgive_4 : decode cX1_mayForgive 4 = .ok (.iload_n 1, 1) := by decide +kernel
theorem dX1_mayForgive_5 : decode cX1_mayForgive 5 = .ok (.iadd, 1) := by decide +kernel
theorem dX1_mayForgive_6 : decode cX1_mayForgive 6 = .ok (.istore 4, 2) := by decide +kernel
theorem dX1_mayForgive_8 : decode cX1_mayForgive 8 = .ok (.aload_n 0, 1) := by decide +kernel
theorem dX1_mayForgive_9 : decode cX1_mayForgive 9 = .ok (.getfield 22, 3) := by decide +kernel
theorem dX1_mayForgive_12 : decode cX1_mayForgive 12 = .ok (.iload 4, 2) := by decide +kernel
theorem dX1_mayForgive_14 : decode cX1_mayForgive 14 = .ok (.iaload, 1) := by decide +kernel
theorem dX1_mayForgive_15 : decode cX1_mayForgive 15 = .ok (.iload_n 3, 1) := by decide +kernel
theorem dX1_mayForgive_16 : decode cX1_mayForgive 16 = .ok (.if_icmp .ge 5, 3) := by decide +kernel
theorem dX1_mayForgive_19 : decode cX1_mayForgive 19 = .ok (.iconst 0, 1) := by decide +kernel
theorem dX1_mayForgive_20 : decode cX1_mayForgive 20 = .ok (.ireturn, 1) := by decide +kernel
theorem dX1_mayForgive_21 : decode cX1_mayForgive 21 = .ok (.aload_n 0, 1) := by decide +kernel
theorem dX1_mayForgive_22 : decode cX1_mayForgive 22 = .ok (.getfield 22, 3) := by decide +kernel
theorem dX1_mayForgive_25 : decode cX1_mayForgive 25 = .ok (.iload 4, 2) := by decide +kernel
theorem dX1_mayForgive_27 : decode cX1_mayForgive 27 = .ok (.dup2, 1) := by decide +kernel
theorem dX1_mayForgive_28 : decode cX1_mayForgive 28 = .ok (.iaload, 1) := by decide +kernel
theorem dX1_mayForgive_29 : decode cX1_mayForgive 29 = .ok (.iload_n 3, 1) := by decide +kernel
theorem dX1_mayForgive_30 : decode cX1_mayForgive 30 = .ok (.isub, 1) := by decide +kernel
theorem dX1_mayForgive_31 : decode cX1_mayForgive 31 = .ok (.iastore, 1) := by decide +kernel
theorem dX1_mayForgive_32 : decode cX1_mayForgive 32 = .ok (.aload_n 0, 1) := by decide +kernel
theorem dX1_mayForgive_33 : decode cX1_mayForgive 33 = .ok (.dup, 1) := by decide +kernel
theorem dX1_mayForgive_34 : decode cX1_mayForgive 34 = .ok (.getfield 55, 3) := by decide +kernel
theorem dX1_mayForgive_37 : decode cX1_mayForgive 37 = .ok (.iload_n 3, 1) := by decide +kernel
theorem dX1_mayForgive_38 : decode cX1_mayForgive 38 = .ok (.iadd, 1) := by decide +kernel
theorem dX1_mayForgive_39 : decode cX1_mayForgive 39 = .ok (.putfield 55, 3) := by decide +kernel
theorem dX1_mayForgive_42 : decode cX1_mayForgive 42 = .ok (.iconst 1, 1) := by decide +kernel
theorem dX1_mayForgive_43 : decode cX1_mayForgive 43 = .ok (.ireturn, 1) := by decide +kernel
theorem dX1_nextHour_0 : decode cX1_nextHour 0 = .ok (.aload_n 0, 1) := by decide +kernel
theorem dX1_nextHour_1 : decode cX1_nextHour 1 = .ok (.getfield 25, 3) := by decide +kernel
theorem dX1_nextHour_4 : decode cX1_nextHour 4 = .ok (.bipush 6, 2) := by decide +kernel
theorem dX1_nextHour_6 : decode cX1_nextHour 6 = .ok (.invokestatic 73, 3) := by decide +kernel
theorem dX1_nextHour_9 : decode cX1_nextHour 9 = .ok (.aload_n 0, 1) := by decide +kernel
theorem dX1_nextHour_10 : decode cX1_nextHour 10 = .ok (.dup, 1) := by decide +kernel
theorem dX1_nextHour_11 : decode cX1_nextHour 11 = .ok (.getfield 37, 3) := by decide +kernel
theorem dX1_nextHour_14 : decode cX1_nextHour 14 = .ok (.iconst 1, 1) := by decide +kernel
theorem dX1_nextHour_15 : decode cX1_nextHour 15 = .ok (.iadd, 1) := by decide +kernel
theorem dX1_nextHour_16 : decode cX1_nextHour 16 = .ok (.putfield 37, 3) := by decide +kernel
theorem dX1_nextHour_19 : decode cX1_nextHour 19 = .ok (.aload_n 0, 1) := by decide +kernel
theorem dX1_nextHour_20 : decode cX1_nextHour 20 = .ok (.getfield 37, 3) := by decide +kernel
theorem dX1_nextHour_23 : decode cX1_nextHour 23 = .ok (.bipush 10, 2) := by decide +kernel
theorem dX1_nextHour_25 : decode cX1_nextHour 25 = .ok (.irem, 1) := by decide +kernel
theorem dX1_nextHour_26 : decode cX1_nextHour 26 = .ok (.ifCond .ne 35, 3) := by decide +kernel
theorem dX1_nextHour_29 : decode cX1_nextHour 29 = .ok (.iconst 0, 1) := by decide +kernel
theorem dX1_nextHour_30 : decode cX1_nextHour 30 = .ok (.istore_n 1, 1) := by decide +kernel
theorem dX1_nextHour_31 : decode cX1_nextHour 31 = .ok (.iload_n 1, 1) := by decide +kernel
theorem dX1_nextHour_32 : decode cX1_nextHour 32 = .ok (.aload_n 0, 1) := by decide +kernel
theorem dX1_nextHour_33 : decode cX1_nextHour 33 = .ok (.getfield 22, 3) := by decide +kernel
theorem dX1_nextHour_36 : decode cX1_nextHour 36 = .ok (.arraylength, 1) := by decide +kernel
theorem dX1_nextHour_37 : decode cX1_nextHour 37 = .ok (.if_icmp .ge 24, 3) := by decide +kernel
theorem dX1_nextHour_40 : decode cX1_nextHour 40 = .ok (.aload_n 0, 1) := by decide +kernel
theorem dX1_nextHour_41 : decode cX1_nextHour 41 = .ok (.getfield 22, 3) := by decide +kernel
theorem dX1_nextHour_44 : decode cX1_nextHour 44 = .ok (.iload_n 1, 1) := by decide +kernel
theorem dX1_nextHour_45 : decode cX1_nextHour 45 = .ok (.aload_n 0, 1) := by decide +kernel
theorem dX1_nextHour_46 : decode cX1_nextHour 46 = .ok (.getfield 22, 3) := by decide +kernel
theorem dX1_nextHour_49 : decode cX1_nextHour 49 = .ok (.iload_n 1, 1) := by decide +kernel
theorem dX1_nextHour_50 : decode cX1_nextHour 50 = .ok (.iaload, 1) := by decide +kernel
theorem dX1_nextHour_51 : decode cX1_nextHour 51 = .ok (.invokestatic 131, 3) := by decide +kernel
theorem dX1_nextHour_54 : decode cX1_nextHour 54 = .ok (.iastore, 1) := by decide +kernel
theorem dX1_nextHour_55 : decode cX1_nextHour 55 = .ok (.iinc 1 1, 3) := by decide +kernel
theorem dX1_nextHour_58 : decode cX1_nextHour 58 = .ok (.goto (-27), 3) := by decide +kernel
theorem dX1_nextHour_61 : decode cX1_nextHour 61 = .ok (.return_, 1) := by decide +kernel
theorem dX1_onSunday_0 : decode cX1_onSunday 0 = .ok (.iload_n 0, 1) := by decide +kernel
theorem dX1_onSunday_1 : decode cX1_onSunday 1 = .ok (.ifCond .ne 7, 3) := by decide +kernel
theorem dX1_onSunday_4 : decode cX1_onSunday 4 = .ok (.iconst 0, 1) := by decide +kernel
theorem dX1_onSunday_5 : decode cX1_onSunday 5 = .ok (.goto 11, 3) := by decide +kernel
theorem dX1_onSunday_8 : decode cX1_onSunday 8 = .ok (.bipush 99, 2) := by decide +kernel
theorem dX1_onSunday_10 : decode cX1_onSunday 10 = .ok (.iload_n 0, 1) := by decide +kernel
theorem dX1_onSunday_11 : decode cX1_onSunday 11 = .ok (.iconst 1, 1) := by decide +kernel
theorem dX1_onSunday_12 : decode cX1_onSunday 12 = .ok (.iadd, 1) := by decide +kernel
theorem dX1_onSunday_13 : decode cX1_onSunday 13 = .ok (.invokestatic 88, 3) := by decide +kernel
theorem dX1_onSunday_16 : decode cX1_onSunday 16 = .ok (.ireturn, 1) := by decide +kernel
theorem dX1_tell_0 : decode cX1_tell 0 = .ok (.iload_n 1, 1) := by decide +kernel
theorem dX1_tell_1 : decode cX1_tell 1 = .ok (.bipush 10, 2) := by decide +kernel
theorem dX1_tell_3 : decode cX1_tell 3 = .ok (.if_icmp .lt 46, 3) := by decide +kernel
theorem dX1_tell_6 : decode cX1_tell 6 = .ok (.iload_n 1, 1) := by decide +kernel
theorem dX1_tell_7 : decode cX1_tell 7 = .ok (.bipush 30, 2) := by decide +kernel
theorem dX1_tell_9 : decode cX1_tell 9 = .ok (.if_icmp .ge 40, 3) := by decide +kernel
theorem dX1_tell_12 : decode cX1_tell 12 = .ok (.iload_n 1, 1) := by decide +kernel
theorem dX1_tell_13 : decode cX1_tell 13 = .ok (.bipush 10, 2) := by decide +kernel
theorem dX1_tell_15 : decode cX1_tell 15 = .ok (.irem, 1) := by decide +kernel
theorem dX1_tell_16 : decode cX1_tell 16 = .ok (.istore_n 2, 1) := by decide +kernel
theorem dX1_tell_17 : decode cX1_tell 17 = .ok (.aload_n 0, 1) := by decide +kernel
theorem dX1_tell_18 : decode cX1_tell 18 = .ok (.iload_n 2, 1) := by decide +kernel
theorem dX1_tell_19 : decode cX1_tell 19 = .ok (.invokevirtual 113, 3) := by decide +kernel
theorem dX1_tell_22 : decode cX1_tell 22 = .ok (.ifCond .ne 5, 3) := by decide +kernel
theorem dX1_tell_25 : decode cX1_tell 25 = .ok (.iconst (-1), 1) := by decide +kernel
theorem dX1_tell_26 : decode cX1_tell 26 = .ok (.ireturn, 1) := by decide +kernel
theorem dX1_tell_27 : decode cX1_tell 27 = .ok (.iload_n 1, 1) := by decide +kernel
theorem dX1_tell_28 : decode cX1_tell 28 = .ok (.bipush 20, 2) := by decide +kernel
theorem dX1_tell_30 : decode cX1_tell 30 = .ok (.if_icmp .ge 12, 3) := by decide +kernel
theorem dX1_tell_33 : decode cX1_tell 33 = .ok (.aload_n 0, 1) := by decide +kernel
theorem dX1_tell_34 : decode cX1_tell 34 = .ok (.getfield 19, 3) := by decide +kernel
theorem dX1_tell_37 : decode cX1_tell 37 = .ok (.iload_n 2, 1) := by decide +kernel
theorem dX1_tell_38 : decode cX1_tell 38 = .ok (.iaload, 1) := by decide +kernel
theorem dX1_tell_39 : decode cX1_tell 39 = .ok (.goto 9, 3) := by decide +kernel
theorem dX1_tell_42 : decode cX1_tell 42 = .ok (.aload_n 0, 1) := by decide +kernel
theorem dX1_tell_43 : decode cX1_tell 43 = .ok (.getfield 25, 3) := by decide +kernel
theorem dX1_tell_46 : decode cX1_tell 46 = .ok (.iload_n 2, 1) := by decide +kernel
theorem dX1_tell_47 : decode cX1_tell 47 = .ok (.iaload, 1) := by decide +kernel
theorem dX1_tell_48 : decode cX1_tell 48 = .ok (.ireturn, 1) := by decide +kernel
theorem dX1_tell_49 : decode cX1_tell 49 = .ok (.iload_n 1, 1) := by decide +kernel
theorem dX1_tell_50 : decode cX1_tell 50 = .ok (.bipush 100, 2) := by decide +kernel
theorem dX1_tell_52 : decode cX1_tell 52 = .ok (.if_icmp .lt 55, 3) := by decide +kernel
theorem dX1_tell_55 : decode cX1_tell 55 = .ok (.iload_n 1, 1) := by decide +kernel
theorem dX1_tell_56 : decode cX1_tell 56 = .ok (.sipush 200, 3) := by decide +kernel
theorem dX1_tell_59 : decode cX1_tell 59 = .ok (.if_icmp .ge 48, 3) := by decide +kernel
theorem dX1_tell_62 : decode cX1_tell 62 = .ok (.iload_n 1, 1) := by decide +kernel
theorem dX1_tell_63 : decode cX1_tell 63 = .ok (.bipush 100, 2) := by decide +kernel
theorem dX1_tell_65 : decode cX1_tell 65 = .ok (.isub, 1) := by decide +kernel
theorem dX1_tell_66 : decode cX1_tell 66 = .ok (.bipush 10, 2) := by decide +kernel
theorem dX1_tell_68 : decode cX1_tell 68 = .ok (.idiv, 1) := by decide +kernel
theorem dX1_tell_69 : decode cX1_tell 69 = .ok (.istore_n 2, 1) := by decide +kernel
theorem dX1_tell_70 : decode cX1_tell 70 = .ok (.iload_n 1, 1) := by decide +kernel
theorem dX1_tell_71 : decode cX1_tell 71 = .ok (.bipush 10, 2) := by decide +kernel
theorem dX1_tell_73 : decode cX1_tell 73 = .ok (.irem, 1) := by decide +kernel
theorem dX1_tell_74 : decode cX1_tell 74 = .ok (.istore_n 3, 1) := by decide +kernel
theorem dX1_tell_75 : decode cX1_tell 75 = .ok (.aload_n 0, 1) := by decide +kernel
theorem dX1_tell_76 : decode cX1_tell 76 = .ok (.iload_n 2, 1) := by decide +kernel
theorem dX1_tell_77 : decode cX1_tell 77 = .ok (.invokevirtual 113, 3) := by decide +kernel
theorem dX1_tell_80 : decode cX1_tell 80 = .ok (.ifCond .eq 25, 3) := by decide +kernel
theorem dX1_tell_83 : decode cX1_tell 83 = .ok (.aload_n 0, 1) := by decide +kernel
theorem dX1_tell_84 : decode cX1_tell 84 = .ok (.iload_n 3, 1) := by decide +kernel
theorem dX1_tell_85 : decode cX1_tell 85 = .ok (.invokevirtual 113, 3) := by decide +kernel
theorem dX1_tell_88 : decode cX1_tell 88 = .ok (.ifCond .eq 17, 3) := by decide +kernel
theorem dX1_tell_91 : decode cX1_tell 91 = .ok (.aload_n 0, 1) := by decide +kernel
theorem dX1_tell_92 : decode cX1_tell 92 = .ok (.getfield 22, 3) := by decide +kernel
theorem dX1_tell_95 : decode cX1_tell 95 = .ok (.bipush 6, 2) := by decide +kernel
theorem dX1_tell_97 : decode cX1_tell 97 = .ok (.iload_n 2, 1) := by decide +kernel
theorem dX1_tell_98 : decode cX1_tell 98 = .ok (.imul, 1) := by decide +kernel
theorem dX1_tell_99 : decode cX1_tell 99 = .ok (.iload_n 3, 1) := by decide +kernel
theorem dX1_tell_100 : decode cX1_tell 100 = .ok (.iadd, 1) := by decide +kernel
theorem dX1_tell_101 : decode cX1_tell 101 = .ok (.iaload, 1) := by decide +kernel
theorem dX1_tell_102 : decode cX1_tell 102 = .ok (.goto 4, 3) := by decide +kernel
theorem dX1_tell_105 : decode cX1_tell 105 = .ok (.iconst (-1), 1) := by decide +kernel
theorem dX1_tell_106 : decode cX1_tell 106 = .ok (.ireturn, 1) := by decide +kernel
theorem dX1_tell_107 : decode cX1_tell 107 = .ok (.iload_n 1, 1) := by decide +kernel
theorem dX1_tell_108 : decode cX1_tell 108 = .ok (.tableswitch 61 0 4 #[36, 41, 46, 51, 56], 36) := by decide +kernel
theorem dX1_tell_144 : decode cX1_tell 144 = .ok (.aload_n 0, 1) := by decide +kernel
theorem dX1_tell_145 : decode cX1_tell 145 = .ok (.getfield 37, 3) := by decide +kernel
theorem dX1_tell_148 : decode cX1_tell 148 = .ok (.ireturn, 1) := by decide +kernel
theorem dX1_tell_149 : decode cX1_tell 149 = .ok (.aload_n 0, 1) := by decide +kernel
theorem dX1_tell_150 : decode cX1_tell 150 = .ok (.invokevirtual 134, 3) := by decide +kernel
theorem dX1_tell_153 : decode cX1_tell 153 = .ok (.ireturn, 1) := by decide +kernel
theorem dX1_tell_154 : decode cX1_tell 154 = .ok (.aload_n 0, 1) := by decide +kernel
theorem dX1_tell_155 : decode cX1_tell 155 = .ok (.getfield 40, 3) := by decide +kernel
theorem dX1_tell_158 : decode cX1_tell 158 = .ok (.ireturn, 1) := by decide +kernel
theorem dX1_tell_159 : decode cX1_tell 159 = .ok (.aload_n 0, 1) := by decide +kernel
theorem dX1_tell_160 : decode cX1_tell 160 = .ok (.getfield 34, 3) := by decide +kernel
theorem dX1_tell_163 : decode cX1_tell 163 = .ok (.ireturn, 1) := by decide +kernel
theorem dX1_tell_164 : decode cX1_tell 164 = .ok (.aload_n 0, 1) := by decide +kernel
theorem dX1_tell_165 : decode cX1_tell 165 = .ok (.invokevirtual 138, 3) := by decide +kernel
theorem dX1_tell_168 : decode cX1_tell 168 = .ok (.ireturn, 1) := by decide +kernel
theorem dX1_tell_169 : decode cX1_tell 169 = .ok (.iconst (-1), 1) := by decide +kernel
theorem dX1_tell_170 : decode cX1_tell 170 = .ok (.ireturn, 1) := by decide +kernel
theorem dX1_owedInAll_0 : decode cX1_owedInAll 0 = .ok (.iconst 0, 1) := by decide +kernel
theorem dX1_owedInAll_1 : decode cX1_owedInAll 1 = .ok (.istore_n 1, 1) := by decide +kernel
theorem dX1_owedInAll_2 : decode cX1_owedInAll 2 = .ok (.iconst 0, 1) := by decide +kernel
theorem dX1_owedInAll_3 : decode cX1_owedInAll 3 = .ok (.istore_n 2, 1) := by decide +kernel
theorem dX1_owedInAll_4 : decode cX1_owedInAll 4 = .ok (.iload_n 2, 1) := by decide +kernel
theorem dX1_owedInAll_5 : decode cX1_owedInAll 5 = .ok (.aload_n 0, 1) := by decide +kernel
theorem dX1_owedInAll_6 : decode cX1_owedInAll 6 = .ok (.getfield 22, 3) := by decide +kernel
theorem dX1_owedInAll_9 : decode cX1_owedInAll 9 = .ok (.arraylength, 1) := by decide +kernel
theorem dX1_owedInAll_10 : decode cX1_owedInAll 10 = .ok (.if_icmp .ge 18, 3) := by decide +kernel
theorem dX1_owedInAll_13 : decode cX1_owedInAll 13 = .ok (.iload_n 1, 1) := by decide +kernel
theorem dX1_owedInAll_14 : decode cX1_owedInAll 14 = .ok (.aload_n 0, 1) := by decide +kernel
theorem dX1_owedInAll_15 : decode cX1_owedInAll 15 = .ok (.getfield 22, 3) := by decide +kernel
theorem dX1_owedInAll_18 : decode cX1_owedInAll 18 = .ok (.iload_n 2, 1) := by decide +kernel
theorem dX1_owedInAll_19 : decode cX1_owedInAll 19 = .ok (.iaload, 1) := by decide +kernel
theorem dX1_owedInAll_20 : decode cX1_owedInAll 20 = .ok (.iadd, 1) := by decide +kernel
theorem dX1_owedInAll_21 : decode cX1_owedInAll 21 = .ok (.istore_n 1, 1) := by decide +kernel
theorem dX1_owedInAll_22 : decode cX1_owedInAll 22 = .ok (.iinc 2 1, 3) := by decide +kernel
theorem dX1_owedInAll_25 : decode cX1_owedInAll 25 = .ok (.goto (-21), 3) := by decide +kernel
theorem dX1_owedInAll_28 : decode cX1_owedInAll 28 = .ok (.iload_n 1, 1) := by decide +kernel
theorem dX1_owedInAll_29 : decode cX1_owedInAll 29 = .ok (.ireturn, 1) := by decide +kernel
theorem dX1_sitting_0 : decode cX1_sitting 0 = .ok (.iconst 0, 1) := by decide +kernel
theorem dX1_sitting_1 : decode cX1_sitting 1 = .ok (.istore_n 1, 1) := by decide +kernel
theorem dX1_sitting_2 : decode cX1_sitting 2 = .ok (.iconst 0, 1) := by decide +kernel
theorem dX1_sitting_3 : decode cX1_sitting 3 = .ok (.istore_n 2, 1) := by decide +kernel
theorem dX1_sitting_4 : decode cX1_sitting 4 = .ok (.iload_n 2, 1) := by decide +kernel
theorem dX1_sitting_5 : decode cX1_sitting 5 = .ok (.aload_n 0, 1) := by decide +kernel
theorem dX1_sitting_6 : decode cX1_sitting 6 = .ok (.getfield 9, 3) := by decide +kernel
theorem dX1_sitting_9 : decode cX1_sitting 9 = .ok (.if_icmp .ge 26, 3) := by decide +kernel
theorem dX1_sitting_12 : decode cX1_sitting 12 = .ok (.aload_n 0, 1) := by decide +kernel
theorem dX1_sitting_13 : decode cX1_sitting 13 = .ok (.getfield 25, 3) := by decide +kernel
theorem dX1_sitting_16 : decode cX1_sitting 16 = .ok (.iload_n 2, 1) := by decide +kernel
theorem dX1_sitting_17 : decode cX1_sitting 17 = .ok (.iaload, 1) := by decide +kernel
theorem dX1_sitting_18 : decode cX1_sitting 18 = .ok (.bipush 6, 2) := by decide +kernel
theorem dX1_sitting_20 : decode cX1_sitting 20 = .ok (.if_icmp .eq 9, 3) := by decide +kernel
theorem dX1_sitting_23 : decode cX1_sitting 23 = .ok (.iload_n 1, 1) := by decide +kernel
theorem dX1_sitting_24 : decode cX1_sitting 24 = .ok (.iconst 1, 1) := by decide +kernel
theorem dX1_sitting_25 : decode cX1_sitting 25 = .ok (.iload_n 2, 1) := by decide +kernel
theorem dX1_sitting_26 : decode cX1_sitting 26 = .ok (.ishl, 1) := by decide +kernel
theorem dX1_sitting_27 : decode cX1_sitting 27 = .ok (.ior, 1) := by decide +kernel
theorem dX1_sitting_28 : decode cX1_sitting 28 = .ok (.istore_n 1, 1) := by decide +kernel
theorem dX1_sitting_29 : decode cX1_sitting 29 = .ok (.iinc 2 1, 3) := by decide +kernel
theorem dX1_sitting_32 : decode cX1_sitting 32 = .ok (.goto (-28), 3) := by decide +kernel
theorem dX1_sitting_35 : decode cX1_sitting 35 = .ok (.iload_n 1, 1) := by decide +kernel
theorem dX1_sitting_36 : decode cX1_sitting 36 = .ok (.ireturn, 1) := by decide +kernel
theorem dX1_tellAfter_0 : decode cX1_tellAfter 0 = .ok (.iload_n 1, 1) := by decide +kernel
theorem dX1_tellAfter_1 : decode cX1_tellAfter 1 = .ok (.tableswitch 98 0 7 #[47, 52, 61, 70, 75, 80, 85, 93], 47) := by decide +kernel
theorem dX1_tellAfter_48 : decode cX1_tellAfter 48 = .ok (.aload_n 0, 1) := by decide +kernel
theorem dX1_tellAfter_49 : decode cX1_tellAfter 49 = .ok (.getfield 46, 3) := by decide +kernel
theorem dX1_tellAfter_52 : decode cX1_tellAfter 52 = .ok (.ireturn, 1) := by decide +kernel
theorem dX1_tellAfter_53 : decode cX1_tellAfter 53 = .ok (.aload_n 0, 1) := by decide +kernel
theorem dX1_tellAfter_54 : decode cX1_tellAfter 54 = .ok (.aload_n 0, 1) := by decide +kernel
theorem dX1_tellAfter_55 : decode cX1_tellAfter 55 = .ok (.getfield 28, 3) := by decide +kernel
theorem dX1_tellAfter_58 : decode cX1_tellAfter 58 = .ok (.invokevirtual 141, 3) := by decide +kernel
theorem dX1_tellAfter_61 : decode cX1_tellAfter 61 = .ok (.ireturn, 1) := by decide +kernel
theorem dX1_tellAfter_62 : decode cX1_tellAfter 62 = .ok (.aload_n 0, 1) := by decide +kernel
theorem dX1_tellAfter_63 : decode cX1_tellAfter 63 = .ok (.aload_n 0, 1) := by decide +kernel
theorem dX1_tellAfter_64 : decode cX1_tellAfter 64 = .ok (.getfield 31, 3) := by decide +kernel
theorem dX1_tellAfter_67 : decode cX1_tellAfter 67 = .ok (.invokevirtual 141, 3) := by decide +kernel
theorem dX1_tellAfter_70 : decode cX1_tellAfter 70 = .ok (.ireturn, 1) := by decide +kernel
theorem dX1_tellAfter_71 : decode cX1_tellAfter 71 = .ok (.aload_n 0, 1) := by decide +kernel
theorem dX1_tellAfter_72 : decode cX1_tellAfter 72 = .ok (.getfield 49, 3) := by decide +kernel
theorem dX1_tellAfter_75 : decode cX1_tellAfter 75 = .ok (.ireturn, 1) := by decide +kernel
theorem dX1_tellAfter_76 : decode cX1_tellAfter 76 = .ok (.aload_n 0, 1) := by decide +kernel
theorem dX1_tellAfter_77 : decode cX1_tellAfter 77 = .ok (.getfield 52, 3) := by decide +kernel
theorem dX1_tellAfter_80 : decode cX1_tellAfter 80 = .ok (.ireturn, 1) := by decide +kernel
theorem dX1_tellAfter_81 : decode cX1_tellAfter 81 = .ok (.aload_n 0, 1) := by decide +kernel
theorem dX1_tellAfter_82 : decode cX1_tellAfter 82 = .ok (.getfield 55, 3) := by decide +kernel
theorem dX1_tellAfter_85 : decode cX1_tellAfter 85 = .ok (.ireturn, 1) := by decide +kernel
theorem dX1_tellAfter_86 : decode cX1_tellAfter 86 = .ok (.aload_n 0, 1) := by decide +kernel
theorem dX1_tellAfter_87 : decode cX1_tellAfter 87 = .ok (.getfield 37, 3) := by decide +kernel
theorem dX1_tellAfter_90 : decode cX1_tellAfter 90 = .ok (.bipush 10, 2) := by decide +kernel
theorem dX1_tellAfter_92 : decode cX1_tellAfter 92 = .ok (.idiv, 1) := by decide +kernel
theorem dX1_tellAfter_93 : decode cX1_tellAfter 93 = .ok (.ireturn, 1) := by decide +kernel
theorem dX1_tellAfter_94 : decode cX1_tellAfter 94 = .ok (.aload_n 0, 1) := by decide +kernel
theorem dX1_tellAfter_95 : decode cX1_tellAfter 95 = .ok (.invokevirtual 145, 3) := by decide +kernel
theorem dX1_tellAfter_98 : decode cX1_tellAfter 98 = .ok (.ireturn, 1) := by decide +kernel
theorem dX1_tellAfter_99 : decode cX1_tellAfter 99 = .ok (.bipush (-2), 2) := by decide +kernel
theorem dX1_tellAfter_101 : decode cX1_tellAfter 101 = .ok (.ireturn, 1) := by decide +kernel
theorem dX1_mostOften_0 : decode cX1_mostOften 0 = .ok (.iconst (-1), 1) := by decide +kernel
theorem dX1_mostOften_1 : decode cX1_mostOften 1 = .ok (.istore_n 2, 1) := by decide +kernel
theorem dX1_mostOften_2 : decode cX1_mostOften 2 = .ok (.iconst 0, 1) := by decide +kernel
theorem dX1_mostOften_3 : decode cX1_mostOften 3 = .ok (.istore_n 3, 1) := by decide +kernel
theorem dX1_mostOften_4 : decode cX1_mostOften 4 = .ok (.iconst 0, 1) := by decide +kernel
theorem dX1_mostOften_5 : decode cX1_mostOften 5 = .ok (.istore 4, 2) := by decide +kernel
theorem dX1_mostOften_7 : decode cX1_mostOften 7 = .ok (.iload 4, 2) := by decide +kernel
theorem dX1_mostOften_9 : decode cX1_mostOften 9 = .ok (.aload_n 0, 1) := by decide +kernel
theorem dX1_mostOften_10 : decode cX1_mostOften 10 = .ok (.getfield 9, 3) := by decide +kernel
theorem dX1_mostOften_13 : decode cX1_mostOften 13 = .ok (.if_icmp .ge 32, 3) := by decide +kernel
theorem dX1_mostOften_16 : decode cX1_mostOften 16 = .ok (.iload 4, 2) := by decide +kernel
theorem dX1_mostOften_18 : decode cX1_mostOften 18 = .ok (.aload_n 1, 1) := by decide +kernel
theorem dX1_mostOften_19 : decode cX1_mostOften 19 = .ok (.arraylength, 1) := by decide +kernel
theorem dX1_mostOften_20 : decode cX1_mostOften 20 = .ok (.if_icmp .ge 25, 3) := by decide +kernel
theorem dX1_mostOften_23 : decode cX1_mostOften 23 = .ok (.aload_n 1, 1) := by decide +kernel
theorem dX1_mostOften_24 : decode cX1_mostOften 24 = .ok (.iload 4, 2) := by decide +kernel
theorem dX1_mostOften_26 : decode cX1_mostOften 26 = .ok (.iaload, 1) := by decide +kernel
theorem dX1_mostOften_27 : decode cX1_mostOften 27 = .ok (.iload_n 3, 1) := by decide +kernel
theorem dX1_mostOften_28 : decode cX1_mostOften 28 = .ok (.if_icmp .le 11, 3) := by decide +kernel
theorem dX1_mostOften_31 : decode cX1_mostOften 31 = .ok (.aload_n 1, 1) := by decide +kernel
theorem dX1_mostOften_32 : decode cX1_mostOften 32 = .ok (.iload 4, 2) := by decide +kernel
theorem dX1_mostOften_34 : decode cX1_mostOften 34 = .ok (.iaload, 1) := by decide +kernel
theorem dX1_mostOften_35 : decode cX1_mostOften 35 = .ok (.istore_n 3, 1) := by decide +kernel
theorem dX1_mostOften_36 : decode cX1_mostOften 36 = .ok (.iload 4, 2) := by decide +kernel
theorem dX1_mostOften_38 : decode cX1_mostOften 38 = .ok (.istore_n 2, 1) := by decide +kernel
theorem dX1_mostOften_39 : decode cX1_mostOften 39 = .ok (.iinc 4 1, 3) := by decide +kernel
theorem dX1_mostOften_42 : decode cX1_mostOften 42 = .ok (.goto (-35), 3) := by decide +kernel
theorem dX1_mostOften_45 : decode cX1_mostOften 45 = .ok (.iload_n 2, 1) := by decide +kernel
theorem dX1_mostOften_46 : decode cX1_mostOften 46 = .ok (.ireturn, 1) := by decide +kernel
theorem dX1_free_0 : decode cX1_free 0 = .ok (.iconst 0, 1) := by decide +kernel
theorem dX1_free_1 : decode cX1_free 1 = .ok (.istore_n 1, 1) := by decide +kernel
theorem dX1_free_2 : decode cX1_free 2 = .ok (.iconst 0, 1) := by decide +kernel
theorem dX1_free_3 : decode cX1_free 3 = .ok (.istore_n 2, 1) := by decide +kernel
theorem dX1_free_4 : decode cX1_free 4 = .ok (.iload_n 2, 1) := by decide +kernel
theorem dX1_free_5 : decode cX1_free 5 = .ok (.aload_n 0, 1) := by decide +kernel
theorem dX1_free_6 : decode cX1_free 6 = .ok (.getfield 9, 3) := by decide +kernel
theorem dX1_free_9 : decode cX1_free 9 = .ok (.if_icmp .ge 54, 3) := by decide +kernel
theorem dX1_free_12 : decode cX1_free 12 = .ok (.iconst 0, 1) := by decide +kernel
theorem dX1_free_13 : decode cX1_free 13 = .ok (.istore_n 3, 1) := by decide +kernel
theorem dX1_free_14 : decode cX1_free 14 = .ok (.iconst 0, 1) := by decide +kernel
theorem dX1_free_15 : decode cX1_free 15 = .ok (.istore 4, 2) := by decide +kernel
theorem dX1_free_17 : decode cX1_free 17 = .ok (.iload 4, 2) := by decide +kernel
theorem dX1_free_19 : decode cX1_free 19 = .ok (.aload_n 0, 1) := by decide +kernel
theorem dX1_free_20 : decode cX1_free 20 = .ok (.getfield 9, 3) := by decide +kernel
theorem dX1_free_23 : decode cX1_free 23 = .ok (.if_icmp .ge 24, 3) := by decide +kernel
theorem dX1_free_26 : decode cX1_free 26 = .ok (.iload_n 3, 1) := by decide +kernel
theorem dX1_free_27 : decode cX1_free 27 = .ok (.aload_n 0, 1) := by decide +kernel
theorem dX1_free_28 : decode cX1_free 28 = .ok (.getfield 22, 3) := by decide +kernel
theorem dX1_free_31 : decode cX1_free 31 = .ok (.bipush 6, 2) := by decide +kernel
theorem dX1_free_33 : decode cX1_free 33 = .ok (.iload_n 2, 1) := by decide +kernel
theorem dX1_free_34 : decode cX1_free 34 = .ok (.imul, 1) := by decide +kernel
theorem dX1_free_35 : decode cX1_free 35 = .ok (.iload 4, 2) := by decide +kernel
theorem dX1_free_37 : decode cX1_free 37 = .ok (.iadd, 1) := by decide +kernel
theorem dX1_free_38 : decode cX1_free 38 = .ok (.iaload, 1) := by decide +kernel
theorem dX1_free_39 : decode cX1_free 39 = .ok (.iadd, 1) := by decide +kernel
theorem dX1_free_40 : decode cX1_free 40 = .ok (.istore_n 3, 1) := by decide +kernel
theorem dX1_free_41 : decode cX1_free 41 = .ok (.iinc 4 1, 3) := by decide +kernel
theorem dX1_free_44 : decode cX1_free 44 = .ok (.goto (-27), 3) := by decide +kernel
theorem dX1_free_47 : decode cX1_free 47 = .ok (.iload_n 3, 1) := by decide +kernel
theorem dX1_free_48 : decode cX1_free 48 = .ok (.ifCond .ne 9, 3) := by decide +kernel
theorem dX1_free_51 : decode cX1_free 51 = .ok (.iload_n 1, 1) := by decide +kernel
theorem dX1_free_52 : decode cX1_free 52 = .ok (.iconst 1, 1) := by decide +kernel
theorem dX1_free_53 : decode cX1_free 53 = .ok (.iload_n 2, 1) := by decide +kernel
theorem dX1_free_54 : decode cX1_free 54 = .ok (.ishl, 1) := by decide +kernel
theorem dX1_free_55 : decode cX1_free 55 = .ok (.ior, 1) := by decide +kernel
theorem dX1_free_56 : decode cX1_free 56 = .ok (.istore_n 1, 1) := by decide +kernel
theorem dX1_free_57 : decode cX1_free 57 = .ok (.iinc 2 1, 3) := by decide +kernel
theorem dX1_free_60 : decode cX1_free 60 = .ok (.goto (-56), 3) := by decide +kernel
theorem dX1_free_63 : decode cX1_free 63 = .ok (.iload_n 1, 1) := by decide +kernel
theorem dX1_free_64 : decode cX1_free 64 = .ok (.ireturn, 1) := by decide +kernel
theorem dX4_init_0 : decode cX4_init 0 = .ok (.aload_n 0, 1) := by decide +kernel
theorem dX4_init_1 : decode cX4_init 1 = .ok (.invokespecial 3, 3) := by decide +kernel
theorem dX4_init_4 : decode cX4_init 4 = .ok (.aload_n 0, 1) := by decide +kernel
theorem dX4_init_5 : decode cX4_init 5 = .ok (.bipush 64, 2) := by decide +kernel
theorem dX4_init_7 : decode cX4_init 7 = .ok (.newarray .int, 2) := by decide +kernel
theorem dX4_init_9 : decode cX4_init 9 = .ok (.putfield 9, 3) := by decide +kernel
theorem dX4_init_12 : decode cX4_init 12 = .ok (.aload_n 0, 1) := by decide +kernel
theorem dX4_init_13 : decode cX4_init 13 = .ok (.sipush 448, 3) := by decide +kernel
theorem dX4_init_16 : decode cX4_init 16 = .ok (.newarray .int, 2) := by decide +kernel
theorem dX4_init_18 : decode cX4_init 18 = .ok (.putfield 15, 3) := by decide +kernel
theorem dX4_init_21 : decode cX4_init 21 = .ok (.aload_n 0, 1) := by decide +kernel
theorem dX4_init_22 : decode cX4_init 22 = .ok (.bipush 6, 2) := by decide +kernel
theorem dX4_init_24 : decode cX4_init 24 = .ok (.newarray .int, 2) := by decide +kernel
theorem dX4_init_26 : decode cX4_init 26 = .ok (.putfield 18, 3) := by decide +kernel
theorem dX4_init_29 : decode cX4_init 29 = .ok (.aload_n 0, 1) := by decide +kernel
theorem dX4_init_30 : decode cX4_init 30 = .ok (.bipush 13, 2) := by decide +kernel
theorem dX4_init_32 : decode cX4_init 32 = .ok (.newarray .long, 2) := by decide +kernel
theorem dX4_init_34 : decode cX4_init 34 = .ok (.putfield 21, 3) := by decide +kernel
theorem dX4_init_37 : decode cX4_init 37 = .ok (.return_, 1) := by decide +kernel
theorem dX4_fewestPayments_0 : decode cX4_fewestPayments 0 = .ok (.aload_n 0, 1) := by decide +kernel
theorem dX4_fewestPayments_1 : decode cX4_fewestPayments 1 = .ok (.getfield 9, 3) := by decide +kernel
theorem dX4_fewestPayments_4 : decode cX4_fewestPayments 4 = .ok (.iconst 0, 1) := by decide +kernel
theorem dX4_fewestPayments_5 : decode cX4_fewestPayments 5 = .ok (.iconst 0, 1) := by decide +kernel
theorem dX4_fewestPayments_6 : decode cX4_fewestPayments 6 = .ok (.iastore, 1) := by decide +kernel
theorem dX4_fewestPayments_7 : decode cX4_fewestPayments 7 = .ok (.aload_n 0, 1) := by decide +kernel
theorem dX4_fewestPayments_8 : decode cX4_fewestPayments 8 = .ok (.getfield 15, 3) := by decide +kernel
theorem dX4_fewestPayments_11 : decode cX4_fewestPayments 11 = .ok (.iconst 0, 1) := by decide +kernel
theorem dX4_fewestPayments_12 : decode cX4_fewestPayments 12 = .ok (.iconst 0, 1) := by decide +kernel
theorem dX4_fewestPayments_13 : decode cX4_fewestPayments 13 = .ok (.iastore, 1) := by decide +kernel
theorem dX4_fewestPayments_14 : decode cX4_fewestPayments 14 = .ok (.iconst 0, 1) := by decide +kernel
theorem dX4_fewestPayments_15 : decode cX4_fewestPayments 15 = .ok (.istore_n 2, 1) := by decide +kernel
theorem dX4_fewestPayments_16 : decode cX4_fewestPayments 16 = .ok (.iload_n 2, 1) := by decide +kernel
theorem dX4_fewestPayments_17 : decode cX4_fewestPayments 17 = .ok (.aload_n 1, 1) := by decide +kernel
theorem dX4_fewestPayments_18 : decode cX4_fewestPayments 18 = .ok (.getfield 25, 3) := by decide +kernel
theorem dX4_fewestPayments_21 : decode cX4_fewestPayments 21 = .ok (.if_icmp .ge 52, 3) := by decide +kernel
theorem dX4_fewestPayments_24 : decode cX4_fewestPayments 24 = .ok (.aload_n 1, 1) := by decide +kernel
theorem dX4_fewestPayments_25 : decode cX4_fewestPayments 25 = .ok (.iload_n 2, 1) := by decide +kernel
theorem dX4_fewestPayments_26 : decode cX4_fewestPayments 26 = .ok (.invokevirtual 31, 3) := by decide +kernel
theorem dX4_fewestPayments_29 : decode cX4_fewestPayments 29 = .ok (.istore_n 3, 1) := by decide +kernel
theorem dX4_fewestPayments_30 : decode cX4_fewestPayments 30 = .ok (.iconst 0, 1) := by decide +kernel
theorem dX4_fewestPayments_31 : decode cX4_fewestPayments 31 = .ok (.istore 4, 2) := by decide +kernel
theorem dX4_fewestPayments_33 : decode cX4_fewestPayments 33 = .ok (.iload 4, 2) := by decide +kernel
theorem dX4_fewestPayments_35 : decode cX4_fewestPayments 35 = .ok (.iconst 1, 1) := by decide +kernel
theorem dX4_fewestPayments_36 : decode cX4_fewestPayments 36 = .ok (.iload_n 2, 1) := by decide +kernel
theorem dX4_fewestPayments_37 : decode cX4_fewestPayments 37 = .ok (.ishl, 1) := by decide +kernel
theorem dX4_fewestPayments_38 : decode cX4_fewestPayments 38 = .ok (.if_icmp .ge 29, 3) := by decide +kernel
theorem dX4_fewestPayments_41 : decode cX4_fewestPayments 41 = .ok (.aload_n 0, 1) := by decide +kernel
theorem dX4_fewestPayments_42 : decode cX4_fewestPayments 42 = .ok (.getfield 9, 3) := by decide +kernel
theorem dX4_fewestPayments_45 : decode cX4_fewestPayments 45 = .ok (.iconst 1, 1) := by decide +kernel
theorem dX4_fewestPayments_46 : decode cX4_fewestPayments 46 = .ok (.iload_n 2, 1) := by decide +kernel
theorem dX4_fewestPayments_47 : decode cX4_fewestPayments 47 = .ok (.ishl, 1) := by decide +kernel
theorem dX4_fewestPayments_48 : decode cX4_fewestPayments 48 = .ok (.iload 4, 2) := by decide +kernel
theorem dX4_fewestPayments_50 : decode cX4_fewestPayments 50 = .ok (.ior, 1) := by decide +kernel
theorem dX4_fewestPayments_51 : decode cX4_fewestPayments 51 = .ok (.aload_n 0, 1) := by decide +kernel
theorem dX4_fewestPayments_52 : decode cX4_fewestPayments 52 = .ok (.getfield 9, 3) := by decide +kernel
theorem dX4_fewestPayments_55 : decode cX4_fewestPayments 55 = .ok (.iload 4, 2) := by decide +kernel
theorem dX4_fewestPayments_57 : decode cX4_fewestPayments 57 = .ok (.iaload, 1) := by decide +kernel
theorem dX4_fewestPayments_58 : decode cX4_fewestPayments 58 = .ok (.iload_n 3, 1) := by decide +kernel
theorem dX4_fewestPayments_59 : decode cX4_fewestPayments 59 = .ok (.iadd, 1) := by decide +kernel
theorem dX4_fewestPayments_60 : decode cX4_fewestPayments 60 = .ok (.iastore, 1) := by decide +kernel
theorem dX4_fewestPayments_61 : decode cX4_fewestPayments 61 = .ok (.iinc 4 1, 3) := by decide +kernel
theorem dX4_fewestPayments_64 : decode cX4_fewestPayments 64 = .ok (.goto (-31), 3) := by decide +kernel
theorem dX4_fewestPayments_67 : decode cX4_fewestPayments 67 = .ok (.iinc 2 1, 3) := by decide +kernel
theorem dX4_fewestPayments_70 : decode cX4_fewestPayments 70 = .ok (.goto (-54), 3) := by decide +kernel
theorem dX4_fewestPayments_73 : decode cX4_fewestPayments 73 = .ok (.iconst 1, 1) := by decide +kernel
theorem dX4_fewestPayments_74 : decode cX4_fewestPayments 74 = .ok (.istore_n 2, 1) := by decide +kernel
theorem dX4_fewestPayments_75 : decode cX4_fewestPayments 75 = .ok (.iload_n 2, 1) := by decide +kernel
theorem dX4_fewestPayments_76 : decode cX4_fewestPayments 76 = .ok (.iconst 1, 1) := by decide +kernel
theorem dX4_fewestPayments_77 : decode cX4_fewestPayments 77 = .ok (.aload_n 1, 1) := by decide +kernel
theorem dX4_fewestPayments_78 : decode cX4_fewestPayments 78 = .ok (.getfield 25, 3) := by decide +kernel
theorem dX4_fewestPayments_81 : decode cX4_fewestPayments 81 = .ok (.ishl, 1) := by decide +kernel
theorem dX4_fewestPayments_82 : decode cX4_fewestPayments 82 = .ok (.if_icmp .ge 21, 3) := by decide +kernel
theorem dX4_fewestPayments_85 : decode cX4_fewestPayments 85 = .ok (.aload_n 0, 1) := by decide +kernel
theorem dX4_fewestPayments_86 : decode cX4_fewestPayments 86 = .ok (.getfield 15, 3) := by decide +kernel
theorem dX4_fewestPayments_89 : decode cX4_fewestPayments 89 = .ok (.iload_n 2, 1) := by decide +kernel
theorem dX4_fewestPayments_90 : decode cX4_fewestPayments 90 = .ok (.aload_n 0, 1) := by decide +kernel
theorem dX4_fewestPayments_91 : decode cX4_fewestPayments 91 = .ok (.aload_n 1, 1) := by decide +kernel
theorem dX4_fewestPayments_92 : decode cX4_fewestPayments 92 = .ok (.iload_n 2, 1) := by decide +kernel
theorem dX4_fewestPayments_93 : decode cX4_fewestPayments 93 = .ok (.invokevirtual 35, 3) := by decide +kernel
theorem dX4_fewestPayments_96 : decode cX4_fewestPayments 96 = .ok (.iastore, 1) := by decide +kernel
theorem dX4_fewestPayments_97 : decode cX4_fewestPayments 97 = .ok (.iinc 2 1, 3) := by decide +kernel
theorem dX4_fewestPayments_100 : decode cX4_fewestPayments 100 = .ok (.goto (-25), 3) := by decide +kernel
theorem dX4_fewestPayments_103 : decode cX4_fewestPayments 103 = .ok (.aload_n 1, 1) := by decide +kernel
theorem dX4_fewestPayments_104 : decode cX4_fewestPayments 104 = .ok (.getfield 25, 3) := by decide +kernel
theorem dX4_fewestPayments_107 : decode cX4_fewestPayments 107 = .ok (.aload_n 0, 1) := by decide +kernel
theorem dX4_fewestPayments_108 : decode cX4_fewestPayments 108 = .ok (.getfield 15, 3) := by decide +kernel
theorem dX4_fewestPayments_111 : decode cX4_fewestPayments 111 = .ok (.iconst 1, 1) := by decide +kernel
theorem dX4_fewestPayments_112 : decode cX4_fewestPayments 112 = .ok (.aload_n 1, 1) := by decide +kernel
theorem dX4_fewestPayments_113 : decode cX4_fewestPayments 113 = .ok (.getfield 25, 3) := by decide +kernel
theorem dX4_fewestPayments_116 : decode cX4_fewestPayments 116 = .ok (.ishl, 1) := by decide +kernel
theorem dX4_fewestPayments_117 : decode cX4_fewestPayments 117 = .ok (.iconst 1, 1) := by decide +kernel
theorem dX4_fewestPayments_118 : decode cX4_fewestPayments 118 = .ok (.isub, 1) := by decide +kernel
theorem dX4_fewestPayments_119 : decode cX4_fewestPayments 119 = .ok (.iaload, 1) := by decide +kernel
theorem dX4_fewestPayments_120 : decode cX4_fewestPayments 120 = .ok (.isub, 1) := by decide +kernel
theorem dX4_fewestPayments_121 : decode cX4_fewestPayments 121 = .ok (.ireturn, 1) := by decide +kernel
theorem dX4_mostGroups_0 : decode cX4_mostGroups 0 = .ok (.iconst 0, 1) := by decide +kernel
theorem dX4_mostGroups_1 : decode cX4_mostGroups 1 = .ok (.istore_n 3, 1) := by decide +kernel
theorem dX4_mostGroups_2 : decode cX4_mostGroups 2 = .ok (.iconst 0, 1) := by decide +kernel
theorem dX4_mostGroups_3 : decode cX4_mostGroups 3 = .ok (.istore 4, 2) := by decide +kernel
theorem dX4_mostGroups_5 : decode cX4_mostGroups 5 = .ok (.iload 4, 2) := by decide +kernel
theorem dX4_mostGroups_7 : decode cX4_mostGroups 7 = .ok (.aload_n 1, 1) := by decide +kernel
theorem dX4_mostGroups_8 : decode cX4_mostGroups 8 = .ok (.getfield 25, 3) := by decide +kernel
theorem dX4_mostGroups_11 : decode cX4_mostGroups 11 = .ok (.if_icmp .ge 34, 3) := by decide +kernel
theorem dX4_mostGroups_14 : decode cX4_mostGroups 14 = .ok (.iload_n 2, 1) := by decide +kernel
theorem dX4_mostGroups_15 : decode cX4_mostGroups 15 = .ok (.iload 4, 2) := by decide +kernel
theorem dX4_mostGroups_17 : decode cX4_mostGroups 17 = .ok (.ishr, 1) := by decide +kernel
theorem dX4_mostGroups_18 : decode cX4_mostGroups 18 = .ok (.iconst 1, 1) := by decide +kernel
theorem dX4_mostGroups_19 : decode cX4_mostGroups 19 = .ok (.iand, 1) := by decide +kernel
theorem dX4_mostGroups_20 : decode cX4_mostGroups 20 = .ok (.ifCond .eq 19, 3) := by decide +kernel
theorem dX4_mostGroups_23 : decode cX4_mostGroups 23 = .ok (.iload_n 3, 1) := by decide +kernel
theorem dX4_mostGroups_24 : decode cX4_mostGroups 24 = .ok (.aload_n 0, 1) := by decide +kernel
theorem dX4_mostGroups_25 : decode cX4_mostGroups 25 = .ok (.getfield 15, 3) := by decide +kernel
theorem dX4_mostGroups_28 : decode cX4_mostGroups 28 = .ok (.iload_n 2, 1) := by decide +kernel
theorem dX4_mostGroups_29 : decode cX4_mostGroups 29 = .ok (.iconst 1, 1) := by decide +kernel
theorem dX4_mostGroups_30 : decode cX4_mostGroups 30 = .ok (.iload 4, 2) := by decide +kernel
theorem dX4_mostGroups_32 : decode cX4_mostGroups 32 = .ok (.ishl, 1) := by decide +kernel
theorem dX4_mostGroups_33 : decode cX4_mostGroups 33 = .ok (.ixor, 1) := by decide +kernel
theorem dX4_mostGroups_34 : decode cX4_mostGroups 34 = .ok (.iaload, 1) := by decide +kernel
theorem dX4_mostGroups_35 : decode cX4_mostGroups 35 = .ok (.invokestatic 39, 3) := by decide +kernel
theorem dX4_mostGroups_38 : decode cX4_mostGroups 38 = .ok (.istore_n 3, 1) := by decide +kernel
theorem dX4_mostGroups_39 : decode cX4_mostGroups 39 = .ok (.iinc 4 1, 3) := by decide +kernel
theorem dX4_mostGroups_42 : decode cX4_mostGroups 42 = .ok (.goto (-37), 3) := by decide +kernel
theorem dX4_mostGroups_45 : decode cX4_mostGroups 45 = .ok (.aload_n 0, 1) := by decide +kernel
theorem dX4_mostGroups_46 : decode cX4_mostGroups 46 = .ok (.getfield 9, 3) := by decide +kernel
theorem dX4_mostGroups_49 : decode cX4_mostGroups 49 = .ok (.iload_n 2, 1) := by decide +kernel
theorem dX4_mostGroups_50 : decode cX4_mostGroups 50 = .ok (.iaload, 1) := by decide +kernel
theorem dX4_mostGroups_51 : decode cX4_mostGroups 51 = .ok (.ifCond .ne 9, 3) := by decide +kernel
theorem dX4_mostGroups_54 : decode cX4_mostGroups 54 = .ok (.iload_n 3, 1) := by decide +kernel
theorem dX4_mostGroups_55 : decode cX4_mostGroups 55 = .ok (.iconst 1, 1) := by decide +kernel
theorem dX4_mostGroups_56 : decode cX4_mostGroups 56 = .ok (.iadd, 1) := by decide +kernel
theorem dX4_mostGroups_57 : decode cX4_mostGroups 57 = .ok (.goto 4, 3) := by decide +kernel
theorem dX4_mostGroups_60 : decode cX4_mostGroups 60 = .ok (.iload_n 3, 1) := by decide +kernel
theorem dX4_mostGroups_61 : decode cX4_mostGroups 61 = .ok (.ireturn, 1) := by decide +kernel
theorem dX4_leastTedious_0 : decode cX4_leastTedious 0 = .ok (.iload_n 2, 1) := by decide +kernel
theorem dX4_leastTedious_1 : decode cX4_leastTedious 1 = .ok (.istore 4, 2) := by decide +kernel
theorem dX4_leastTedious_3 : decode cX4_leastTedious 3 = .ok (.iconst 0, 1) := by decide +kernel
theorem dX4_leastTedious_4 : decode cX4_leastTedious 4 = .ok (.istore 5, 2) := by decide +kernel
theorem dX4_leastTedious_6 : decode cX4_leastTedious 6 = .ok (.iconst 0, 1) := by decide +kernel
theorem dX4_leastTedious_7 : decode cX4_leastTedious 7 = .ok (.istore 6, 2) := by decide +kernel
theorem dX4_leastTedious_9 : decode cX4_leastTedious 9 = .ok (.bipush 9, 2) := by decide +kernel
theorem dX4_leastTedious_11 : decode cX4_leastTedious 11 = .ok (.istore 7, 2) := by decide +kernel
theorem dX4_leastTedious_13 : decode cX4_leastTedious 13 = .ok (.iload 7, 2) := by decide +kernel
theorem dX4_leastTedious_15 : decode cX4_leastTedious 15 = .ok (.ifCond .lt 89, 3) := by decide +kernel
theorem dX4_leastTedious_18 : decode cX4_leastTedious 18 = .ok (.iconst 0, 1) := by decide +kernel
theorem dX4_leastTedious_19 : decode cX4_leastTedious 19 = .ok (.istore 8, 2) := by decide +kernel
theorem dX4_leastTedious_21 : decode cX4_leastTedious 21 = .ok (.iload 8, 2) := by decide +kernel
theorem dX4_leastTedious_23 : decode cX4_leastTedious 23 = .ok (.aload_n 0, 1) := by decide +kernel
theorem dX4_leastTedious_24 : decode cX4_leastTedious 24 = .ok (.getfield 25, 3) := by decide +kernel
theorem dX4_leastTedious_27 : decode cX4_leastTedious 27 = .ok (.if_icmp .ge 71, 3) := by decide +kernel
theorem dX4_leastTedious_30 : decode cX4_leastTedious 30 = .ok (.iload 8, 2) := by decide +kernel
theorem dX4_leastTedious_32 : decode cX4_leastTedious 32 = .ok (.iload_n 1, 1) := by decide +kernel
theorem dX4_leastTedious_33 : decode cX4_leastTedious 33 = .ok (.if_icmp .eq 59, 3) := by decide +kernel
theorem dX4_leastTedious_36 : decode cX4_leastTedious 36 = .ok (.aload_n 0, 1) := by decide +kernel
theorem dX4_leastTedious_37 : decode cX4_leastTedious 37 = .ok (.getfield 45, 3) := by decide +kernel
theorem dX4_leastTedious_40 : decode cX4_leastTedious 40 = .ok (.iload 8, 2) := by decide +kernel
theorem dX4_leastTedious_42 : decode cX4_leastTedious 42 = .ok (.iaload, 1) := by decide +kernel
theorem dX4_leastTedious_43 : decode cX4_leastTedious 43 = .ok (.iload 7, 2) := by decide +kernel
theorem dX4_leastTedious_45 : decode cX4_leastTedious 45 = .ok (.if_icmp .ne 47, 3) := by decide +kernel
theorem dX4_leastTedious_48 : decode cX4_leastTedious 48 = .ok (.iload 4, 2) := by decide +kernel
theorem dX4_leastTedious_50 : decode cX4_leastTedious 50 = .ok (.aload_n 0, 1) := by decide +kernel
theorem dX4_leastTedious_51 : decode cX4_leastTedious 51 = .ok (.getfield 48, 3) := by decide +kernel
theorem dX4_leastTedious_54 : decode cX4_leastTedious 54 = .ok (.iload 8, 2) := by decide +kernel
theorem dX4_leastTedious_56 : decode cX4_leastTedious 56 = .ok (.iaload, 1) := by decide +kernel
theorem dX4_leastTedious_57 : decode cX4_leastTedious 57 = .ok (.invokestatic 51, 3) := by decide +kernel
theorem dX4_leastTedious_60 : decode cX4_leastTedious 60 = .ok (.istore 9, 2) := by decide +kernel
theorem dX4_leastTedious_62 : decode cX4_leastTedious 62 = .ok (.iload 4, 2) := by decide +kernel
theorem dX4_leastTedious_64 : decode cX4_leastTedious 64 = .ok (.iload 9, 2) := by decide +kernel
theorem dX4_leastTedious_66 : decode cX4_leastTedious 66 = .ok (.isub, 1) := by decide +kernel
theorem dX4_leastTedious_67 : decode cX4_leastTedious 67 = .ok (.istore 4, 2) := by decide +kernel
theorem dX4_leastTedious_69 : decode cX4_leastTedious 69 = .ok (.iload 5, 2) := by decide +kernel
theorem dX4_leastTedious_71 : decode cX4_leastTedious 71 = .ok (.iload 9, 2) := by decide +kernel
theorem dX4_leastTedious_73 : decode cX4_leastTedious 73 = .ok (.bipush 10, 2) := by decide +kernel
theorem dX4_leastTedious_75 : decode cX4_leastTedious 75 = .ok (.iload 7, 2) := by decide +kernel
theorem dX4_leastTedious_77 : decode cX4_leastTedious 77 = .ok (.isub, 1) := by decide +kernel
theorem dX4_leastTedious_78 : decode cX4_leastTedious 78 = .ok (.imul, 1) := by decide +kernel
theorem dX4_leastTedious_79 : decode cX4_leastTedious 79 = .ok (.iadd, 1) := by decide +kernel
theorem dX4_leastTedious_80 : decode cX4_leastTedious 80 = .ok (.istore 5, 2) := by decide +kernel
theorem dX4_leastTedious_82 : decode cX4_leastTedious 82 = .ok (.iload 8, 2) := by decide +kernel
theorem dX4_leastTedious_84 : decode cX4_leastTedious 84 = .ok (.iload_n 3, 1) := by decide +kernel
theorem dX4_leastTedious_85 : decode cX4_leastTedious 85 = .ok (.if_icmp .ne 7, 3) := by decide +kernel
theorem dX4_leastTedious_88 : decode cX4_leastTedious 88 = .ok (.iload 9, 2) := by decide +kernel
theorem dX4_leastTedious_90 : decode cX4_leastTedious 90 = .ok (.istore 6, 2) := by decide +kernel
theorem dX4_leastTedious_92 : decode cX4_leastTedious 92 = .ok (.iinc 8 1, 3) := by decide +kernel
theorem dX4_leastTedious_95 : decode cX4_leastTedious 95 = .ok (.goto (-74), 3) := by decide +kernel
theorem dX4_leastTedious_98 : decode cX4_leastTedious 98 = .ok (.iinc 7 (-1), 3) := by decide +kernel
theorem dX4_leastTedious_101 : decode cX4_leastTedious 101 = .ok (.goto (-88), 3) := by decide +kernel
theorem dX4_leastTedious_104 : decode cX4_leastTedious 104 = .ok (.iload 4, 2) := by decide +kernel
theorem dX4_leastTedious_106 : decode cX4_leastTedious 106 = .ok (.ifCond .le 5, 3) := by decide +kernel
theorem dX4_leastTedious_109 : decode cX4_leastTedious 109 = .ok (.iconst (-1), 1) := by decide +kernel
theorem dX4_leastTedious_110 : decode cX4_leastTedious 110 = .ok (.ireturn, 1) := by decide +kernel
theorem dX4_leastTedious_111 : decode cX4_leastTedious 111 = .ok (.iload_n 3, 1) := by decide +kernel
theorem dX4_leastTedious_112 : decode cX4_leastTedious 112 = .ok (.iconst (-1), 1) := by decide +kernel
theorem dX4_leastTedious_113 : decode cX4_leastTedious 113 = .ok (.if_icmp .ne 8, 3) := by decide +kernel
theorem dX4_leastTedious_116 : decode cX4_leastTedious 116 = .ok (.iload 5, 2) := by decide +kernel
theorem dX4_leastTedious_118 : decode cX4_leastTedious 118 = .ok (.goto 5, 3) := by decide +kernel
theorem dX4_leastTedious_121 : decode cX4_leastTedious 121 = .ok (.iload 6, 2) := by decide +kernel
theorem dX4_leastTedious_123 : decode cX4_leastTedious 123 = .ok (.ireturn, 1) := by decide +kernel
theorem dX4_bestLending_0 : decode cX4_bestLending 0 = .ok (.aload_n 0, 1) := by decide +kernel
theorem dX4_bestLending_1 : decode cX4_bestLending 1 = .ok (.getfield 15, 3) := by decide +kernel
theorem dX4_bestLending_4 : decode cX4_bestLending 4 = .ok (.iconst 0, 1) := by decide +kernel
theorem dX4_bestLending_5 : decode cX4_bestLending 5 = .ok (.invokestatic 54, 3) := by decide +kernel
theorem dX4_bestLending_8 : decode cX4_bestLending 8 = .ok (.aload_n 1, 1) := by decide +kernel
theorem dX4_bestLending_9 : decode cX4_bestLending 9 = .ok (.getfield 25, 3) := by decide +kernel
theorem dX4_bestLending_12 : decode cX4_bestLending 12 = .ok (.iconst 1, 1) := by decide +kernel
theorem dX4_bestLending_13 : decode cX4_bestLending 13 = .ok (.isub, 1) := by decide +kernel
theorem dX4_bestLending_14 : decode cX4_bestLending 14 = .ok (.istore_n 3, 1) := by decide +kernel
theorem dX4_bestLending_15 : decode cX4_bestLending 15 = .ok (.iload_n 3, 1) := by decide +kernel
theorem dX4_bestLending_16 : decode cX4_bestLending 16 = .ok (.ifCond .lt 49, 3) := by decide +kernel
theorem dX4_bestLending_19 : decode cX4_bestLending 19 = .ok (.iconst 0, 1) := by decide +kernel
theorem dX4_bestLending_20 : decode cX4_bestLending 20 = .ok (.istore 4, 2) := by decide +kernel
theorem dX4_bestLending_22 : decode cX4_bestLending 22 = .ok (.iload 4, 2) := by decide +kernel
theorem dX4_bestLending_24 : decode cX4_bestLending 24 = .ok (.iconst 1, 1) := by decide +kernel
theorem dX4_bestLending_25 : decode cX4_bestLending 25 = .ok (.aload_n 1, 1) := by decide +kernel
theorem dX4_bestLending_26 : decode cX4_bestLending 26 = .ok (.getfield 25, 3) := by decide +kernel
theorem dX4_bestLending_29 : decode cX4_bestLending 29 = .ok (.ishl, 1) := by decide +kernel
theorem dX4_bestLending_30 : decode cX4_bestLending 30 = .ok (.if_icmp .ge 29, 3) := by decide +kernel
theorem dX4_bestLending_33 : decode cX4_bestLending 33 = .ok (.aload_n 0, 1) := by decide +kernel
theorem dX4_bestLending_34 : decode cX4_bestLending 34 = .ok (.getfield 15, 3) := by decide +kernel
theorem dX4_bestLending_37 : decode cX4_bestLending 37 = .ok (.bipush 64, 2) := by decide +kernel
theorem dX4_bestLending_39 : decode cX4_bestLending 39 = .ok (.iload_n 3, 1) := by decide +kernel
theorem dX4_bestLending_40 : decode cX4_bestLending 40 = .ok (.imul, 1) := by decide +kernel
theorem dX4_bestLending_41 : decode cX4_bestLending 41 = .ok (.iload 4, 2) := by decide +kernel
theorem dX4_bestLending_43 : decode cX4_bestLending 43 = .ok (.iadd, 1) := by decide +kernel
theorem dX4_bestLending_44 : decode cX4_bestLending 44 = .ok (.aload_n 0, 1) := by decide +kernel
theorem dX4_bestLending_45 : decode cX4_bestLending 45 = .ok (.aload_n 1, 1) := by decide +kernel
theorem dX4_bestLending_46 : decode cX4_bestLending 46 = .ok (.iload_n 3, 1) := by decide +kernel
theorem dX4_bestLending_47 : decode cX4_bestLending 47 = .ok (.iload 4, 2) := by decide +kernel
theorem dX4_bestLending_49 : decode cX4_bestLending 49 = .ok (.invokevirtual 60, 3) := by decide +kernel
theorem dX4_bestLending_52 : decode cX4_bestLending 52 = .ok (.iastore, 1) := by decide +kernel
theorem dX4_bestLending_53 : decode cX4_bestLending 53 = .ok (.iinc 4 1, 3) := by decide +kernel
theorem dX4_bestLending_56 : decode cX4_bestLending 56 = .ok (.goto (-34), 3) := by decide +kernel
theorem dX4_bestLending_59 : decode cX4_bestLending 59 = .ok (.iinc 3 (-1), 3) := by decide +kernel
theorem dX4_bestLending_62 : decode cX4_bestLending 62 = .ok (.goto (-47), 3) := by decide +kernel
theorem dX4_bestLending_65 : decode cX4_bestLending 65 = .ok (.iload_n 2, 1) := by decide +kernel
theorem dX4_bestLending_66 : decode cX4_bestLending 66 = .ok (.iconst (-1), 1) := by decide +kernel
theorem dX4_bestLending_67 : decode cX4_bestLending 67 = .ok (.if_icmp .ne 10, 3) := by decide +kernel
theorem dX4_bestLending_70 : decode cX4_bestLending 70 = .ok (.aload_n 0, 1) := by decide +kernel
theorem dX4_bestLending_71 : decode cX4_bestLending 71 = .ok (.getfield 15, 3) := by decide +kernel
theorem dX4_bestLending_74 : decode cX4_bestLending 74 = .ok (.iconst 0, 1) := by decide +kernel
theorem dX4_bestLending_75 : decode cX4_bestLending 75 = .ok (.iaload, 1) := by decide +kernel
theorem dX4_bestLending_76 : decode cX4_bestLending 76 = .ok (.ireturn, 1) := by decide +kernel
theorem dX4_bestLending_77 : decode cX4_bestLending 77 = .ok (.iconst 0, 1) := by decide +kernel
theorem dX4_bestLending_78 : decode cX4_bestLending 78 = .ok (.istore_n 3, 1) := by decide +kernel
theorem dX4_bestLending_79 : decode cX4_bestLending 79 = .ok (.bipush 6, 2) := by decide +kernel
theorem dX4_bestLending_81 : decode cX4_bestLending 81 = .ok (.istore 4, 2) := by decide +kernel
theorem dX4_bestLending_83 : decode cX4_bestLending 83 = .ok (.iconst 0, 1) := by decide +kernel
theorem dX4_bestLending_84 : decode cX4_bestLending 84 = .ok (.istore 5, 2) := by decide +kernel
theorem dX4_bestLending_86 : decode cX4_bestLending 86 = .ok (.iload 5, 2) := by decide +kernel
theorem dX4_bestLending_88 : decode cX4_bestLending 88 = .ok (.iload_n 2, 1) := by decide +kernel
theorem dX4_bestLending_89 : decode cX4_bestLending 89 = .ok (.if_icmp .gt 42, 3) := by decide +kernel
theorem dX4_bestLending_92 : decode cX4_bestLending 92 = .ok (.iload 5, 2) := by decide +kernel
theorem dX4_bestLending_94 : decode cX4_bestLending 94 = .ok (.aload_n 1, 1) := by decide +kernel
theorem dX4_bestLending_95 : decode cX4_bestLending 95 = .ok (.getfield 25, 3) := by decide +kernel
theorem dX4_bestLending_98 : decode cX4_bestLending 98 = .ok (.if_icmp .ge 33, 3) := by decide +kernel
theorem dX4_bestLending_101 : decode cX4_bestLending 101 = .ok (.aload_n 0, 1) := by decide +kernel
theorem dX4_bestLending_102 : decode cX4_bestLending 102 = .ok (.aload_n 1, 1) := by decide +kernel
theorem dX4_bestLending_103 : decode cX4_bestLending 103 = .ok (.iload 5, 2) := by decide +kernel
theorem dX4_bestLending_105 : decode cX4_bestLending 105 = .ok (.iload_n 3, 1) := by decide +kernel
theorem dX4_bestLending_106 : decode cX4_bestLending 106 = .ok (.invokevirtual 64, 3) := by decide +kernel
theorem dX4_bestLending_109 : decode cX4_bestLending 109 = .ok (.istore 4, 2) := by decide +kernel
theorem dX4_bestLending_111 : decode cX4_bestLending 111 = .ok (.iload 4, 2) := by decide +kernel
theorem dX4_bestLending_113 : decode cX4_bestLending 113 = .ok (.bipush 6, 2) := by decide +kernel
theorem dX4_bestLending_115 : decode cX4_bestLending 115 = .ok (.if_icmp .eq 10, 3) := by decide +kernel
theorem dX4_bestLending_118 : decode cX4_bestLending 118 = .ok (.iload_n 3, 1) := by decide +kernel
theorem dX4_bestLending_119 : decode cX4_bestLending 119 = .ok (.iconst 1, 1) := by decide +kernel
theorem dX4_bestLending_120 : decode cX4_bestLending 120 = .ok (.iload 4, 2) := by decide +kernel
theorem dX4_bestLending_122 : decode cX4_bestLending 122 = .ok (.ishl, 1) := by decide +kernel
theorem dX4_bestLending_123 : decode cX4_bestLending 123 = .ok (.ior, 1) := by decide +kernel
theorem dX4_bestLending_124 : decode cX4_bestLending 124 = .ok (.istore_n 3, 1) := by decide +kernel
theorem dX4_bestLending_125 : decode cX4_bestLending 125 = .ok (.iinc 5 1, 3) := by decide +kernel
theorem dX4_bestLending_128 : decode cX4_bestLending 128 = .ok (.goto (-42), 3) := by decide +kernel
theorem dX4_bestLending_131 : decode cX4_bestLending 131 = .ok (.iload 4, 2) := by decide +kernel
theorem dX4_bestLending_133 : decode cX4_bestLending 133 = .ok (.ireturn, 1) := by decide +kernel
theorem dX4_mostWorth_0 : decode cX4_mostWorth 0 = .ok (.aload_n 0, 1) := by decide +kernel
theorem dX4_mostWorth_1 : decode cX4_mostWorth 1 = .ok (.getfield 15, 3) := by decide +kernel
theorem dX4_mostWorth_4 : decode cX4_mostWorth 4 = .ok (.bipush 64, 2) := by decide +kernel
theorem dX4_mostWorth_6 : decode cX4_mostWorth 6 = .ok (.iload_n 2, 1) := by decide +kernel
theorem dX4_mostWorth_7 : decode cX4_mostWorth 7 = .ok (.iconst 1, 1) := by decide +kernel
theorem dX4_mostWorth_8 : decode cX4_mostWorth 8 = .ok (.iadd, 1) := by decide +kernel
theorem dX4_mostWorth_9 : decode cX4_mostWorth 9 = .ok (.imul, 1) := by decide +kernel
theorem dX4_mostWorth_10 : decode cX4_mostWorth 10 = .ok (.iload_n 3, 1) := by decide +kernel
theorem dX4_mostWorth_11 : decode cX4_mostWorth 11 = .ok (.iadd, 1) := by decide +kernel
theorem dX4_mostWorth_12 : decode cX4_mostWorth 12 = .ok (.iaload, 1) := by decide +kernel
theorem dX4_mostWorth_13 : decode cX4_mostWorth 13 = .ok (.istore 4, 2) := by decide +kernel
theorem dX4_mostWorth_15 : decode cX4_mostWorth 15 = .ok (.iconst 0, 1) := by decide +kernel
theorem dX4_mostWorth_16 : decode cX4_mostWorth 16 = .ok (.istore 5, 2) := by decide +kernel
theorem dX4_mostWorth_18 : decode cX4_mostWorth 18 = .ok (.iload 5, 2) := by decide +kernel
theorem dX4_mostWorth_20 : decode cX4_mostWorth 20 = .ok (.aload_n 1, 1) := by decide +kernel
theorem dX4_mostWorth_21 : decode cX4_mostWorth 21 = .ok (.getfield 25, 3) := by decide +kernel
theorem dX4_mostWorth_24 : decode cX4_mostWorth 24 = .ok (.if_icmp .ge 40, 3) := by decide +kernel
theorem dX4_mostWorth_27 : decode cX4_mostWorth 27 = .ok (.iload 5, 2) := by decide +kernel
theorem dX4_mostWorth_29 : decode cX4_mostWorth 29 = .ok (.iload_n 2, 1) := by decide +kernel
theorem dX4_mostWorth_30 : decode cX4_mostWorth 30 = .ok (.if_icmp .eq 28, 3) := by decide +kernel
theorem dX4_mostWorth_33 : decode cX4_mostWorth 33 = .ok (.iload_n 3, 1) := by decide +kernel
theorem dX4_mostWorth_34 : decode cX4_mostWorth 34 = .ok (.iload 5, 2) := by decide +kernel
theorem dX4_mostWorth_36 : decode cX4_mostWorth 36 = .ok (.ishr, 1) := by decide +kernel
theorem dX4_mostWorth_37 : decode cX4_mostWorth 37 = .ok (.iconst 1, 1) := by decide +kernel
theorem dX4_mostWorth_38 : decode cX4_mostWorth 38 = .ok (.iand, 1) := by decide +kernel
theorem dX4_mostWorth_39 : decode cX4_mostWorth 39 = .ok (.ifCond .ne 19, 3) := by decide +kernel
theorem dX4_mostWorth_42 : decode cX4_mostWorth 42 = .ok (.iload 4, 2) := by decide +kernel
theorem dX4_mostWorth_44 : decode cX4_mostWorth 44 = .ok (.aload_n 0, 1) := by decide +kernel
theorem dX4_mostWorth_45 : decode cX4_mostWorth 45 = .ok (.aload_n 1, 1) := by decide +kernel
theorem dX4_mostWorth_46 : decode cX4_mostWorth 46 = .ok (.iload_n 2, 1) := by decide +kernel
theorem dX4_mostWorth_47 : decode cX4_mostWorth 47 = .ok (.iload 5, 2) := by decide +kernel
theorem dX4_mostWorth_49 : decode cX4_mostWorth 49 = .ok (.iload_n 3, 1) := by decide +kernel
theorem dX4_mostWorth_50 : decode cX4_mostWorth 50 = .ok (.invokevirtual 67, 3) := by decide +kernel
theorem dX4_mostWorth_53 : decode cX4_mostWorth 53 = .ok (.invokestatic 39, 3) := by decide +kernel
theorem dX4_mostWorth_56 : decode cX4_mostWorth 56 = .ok (.istore 4, 2) := by decide +kernel
theorem dX4_mostWorth_58 : decode cX4_mostWorth 58 = .ok (.iinc 5 1, 3) := by decide +kernel
theorem dX4_mostWorth_61 : decode cX4_mostWorth 61 = .ok (.goto (-43), 3) := by decide +kernel
theorem dX4_mostWorth_64 : decode cX4_mostWorth 64 = .ok (.iload 4, 2) := by decide +kernel
theorem dX4_mostWorth_66 : decode cX4_mostWorth 66 = .ok (.ireturn, 1) := by decide +kernel
theorem dX4_worthWith_0 : decode cX4_worthWith 0 = .ok (.aload_n 1, 1) := by decide +kernel
theorem dX4_worthWith_1 : decode cX4_worthWith 1 = .ok (.getfield 48, 3) := by decide +kernel
theorem dX4_worthWith_4 : decode cX4_worthWith 4 = .ok (.iload_n 2, 1) := by decide +kernel
theorem dX4_worthWith_5 : decode cX4_worthWith 5 = .ok (.iaload, 1) := by decide +kernel
theorem dX4_worthWith_6 : decode cX4_worthWith 6 = .ok (.aload_n 1, 1) := by decide +kernel
theorem dX4_worthWith_7 : decode cX4_worthWith 7 = .ok (.getfield 48, 3) := by decide +kernel
theorem dX4_worthWith_10 : decode cX4_worthWith 10 = .ok (.iload_n 3, 1) := by decide +kernel
theorem dX4_worthWith_11 : decode cX4_worthWith 11 = .ok (.iaload, 1) := by decide +kernel
theorem dX4_worthWith_12 : decode cX4_worthWith 12 = .ok (.if_icmp .le 12, 3) := by decide +kernel
theorem dX4_worthWith_15 : decode cX4_worthWith 15 = .ok (.aload_n 1, 1) := by decide +kernel
theorem dX4_worthWith_16 : decode cX4_worthWith 16 = .ok (.getfield 45, 3) := by decide +kernel
theorem dX4_worthWith_19 : decode cX4_worthWith 19 = .ok (.iload_n 3, 1) := by decide +kernel
theorem dX4_worthWith_20 : decode cX4_worthWith 20 = .ok (.iaload, 1) := by decide +kernel
theorem dX4_worthWith_21 : decode cX4_worthWith 21 = .ok (.goto 4, 3) := by decide +kernel
theorem dX4_worthWith_24 : decode cX4_worthWith 24 = .ok (.iconst 0, 1) := by decide +kernel
theorem dX4_worthWith_25 : decode cX4_worthWith 25 = .ok (.istore 5, 2) := by decide +kernel
theorem dX4_worthWith_27 : decode cX4_worthWith 27 = .ok (.iload 5, 2) := by decide +kernel
theorem dX4_worthWith_29 : decode cX4_worthWith 29 = .ok (.aload_n 0, 1) := by decide +kernel
theorem dX4_worthWith_30 : decode cX4_worthWith 30 = .ok (.getfield 15, 3) := by decide +kernel
theorem dX4_worthWith_33 : decode cX4_worthWith 33 = .ok (.bipush 64, 2) := by decide +kernel
theorem dX4_worthWith_35 : decode cX4_worthWith 35 = .ok (.iload_n 2, 1) := by decide +kernel
theorem dX4_worthWith_36 : decode cX4_worthWith 36 = .ok (.iconst 1, 1) := by decide +kernel
theorem dX4_worthWith_37 : decode cX4_worthWith 37 = .ok (.iadd, 1) := by decide +kernel
theorem dX4_worthWith_38 : decode cX4_worthWith 38 = .ok (.imul, 1) := by decide +kernel
theorem dX4_worthWith_39 : decode cX4_worthWith 39 = .ok (.iload 4, 2) := by decide +kernel
theorem dX4_worthWith_41 : decode cX4_worthWith 41 = .ok (.iconst 1, 1) := by decide +kernel
theorem dX4_worthWith_42 : decode cX4_worthWith 42 = .ok (.iload_n 3, 1) := by decide +kernel
theorem dX4_worthWith_43 : decode cX4_worthWith 43 = .ok (.ishl, 1) := by decide +kernel
theorem dX4_worthWith_44 : decode cX4_worthWith 44 = .ok (.ior, 1) := by decide +kernel
theorem dX4_worthWith_45 : decode cX4_worthWith 45 = .ok (.iadd, 1) := by decide +kernel
theorem dX4_worthWith_46 : decode cX4_worthWith 46 = .ok (.iaload, 1) := by decide +kernel
theorem dX4_worthWith_47 : decode cX4_worthWith 47 = .ok (.iadd, 1) := by decide +kernel
theorem dX4_worthWith_48 : decode cX4_worthWith 48 = .ok (.ireturn, 1) := by decide +kernel
theorem dX4_firstBorrower_0 : decode cX4_firstBorrower 0 = .ok (.aload_n 0, 1) := by decide +kernel
theorem dX4_firstBorrower_1 : decode cX4_firstBorrower 1 = .ok (.getfield 15, 3) := by decide +kernel
theorem dX4_firstBorrower_4 : decode cX4_firstBorrower 4 = .ok (.bipush 64, 2) := by decide +kernel
theorem dX4_firstBorrower_6 : decode cX4_firstBorrower 6 = .ok (.iload_n 2, 1) := by decide +kernel
theorem dX4_firstBorrower_7 : decode cX4_firstBorrower 7 = .ok (.imul, 1) := by decide +kernel
theorem dX4_firstBorrower_8 : decode cX4_firstBorrower 8 = .ok (.iload_n 3, 1) := by decide +kernel
theorem dX4_firstBorrower_9 : decode cX4_firstBorrower 9 = .ok (.iadd, 1) := by decide +kernel
theorem dX4_firstBorrower_10 : decode cX4_firstBorrower 10 = .ok (.iaload, 1) := by decide +kernel
theorem dX4_firstBorrower_11 : decode cX4_firstBorrower 11 = .ok (.istore 4, 2) := by decide +kernel
theorem dX4_firstBorrower_13 : decode cX4_firstBorrower 13 = .ok (.iconst 0, 1) := by decide +kernel
theorem dX4_firstBorrower_14 : decode cX4_firstBorrower 14 = .ok (.istore 5, 2) := by decide +kernel
theorem dX4_firstBorrower_16 : decode cX4_firstBorrower 16 = .ok (.iload 5, 2) := by decide +kernel
theorem dX4_firstBorrower_18 : decode cX4_firstBorrower 18 = .ok (.aload_n 1, 1) := by decide +kernel
theorem dX4_firstBorrower_19 : decode cX4_firstBorrower 19 = .ok (.getfield 25, 3) := by decide +kernel
theorem dX4_firstBorrower_22 : decode cX4_firstBorrower 22 = .ok (.if_icmp .ge 41, 3) := by decide +kernel
theorem dX4_firstBorrower_25 : decode cX4_firstBorrower 25 = .ok (.iload 5, 2) := by decide +kernel
theorem dX4_firstBorrower_27 : decode cX4_firstBorrower 27 = .ok (.iload_n 2, 1) := by decide +kernel
theorem dX4_firstBorrower_28 : decode cX4_firstBorrower 28 = .ok (.if_icmp .eq 29, 3) := by decide +kernel
theorem dX4_firstBorrower_31 : decode cX4_firstBorrower 31 = .ok (.iload_n 3, 1) := by decide +kernel
theorem dX4_firstBorrower_32 : decode cX4_firstBorrower 32 = .ok (.iload 5, 2) := by decide +kernel
theorem dX4_firstBorrower_34 : decode cX4_firstBorrower 34 = .ok (.ishr, 1) := by decide +kernel
theorem dX4_firstBorrower_35 : decode cX4_firstBorrower 35 = .ok (.iconst 1, 1) := by decide +kernel
theorem dX4_firstBorrower_36 : decode cX4_firstBorrower 36 = .ok (.iand, 1) := by decide +kernel
theorem dX4_firstBorrower_37 : decode cX4_firstBorrower 37 = .ok (.ifCond .ne 20, 3) := by decide +kernel
theorem dX4_firstBorrower_40 : decode cX4_firstBorrower 40 = .ok (.aload_n 0, 1) := by decide +kernel
theorem dX4_firstBorrower_41 : decode cX4_firstBorrower 41 = .ok (.aload_n 1, 1) := by decide +kernel
theorem dX4_firstBorrower_42 : decode cX4_firstBorrower 42 = .ok (.iload_n 2, 1) := by decide +kernel
theorem dX4_firstBorrower_43 : decode cX4_firstBorrower 43 = .ok (.iload 5, 2) := by decide +kernel
theorem dX4_firstBorrower_45 : decode cX4_firstBorrower 45 = .ok (.iload_n 3, 1) := by decide +kernel
theorem dX4_firstBorrower_46 : decode cX4_firstBorrower 46 = .ok (.invokevirtual 67, 3) := by decide +kernel
theorem dX4_firstBorrower_49 : decode cX4_firstBorrower 49 = .ok (.iload 4, 2) := by decide +kernel
theorem dX4_firstBorrower_51 : decode cX4_firstBorrower 51 = .ok (.if_icmp .ne 6, 3) := by decide +kernel
theorem dX4_firstBorrower_54 : decode cX4_firstBorrower 54 = .ok (.iload 5, 2) := by decide +kernel
theorem dX4_firstBorrower_56 : decode cX4_firstBorrower 56 = .ok (.ireturn, 1) := by decide +kernel
theorem dX4_firstBorrower_57 : decode cX4_firstBorrower 57 = .ok (.iinc 5 1, 3) := by decide +kernel
theorem dX4_firstBorrower_60 : decode cX4_firstBorrower 60 = .ok (.goto (-44), 3) := by decide +kernel
theorem dX4_firstBorrower_63 : decode cX4_firstBorrower 63 = .ok (.bipush 6, 2) := by decide +kernel
theorem dX4_firstBorrower_65 : decode cX4_firstBorrower 65 = .ok (.ireturn, 1) := by decide +kernel
theorem dX4_longestChain_0 : decode cX4_longestChain 0 = .ok (.iconst 0, 1) := by decide +kernel
theorem dX4_longestChain_1 : decode cX4_longestChain 1 = .ok (.istore_n 3, 1) := by decide +kernel
theorem dX4_longestChain_2 : decode cX4_longestChain 2 = .ok (.iload_n 3, 1) := by decide +kernel
theorem dX4_longestChain_3 : decode cX4_longestChain 3 = .ok (.aload_n 1, 1) := by decide +kernel
theorem dX4_longestChain_4 : decode cX4_longestChain 4 = .ok (.getfield 25, 3) := by decide +kernel
theorem dX4_longestChain_7 : decode cX4_longestChain 7 = .ok (.if_icmp .ge 20, 3) := by decide +kernel
theorem dX4_longestChain_10 : decode cX4_longestChain 10 = .ok (.aload_n 0, 1) := by decide +kernel
theorem dX4_longestChain_11 : decode cX4_longestChain 11 = .ok (.getfield 18, 3) := by decide +kernel
theorem dX4_longestChain_14 : decode cX4_longestChain 14 = .ok (.iload_n 3, 1) := by decide +kernel
theorem dX4_longestChain_15 : decode cX4_longestChain 15 = .ok (.aload_n 1, 1) := by decide +kernel
theorem dX4_longestChain_16 : decode cX4_longestChain 16 = .ok (.iload_n 3, 1) := by decide +kernel
theorem dX4_longestChain_17 : decode cX4_longestChain 17 = .ok (.invokevirtual 71, 3) := by decide +kernel
theorem dX4_longestChain_20 : decode cX4_longestChain 20 = .ok (.iastore, 1) := by decide +kernel
theorem dX4_longestChain_21 : decode cX4_longestChain 21 = .ok (.iinc 3 1, 3) := by decide +kernel
theorem dX4_longestChain_24 : decode cX4_longestChain 24 = .ok (.goto (-22), 3) := by decide +kernel
theorem dX4_longestChain_27 : decode cX4_longestChain 27 = .ok (.iconst 1, 1) := by decide +kernel
theorem dX4_longestChain_28 : decode cX4_longestChain 28 = .ok (.aload_n 1, 1) := by decide +kernel
theorem dX4_longestChain_29 : decode cX4_longestChain 29 = .ok (.getfield 25, 3) := by decide +kernel
theorem dX4_longestChain_32 : decode cX4_longestChain 32 = .ok (.ishl, 1) := by decide +kernel
theorem dX4_longestChain_33 : decode cX4_longestChain 33 = .ok (.iconst 1, 1) := by decide +kernel
theorem dX4_longestChain_34 : decode cX4_longestChain 34 = .ok (.isub, 1) := by decide +kernel
theorem dX4_longestChain_35 : decode cX4_longestChain 35 = .ok (.istore_n 3, 1) := by decide +kernel
theorem dX4_longestChain_36 : decode cX4_longestChain 36 = .ok (.iload_n 3, 1) := by decide +kernel
theorem dX4_longestChain_37 : decode cX4_longestChain 37 = .ok (.ifCond .le 63, 3) := by decide +kernel
theorem dX4_longestChain_40 : decode cX4_longestChain 40 = .ok (.iconst 0, 1) := by decide +kernel
theorem dX4_longestChain_41 : decode cX4_longestChain 41 = .ok (.istore 4, 2) := by decide +kernel
theorem dX4_longestChain_43 : decode cX4_longestChain 43 = .ok (.iload 4, 2) := by decide +kernel
theorem dX4_longestChain_45 : decode cX4_longestChain 45 = .ok (.aload_n 1, 1) := by decide +kernel
theorem dX4_longestChain_46 : decode cX4_longestChain 46 = .ok (.getfield 25, 3) := by decide +kernel
theorem dX4_longestChain_49 : decode cX4_longestChain 49 = .ok (.if_icmp .ge 45, 3) := by decide +kernel
theorem dX4_longestChain_52 : decode cX4_longestChain 52 = .ok (.iload_n 3, 1) := by decide +kernel
theorem dX4_longestChain_53 : decode cX4_longestChain 53 = .ok (.iload 4, 2) := by decide +kernel
theorem dX4_longestChain_55 : decode cX4_longestChain 55 = .ok (.ishr, 1) := by decide +kernel
theorem dX4_longestChain_56 : decode cX4_longestChain 56 = .ok (.iconst 1, 1) := by decide +kernel
theorem dX4_longestChain_57 : decode cX4_longestChain 57 = .ok (.iand, 1) := by decide +kernel
theorem dX4_longestChain_58 : decode cX4_longestChain 58 = .ok (.ifCond .eq 30, 3) := by decide +kernel
theorem dX4_longestChain_61 : decode cX4_longestChain 61 = .ok (.aload_n 0, 1) := by decide +kernel
theorem dX4_longestChain_62 : decode cX4_longestChain 62 = .ok (.getfield 15, 3) := by decide +kernel
theorem dX4_longestChain_65 : decode cX4_longestChain 65 = .ok (.bipush 6, 2) := by decide +kernel
theorem dX4_longestChain_67 : decode cX4_longestChain 67 = .ok (.iload_n 3, 1) := by decide +kernel
theorem dX4_longestChain_68 : decode cX4_longestChain 68 = .ok (.imul, 1) := by decide +kernel
theorem dX4_longestChain_69 : decode cX4_longestChain 69 = .ok (.iload 4, 2) := by decide +kernel
theorem dX4_longestChain_71 : decode cX4_longestChain 71 = .ok (.iadd, 1) := by decide +kernel
theorem dX4_longestChain_72 : decode cX4_longestChain 72 = .ok (.iconst 1, 1) := by decide +kernel
theorem dX4_longestChain_73 : decode cX4_longestChain 73 = .ok (.aload_n 0, 1) := by decide +kernel
theorem dX4_longestChain_74 : decode cX4_longestChain 74 = .ok (.aload_n 1, 1) := by decide +kernel
theorem dX4_longestChain_75 : decode cX4_longestChain 75 = .ok (.aload_n 0, 1) := by decide +kernel
theorem dX4_longestChain_76 : decode cX4_longestChain 76 = .ok (.getfield 18, 3) := by decide +kernel
theorem dX4_longestChain_79 : decode cX4_longestChain 79 = .ok (.iload 4, 2) := by decide +kernel
theorem dX4_longestChain_81 : decode cX4_longestChain 81 = .ok (.iaload, 1) := by decide +kernel
theorem dX4_longestChain_82 : decode cX4_longestChain 82 = .ok (.iload_n 3, 1) := by decide +kernel
theorem dX4_longestChain_83 : decode cX4_longestChain 83 = .ok (.invokevirtual 74, 3) := by decide +kernel
theorem dX4_longestChain_86 : decode cX4_longestChain 86 = .ok (.iadd, 1) := by decide +kernel
theorem dX4_longestChain_87 : decode cX4_longestChain 87 = .ok (.iastore, 1) := by decide +kernel
theorem dX4_longestChain_88 : decode cX4_longestChain 88 = .ok (.iinc 4 1, 3) := by decide +kernel
theorem dX4_longestChain_91 : decode cX4_longestChain 91 = .ok (.goto (-48), 3) := by decide +kernel
theorem dX4_longestChain_94 : decode cX4_longestChain 94 = .ok (.iinc 3 (-1), 3) := by decide +kernel
theorem dX4_longestChain_97 : decode cX4_longestChain 97 = .ok (.goto (-61), 3) := by decide +kernel
theorem dX4_longestChain_100 : decode cX4_longestChain 100 = .ok (.iconst 1, 1) := by decide +kernel
theorem dX4_longestChain_101 : decode cX4_longestChain 101 = .ok (.aload_n 1, 1) := by decide +kernel
theorem dX4_longestChain_102 : decode cX4_longestChain 102 = .ok (.getfield 25, 3) := by decide +kernel
theorem dX4_longestChain_105 : decode cX4_longestChain 105 = .ok (.ishl, 1) := by decide +kernel
theorem dX4_longestChain_106 : decode cX4_longestChain 106 = .ok (.iconst 1, 1) := by decide +kernel
theorem dX4_longestChain_107 : decode cX4_longestChain 107 = .ok (.isub, 1) := by decide +kernel
theorem dX4_longestChain_108 : decode cX4_longestChain 108 = .ok (.istore_n 3, 1) := by decide +kernel
theorem dX4_longestChain_109 : decode cX4_longestChain 109 = .ok (.aload_n 0, 1) := by decide +kernel
theorem dX4_longestChain_110 : decode cX4_longestChain 110 = .ok (.aload_n 1, 1) := by decide +kernel
theorem dX4_longestChain_111 : decode cX4_longestChain 111 = .ok (.iload_n 3, 1) := by decide +kernel
theorem dX4_longestChain_112 : decode cX4_longestChain 112 = .ok (.iconst 0, 1) := by decide +kernel
theorem dX4_longestChain_113 : decode cX4_longestChain 113 = .ok (.invokevirtual 74, 3) := by decide +kernel
theorem dX4_longestChain_116 : decode cX4_longestChain 116 = .ok (.istore 4, 2) := by decide +kernel
theorem dX4_longestChain_118 : decode cX4_longestChain 118 = .ok (.iload_n 2, 1) := by decide +kernel
theorem dX4_longestChain_119 : decode cX4_longestChain 119 = .ok (.iconst (-1), 1) := by decide +kernel
theorem dX4_longestChain_120 : decode cX4_longestChain 120 = .ok (.if_icmp .ne 6, 3) := by decide +kernel
theorem dX4_longestChain_123 : decode cX4_longestChain 123 = .ok (.iload 4, 2) := by decide +kernel
theorem dX4_longestChain_125 : decode cX4_longestChain 125 = .ok (.ireturn, 1) := by decide +kernel
theorem dX4_longestChain_126 : decode cX4_longestChain 126 = .ok (.iload_n 2, 1) := by decide +kernel
theorem dX4_longestChain_127 : decode cX4_longestChain 127 = .ok (.ifCond .lt 9, 3) := by decide +kernel
theorem dX4_longestChain_130 : decode cX4_longestChain 130 = .ok (.iload_n 2, 1) := by decide +kernel
theorem dX4_longestChain_131 : decode cX4_longestChain 131 = .ok (.iload 4, 2) := by decide +kernel
theorem dX4_longestChain_133 : decode cX4_longestChain 133 = .ok (.if_icmp .lt 5, 3) := by decide +kernel
theorem dX4_longestChain_136 : decode cX4_longestChain 136 = .ok (.iconst (-1), 1) := by decide +kernel
theorem dX4_longestChain_137 : decode cX4_longestChain 137 = .ok (.ireturn, 1) := by decide +kernel
theorem dX4_longestChain_138 : decode cX4_longestChain 138 = .ok (.iconst 0, 1) := by decide +kernel
theorem dX4_longestChain_139 : decode cX4_longestChain 139 = .ok (.istore 5, 2) := by decide +kernel
theorem dX4_longestChain_141 : decode cX4_longestChain 141 = .ok (.aload_n 0, 1) := by decide +kernel
theorem dX4_longestChain_142 : decode cX4_longestChain 142 = .ok (.aload_n 1, 1) := by decide +kernel
theorem dX4_longestChain_143 : decode cX4_longestChain 143 = .ok (.iload_n 3, 1) := by decide +kernel
theorem dX4_longestChain_144 : decode cX4_longestChain 144 = .ok (.iload 5, 2) := by decide +kernel
theorem dX4_longestChain_146 : decode cX4_longestChain 146 = .ok (.iload 4, 2) := by decide +kernel
theorem dX4_longestChain_148 : decode cX4_longestChain 148 = .ok (.invokevirtual 77, 3) := by decide +kernel
theorem dX4_longestChain_151 : decode cX4_longestChain 151 = .ok (.istore 6, 2) := by decide +kernel
theorem dX4_longestChain_153 : decode cX4_longestChain 153 = .ok (.iconst 1, 1) := by decide +kernel
theorem dX4_longestChain_154 : decode cX4_longestChain 154 = .ok (.istore 7, 2) := by decide +kernel
theorem dX4_longestChain_156 : decode cX4_longestChain 156 = .ok (.iload 7, 2) := by decide +kernel
theorem dX4_longestChain_158 : decode cX4_longestChain 158 = .ok (.iload_n 2, 1) := by decide +kernel
theorem dX4_longestChain_159 : decode cX4_longestChain 159 = .ok (.if_icmp .gt 45, 3) := by decide +kernel
theorem dX4_longestChain_162 : decode cX4_longestChain 162 = .ok (.iload 6, 2) := by decide +kernel
theorem dX4_longestChain_164 : decode cX4_longestChain 164 = .ok (.iconst (-1), 1) := by decide +kernel
theorem dX4_longestChain_165 : decode cX4_longestChain 165 = .ok (.if_icmp .eq 39, 3) := by decide +kernel
theorem dX4_longestChain_168 : decode cX4_longestChain 168 = .ok (.iload 5, 2) := by decide +kernel
theorem dX4_longestChain_170 : decode cX4_longestChain 170 = .ok (.iconst 1, 1) := by decide +kernel
theorem dX4_longestChain_171 : decode cX4_longestChain 171 = .ok (.iload 6, 2) := by decide +kernel
theorem dX4_longestChain_173 : decode cX4_longestChain 173 = .ok (.ishl, 1) := by decide +kernel
theorem dX4_longestChain_174 : decode cX4_longestChain 174 = .ok (.ior, 1) := by decide +kernel
theorem dX4_longestChain_175 : decode cX4_longestChain 175 = .ok (.istore 5, 2) := by decide +kernel
theorem dX4_longestChain_177 : decode cX4_longestChain 177 = .ok (.aload_n 0, 1) := by decide +kernel
theorem dX4_longestChain_178 : decode cX4_longestChain 178 = .ok (.aload_n 1, 1) := by decide +kernel
theorem dX4_longestChain_179 : decode cX4_longestChain 179 = .ok (.aload_n 0, 1) := by decide +kernel
theorem dX4_longestChain_180 : decode cX4_longestChain 180 = .ok (.getfield 18, 3) := by decide +kernel
theorem dX4_longestChain_183 : decode cX4_longestChain 183 = .ok (.iload 6, 2) := by decide +kernel
theorem dX4_longestChain_185 : decode cX4_longestChain 185 = .ok (.iaload, 1) := by decide +kernel
theorem dX4_longestChain_186 : decode cX4_longestChain 186 = .ok (.iload 5, 2) := by decide +kernel
theorem dX4_longestChain_188 : decode cX4_longestChain 188 = .ok (.iload 4, 2) := by decide +kernel
theorem dX4_longestChain_190 : decode cX4_longestChain 190 = .ok (.iload 7, 2) := by decide +kernel
theorem dX4_longestChain_192 : decode cX4_longestChain 192 = .ok (.isub, 1) := by decide +kernel
theorem dX4_longestChain_193 : decode cX4_longestChain 193 = .ok (.invokevirtual 77, 3) := by decide +kernel
theorem dX4_longestChain_196 : decode cX4_longestChain 196 = .ok (.istore 6, 2) := by decide +kernel
theorem dX4_longestChain_198 : decode cX4_longestChain 198 = .ok (.iinc 7 1, 3) := by decide +kernel
theorem dX4_longestChain_201 : decode cX4_longestChain 201 = .ok (.goto (-45), 3) := by decide +kernel
theorem dX4_longestChain_204 : decode cX4_longestChain 204 = .ok (.iload 6, 2) := by decide +kernel
theorem dX4_longestChain_206 : decode cX4_longestChain 206 = .ok (.ireturn, 1) := by decide +kernel
theorem dX4_longestOf_0 : decode cX4_longestOf 0 = .ok (.iconst 0, 1) := by decide +kernel
theorem dX4_longestOf_1 : decode cX4_longestOf 1 = .ok (.istore 4, 2) := by decide +kernel
theorem dX4_longestOf_3 : decode cX4_longestOf 3 = .ok (.iconst 0, 1) := by decide +kernel
theorem dX4_longestOf_4 : decode cX4_longestOf 4 = .ok (.istore 5, 2) := by decide +kernel
theorem dX4_longestOf_6 : decode cX4_longestOf 6 = .ok (.iload 5, 2) := by decide +kernel
theorem dX4_longestOf_8 : decode cX4_longestOf 8 = .ok (.aload_n 1, 1) := by decide +kernel
theorem dX4_longestOf_9 : decode cX4_longestOf 9 = .ok (.getfield 25, 3) := by decide +kernel
theorem dX4_longestOf_12 : decode cX4_longestOf 12 = .ok (.if_icmp .ge 46, 3) := by decide +kernel
theorem dX4_longestOf_15 : decode cX4_longestOf 15 = .ok (.iload_n 2, 1) := by decide +kernel
theorem dX4_longestOf_16 : decode cX4_longestOf 16 = .ok (.iload_n 3, 1) := by decide +kernel
theorem dX4_longestOf_17 : decode cX4_longestOf 17 = .ok (.iconst (-1), 1) := by decide +kernel
theorem dX4_longestOf_18 : decode cX4_longestOf 18 = .ok (.ixor, 1) := by decide +kernel
theorem dX4_longestOf_19 : decode cX4_longestOf 19 = .ok (.iand, 1) := by decide +kernel
theorem dX4_longestOf_20 : decode cX4_longestOf 20 = .ok (.iconst 1, 1) := by decide +kernel
theorem dX4_longestOf_21 : decode cX4_longestOf 21 = .ok (.iload 5, 2) := by decide +kernel
theorem dX4_longestOf_23 : decode cX4_longestOf 23 = .ok (.ishl, 1) := by decide +kernel
theorem dX4_longestOf_24 : decode cX4_longestOf 24 = .ok (.iand, 1) := by decide +kernel
theorem dX4_longestOf_25 : decode cX4_longestOf 25 = .ok (.ifCond .eq 27, 3) := by decide +kernel
theorem dX4_longestOf_28 : decode cX4_longestOf 28 = .ok (.iload 4, 2) := by decide +kernel
theorem dX4_longestOf_30 : decode cX4_longestOf 30 = .ok (.aload_n 0, 1) := by decide +kernel
theorem dX4_longestOf_31 : decode cX4_longestOf 31 = .ok (.getfield 15, 3) := by decide +kernel
theorem dX4_longestOf_34 : decode cX4_longestOf 34 = .ok (.bipush 6, 2) := by decide +kernel
theorem dX4_longestOf_36 : decode cX4_longestOf 36 = .ok (.iload_n 3, 1) := by decide +kernel
theorem dX4_longestOf_37 : decode cX4_longestOf 37 = .ok (.iconst 1, 1) := by decide +kernel
theorem dX4_longestOf_38 : decode cX4_longestOf 38 = .ok (.iload 5, 2) := by decide +kernel
theorem dX4_longestOf_40 : decode cX4_longestOf 40 = .ok (.ishl, 1) := by decide +kernel
theorem dX4_longestOf_41 : decode cX4_longestOf 41 = .ok (.ior, 1) := by decide +kernel
theorem dX4_longestOf_42 : decode cX4_longestOf 42 = .ok (.imul, 1) := by decide +kernel
theorem dX4_longestOf_43 : decode cX4_longestOf 43 = .ok (.iload 5, 2) := by decide +kernel
theorem dX4_longestOf_45 : decode cX4_longestOf 45 = .ok (.iadd, 1) := by decide +kernel
theorem dX4_longestOf_46 : decode cX4_longestOf 46 = .ok (.iaload, 1) := by decide +kernel
theorem dX4_longestOf_47 : decode cX4_longestOf 47 = .ok (.invokestatic 39, 3) := by decide +kernel
theorem dX4_longestOf_50 : decode cX4_longestOf 50 = .ok (.istore 4, 2) := by decide +kernel
theorem dX4_longestOf_52 : decode cX4_longestOf 52 = .ok (.iinc 5 1, 3) := by decide +kernel
theorem dX4_longestOf_55 : decode cX4_longestOf 55 = .ok (.goto (-49), 3) := by decide +kernel
theorem dX4_longestOf_58 : decode cX4_longestOf 58 = .ok (.iload 4, 2) := by decide +kernel
theorem dX4_longestOf_60 : decode cX4_longestOf 60 = .ok (.ireturn, 1) := by decide +kernel
theorem dX4_firstOf_0 : decode cX4_firstOf 0 = .ok (.iconst 0, 1) := by decide +kernel
theorem dX4_firstOf_1 : decode cX4_firstOf 1 = .ok (.istore 5, 2) := by decide +kernel
theorem dX4_firstOf_3 : decode cX4_firstOf 3 = .ok (.iload 5, 2) := by decide +kernel
theorem dX4_firstOf_5 : decode cX4_firstOf 5 = .ok (.aload_n 1, 1) := by decide +kernel
theorem dX4_firstOf_6 : decode cX4_firstOf 6 = .ok (.getfield 25, 3) := by decide +kernel
theorem dX4_firstOf_9 : decode cX4_firstOf 9 = .ok (.if_icmp .ge 47, 3) := by decide +kernel
theorem dX4_firstOf_12 : decode cX4_firstOf 12 = .ok (.iload_n 2, 1) := by decide +kernel
theorem dX4_firstOf_13 : decode cX4_firstOf 13 = .ok (.iload_n 3, 1) := by decide +kernel
theorem dX4_firstOf_14 : decode cX4_firstOf 14 = .ok (.iconst (-1), 1) := by decide +kernel
theorem dX4_firstOf_15 : decode cX4_firstOf 15 = .ok (.ixor, 1) := by decide +kernel
theorem dX4_firstOf_16 : decode cX4_firstOf 16 = .ok (.iand, 1) := by decide +kernel
theorem dX4_firstOf_17 : decode cX4_firstOf 17 = .ok (.iconst 1, 1) := by decide +kernel
theorem dX4_firstOf_18 : decode cX4_firstOf 18 = .ok (.iload 5, 2) := by decide +kernel
theorem dX4_firstOf_20 : decode cX4_firstOf 20 = .ok (.ishl, 1) := by decide +kernel
theorem dX4_firstOf_21 : decode cX4_firstOf 21 = .ok (.iand, 1) := by decide +kernel
theorem dX4_firstOf_22 : decode cX4_firstOf 22 = .ok (.ifCond .eq 28, 3) := by decide +kernel
theorem dX4_firstOf_25 : decode cX4_firstOf 25 = .ok (.aload_n 0, 1) := by decide +kernel
theorem dX4_firstOf_26 : decode cX4_firstOf 26 = .ok (.getfield 15, 3) := by decide +kernel
theorem dX4_firstOf_29 : decode cX4_firstOf 29 = .ok (.bipush 6, 2) := by decide +kernel
theorem dX4_firstOf_31 : decode cX4_firstOf 31 = .ok (.iload_n 3, 1) := by decide +kernel
theorem dX4_firstOf_32 : decode cX4_firstOf 32 = .ok (.iconst 1, 1) := by decide +kernel
theorem dX4_firstOf_33 : decode cX4_firstOf 33 = .ok (.iload 5, 2) := by decide +kernel
theorem dX4_firstOf_35 : decode cX4_firstOf 35 = .ok (.ishl, 1) := by decide +kernel
theorem dX4_firstOf_36 : decode cX4_firstOf 36 = .ok (.ior, 1) := by decide +kernel
theorem dX4_firstOf_37 : decode cX4_firstOf 37 = .ok (.imul, 1) := by decide +kernel
theorem dX4_firstOf_38 : decode cX4_firstOf 38 = .ok (.iload 5, 2) := by decide +kernel
theorem dX4_firstOf_40 : decode cX4_firstOf 40 = .ok (.iadd, 1) := by decide +kernel
theorem dX4_firstOf_41 : decode cX4_firstOf 41 = .ok (.iaload, 1) := by decide +kernel
theorem dX4_firstOf_42 : decode cX4_firstOf 42 = .ok (.iload 4, 2) := by decide +kernel
theorem dX4_firstOf_44 : decode cX4_firstOf 44 = .ok (.if_icmp .ne 6, 3) := by decide +kernel
theorem dX4_firstOf_47 : decode cX4_firstOf 47 = .ok (.iload 5, 2) := by decide +kernel
theorem dX4_firstOf_49 : decode cX4_firstOf 49 = .ok (.ireturn, 1) := by decide +kernel
theorem dX4_firstOf_50 : decode cX4_firstOf 50 = .ok (.iinc 5 1, 3) := by decide +kernel
theorem dX4_firstOf_53 : decode cX4_firstOf 53 = .ok (.goto (-50), 3) := by decide +kernel
theorem dX4_firstOf_56 : decode cX4_firstOf 56 = .ok (.iconst (-1), 1) := by decide +kernel
theorem dX4_firstOf_57 : decode cX4_firstOf 57 = .ok (.ireturn, 1) := by decide +kernel
theorem dX4_oddsOfTalk_0 : decode cX4_oddsOfTalk 0 = .ok (.aload_n 0, 1) := by decide +kernel
theorem dX4_oddsOfTalk_1 : decode cX4_oddsOfTalk 1 = .ok (.getfield 21, 3) := by decide +kernel
theorem dX4_oddsOfTalk_4 : decode cX4_oddsOfTalk 4 = .ok (.lconst 0, 1) := by decide +kernel
theorem dX4_oddsOfTalk_5 : decode cX4_oddsOfTalk 5 = .ok (.invokestatic 80, 3) := by decide +kernel
theorem dX4_oddsOfTalk_8 : decode cX4_oddsOfTalk 8 = .ok (.aload_n 0, 1) := by decide +kernel
theorem dX4_oddsOfTalk_9 : decode cX4_oddsOfTalk 9 = .ok (.getfield 21, 3) := by decide +kernel
theorem dX4_oddsOfTalk_12 : decode cX4_oddsOfTalk 12 = .ok (.iconst 0, 1) := by decide +kernel
theorem dX4_oddsOfTalk_13 : decode cX4_oddsOfTalk 13 = .ok (.lconst 1, 1) := by decide +kernel
theorem dX4_oddsOfTalk_14 : decode cX4_oddsOfTalk 14 = .ok (.lastore, 1) := by decide +kernel
theorem dX4_oddsOfTalk_15 : decode cX4_oddsOfTalk 15 = .ok (.lconst 1, 1) := by decide +kernel
theorem dX4_oddsOfTalk_16 : decode cX4_oddsOfTalk 16 = .ok (.lstore 5, 2) := by decide +kernel
theorem dX4_oddsOfTalk_18 : decode cX4_oddsOfTalk 18 = .ok (.iconst 1, 1) := by decide +kernel
theorem dX4_oddsOfTalk_19 : decode cX4_oddsOfTalk 19 = .ok (.istore 7, 2) := by decide +kernel
theorem dX4_oddsOfTalk_21 : decode cX4_oddsOfTalk 21 = .ok (.iload 7, 2) := by decide +kernel
theorem dX4_oddsOfTalk_23 : decode cX4_oddsOfTalk 23 = .ok (.iload_n 3, 1) := by decide +kernel
theorem dX4_oddsOfTalk_24 : decode cX4_oddsOfTalk 24 = .ok (.if_icmp .gt 86, 3) := by decide +kernel
theorem dX4_oddsOfTalk_27 : decode cX4_oddsOfTalk 27 = .ok (.iload 7, 2) := by decide +kernel
theorem dX4_oddsOfTalk_29 : decode cX4_oddsOfTalk 29 = .ok (.bipush 12, 2) := by decide +kernel
theorem dX4_oddsOfTalk_31 : decode cX4_oddsOfTalk 31 = .ok (.if_icmp .gt 79, 3) := by decide +kernel
theorem dX4_oddsOfTalk_34 : decode cX4_oddsOfTalk 34 = .ok (.lload 5, 2) := by decide +kernel
theorem dX4_oddsOfTalk_36 : decode cX4_oddsOfTalk 36 = .ok (.ldc2_w 83, 3) := by decide +kernel
theorem dX4_oddsOfTalk_39 : decode cX4_oddsOfTalk 39 = .ok (.lmul, 1) := by decide +kernel
theorem dX4_oddsOfTalk_40 : decode cX4_oddsOfTalk 40 = .ok (.lstore 5, 2) := by decide +kernel
theorem dX4_oddsOfTalk_42 : decode cX4_oddsOfTalk 42 = .ok (.iload 7, 2) := by decide +kernel
theorem dX4_oddsOfTalk_44 : decode cX4_oddsOfTalk 44 = .ok (.istore 8, 2) := by decide +kernel
theorem dX4_oddsOfTalk_46 : decode cX4_oddsOfTalk 46 = .ok (.iload 8, 2) := by decide +kernel
theorem dX4_oddsOfTalk_48 : decode cX4_oddsOfTalk 48 = .ok (.ifCond .le 42, 3) := by decide +kernel
theorem dX4_oddsOfTalk_51 : decode cX4_oddsOfTalk 51 = .ok (.aload_n 0, 1) := by decide +kernel
theorem dX4_oddsOfTalk_52 : decode cX4_oddsOfTalk 52 = .ok (.getfield 21, 3) := by decide +kernel
theorem dX4_oddsOfTalk_55 : decode cX4_oddsOfTalk 55 = .ok (.iload 8, 2) := by decide +kernel
theorem dX4_oddsOfTalk_57 : decode cX4_oddsOfTalk 57 = .ok (.aload_n 0, 1) := by decide +kernel
theorem dX4_oddsOfTalk_58 : decode cX4_oddsOfTalk 58 = .ok (.getfield 21, 3) := by decide +kernel
theorem dX4_oddsOfTalk_61 : decode cX4_oddsOfTalk 61 = .ok (.iload 8, 2) := by decide +kernel
theorem dX4_oddsOfTalk_63 : decode cX4_oddsOfTalk 63 = .ok (.laload, 1) := by decide +kernel
theorem dX4_oddsOfTalk_64 : decode cX4_oddsOfTalk 64 = .ok (.bipush 10, 2) := by decide +kernel
theorem dX4_oddsOfTalk_66 : decode cX4_oddsOfTalk 66 = .ok (.iload_n 2, 1) := by decide +kernel
theorem dX4_oddsOfTalk_67 : decode cX4_oddsOfTalk 67 = .ok (.isub, 1) := by decide +kernel
theorem dX4_oddsOfTalk_68 : decode cX4_oddsOfTalk 68 = .ok (.i2l, 1) := by decide +kernel
theorem dX4_oddsOfTalk_69 : decode cX4_oddsOfTalk 69 = .ok (.lmul, 1) := by decide +kernel
theorem dX4_oddsOfTalk_70 : decode cX4_oddsOfTalk 70 = .ok (.aload_n 0, 1) := by decide +kernel
theorem dX4_oddsOfTalk_71 : decode cX4_oddsOfTalk 71 = .ok (.getfield 21, 3) := by decide +kernel
theorem dX4_oddsOfTalk_74 : decode cX4_oddsOfTalk 74 = .ok (.iload 8, 2) := by decide +kernel
theorem dX4_oddsOfTalk_76 : decode cX4_oddsOfTalk 76 = .ok (.iconst 1, 1) := by decide +kernel
theorem dX4_oddsOfTalk_77 : decode cX4_oddsOfTalk 77 = .ok (.isub, 1) := by decide +kernel
theorem dX4_oddsOfTalk_78 : decode cX4_oddsOfTalk 78 = .ok (.laload, 1) := by decide +kernel
theorem dX4_oddsOfTalk_79 : decode cX4_oddsOfTalk 79 = .ok (.iload_n 2, 1) := by decide +kernel
theorem dX4_oddsOfTalk_80 : decode cX4_oddsOfTalk 80 = .ok (.i2l, 1) := by decide +kernel
theorem dX4_oddsOfTalk_81 : decode cX4_oddsOfTalk 81 = .ok (.lmul, 1) := by decide +kernel
theorem dX4_oddsOfTalk_82 : decode cX4_oddsOfTalk 82 = .ok (.ladd, 1) := by decide +kernel
theorem dX4_oddsOfTalk_83 : decode cX4_oddsOfTalk 83 = .ok (.lastore, 1) := by decide +kernel
theorem dX4_oddsOfTalk_84 : decode cX4_oddsOfTalk 84 = .ok (.iinc 8 (-1), 3) := by decide +kernel
theorem dX4_oddsOfTalk_87 : decode cX4_oddsOfTalk 87 = .ok (.goto (-41), 3) := by decide +kernel
theorem dX4_oddsOfTalk_90 : decode cX4_oddsOfTalk 90 = .ok (.aload_n 0, 1) := by decide +kernel
theorem dX4_oddsOfTalk_91 : decode cX4_oddsOfTalk 91 = .ok (.getfield 21, 3) := by decide +kernel
theorem dX4_oddsOfTalk_94 : decode cX4_oddsOfTalk 94 = .ok (.iconst 0, 1) := by decide +kernel
theorem dX4_oddsOfTalk_95 : decode cX4_oddsOfTalk 95 = .ok (.dup2, 1) := by decide +kernel
theorem dX4_oddsOfTalk_96 : decode cX4_oddsOfTalk 96 = .ok (.laload, 1) := by decide +kernel
theorem dX4_oddsOfTalk_97 : decode cX4_oddsOfTalk 97 = .ok (.bipush 10, 2) := by decide +kernel
theorem dX4_oddsOfTalk_99 : decode cX4_oddsOfTalk 99 = .ok (.iload_n 2, 1) := by decide +kernel
theorem dX4_oddsOfTalk_100 : decode cX4_oddsOfTalk 100 = .ok (.isub, 1) := by decide +kernel
theorem dX4_oddsOfTalk_101 : decode cX4_oddsOfTalk 101 = .ok (.i2l, 1) := by decide +kernel
theorem dX4_oddsOfTalk_102 : decode cX4_oddsOfTalk 102 = .ok (.lmul, 1) := by decide +kernel
theorem dX4_oddsOfTalk_103 : decode cX4_oddsOfTalk 103 = .ok (.lastore, 1) := by decide +kernel
theorem dX4_oddsOfTalk_104 : decode cX4_oddsOfTalk 104 = .ok (.iinc 7 1, 3) := by decide +kernel
theorem dX4_oddsOfTalk_107 : decode cX4_oddsOfTalk 107 = .ok (.goto (-86), 3) := by decide +kernel
theorem dX4_oddsOfTalk_110 : decode cX4_oddsOfTalk 110 = .ok (.lconst 0, 1) := by decide +kernel
theorem dX4_oddsOfTalk_111 : decode cX4_oddsOfTalk 111 = .ok (.lstore 7, 2) := by decide +kernel
theorem dX4_oddsOfTalk_113 : decode cX4_oddsOfTalk 113 = .ok (.iload_n 1, 1) := by decide +kernel
theorem dX4_oddsOfTalk_114 : decode cX4_oddsOfTalk 114 = .ok (.istore 9, 2) := by decide +kernel
theorem dX4_oddsOfTalk_116 : decode cX4_oddsOfTalk 116 = .ok (.iload 9, 2) := by decide +kernel
theorem dX4_oddsOfTalk_118 : decode cX4_oddsOfTalk 118 = .ok (.iload_n 3, 1) := by decide +kernel
theorem dX4_oddsOfTalk_119 : decode cX4_oddsOfTalk 119 = .ok (.if_icmp .gt 37, 3) := by decide +kernel
theorem dX4_oddsOfTalk_122 : decode cX4_oddsOfTalk 122 = .ok (.iload 9, 2) := by decide +kernel
theorem dX4_oddsOfTalk_124 : decode cX4_oddsOfTalk 124 = .ok (.bipush 12, 2) := by decide +kernel
theorem dX4_oddsOfTalk_126 : decode cX4_oddsOfTalk 126 = .ok (.if_icmp .gt 30, 3) := by decide +kernel
theorem dX4_oddsOfTalk_129 : decode cX4_oddsOfTalk 129 = .ok (.lload 7, 2) := by decide +kernel
theorem dX4_oddsOfTalk_131 : decode cX4_oddsOfTalk 131 = .ok (.iload 9, 2) := by decide +kernel
theorem dX4_oddsOfTalk_133 : decode cX4_oddsOfTalk 133 = .ok (.ifCond .ge 7, 3) := by decide +kernel
theorem dX4_oddsOfTalk_136 : decode cX4_oddsOfTalk 136 = .ok (.lconst 0, 1) := by decide +kernel
theorem dX4_oddsOfTalk_137 : decode cX4_oddsOfTalk 137 = .ok (.goto 10, 3) := by decide +kernel
theorem dX4_oddsOfTalk_140 : decode cX4_oddsOfTalk 140 = .ok (.aload_n 0, 1) := by decide +kernel
theorem dX4_oddsOfTalk_141 : decode cX4_oddsOfTalk 141 = .ok (.getfield 21, 3) := by decide +kernel
theorem dX4_oddsOfTalk_144 : decode cX4_oddsOfTalk 144 = .ok (.iload 9, 2) := by decide +kernel
theorem dX4_oddsOfTalk_146 : decode cX4_oddsOfTalk 146 = .ok (.laload, 1) := by decide +kernel
theorem dX4_oddsOfTalk_147 : decode cX4_oddsOfTalk 147 = .ok (.ladd, 1) := by decide +kernel
theorem dX4_oddsOfTalk_148 : decode cX4_oddsOfTalk 148 = .ok (.lstore 7, 2) := by decide +kernel
theorem dX4_oddsOfTalk_150 : decode cX4_oddsOfTalk 150 = .ok (.iinc 9 1, 3) := by decide +kernel
theorem dX4_oddsOfTalk_153 : decode cX4_oddsOfTalk 153 = .ok (.goto (-37), 3) := by decide +kernel
theorem dX4_oddsOfTalk_156 : decode cX4_oddsOfTalk 156 = .ok (.lload 7, 2) := by decide +kernel
theorem dX4_oddsOfTalk_158 : decode cX4_oddsOfTalk 158 = .ok (.lload 5, 2) := by decide +kernel
theorem dX4_oddsOfTalk_160 : decode cX4_oddsOfTalk 160 = .ok (.iload 4, 2) := by decide +kernel
theorem dX4_oddsOfTalk_162 : decode cX4_oddsOfTalk 162 = .ok (.invokestatic 85, 3) := by decide +kernel
theorem dX4_oddsOfTalk_165 : decode cX4_oddsOfTalk 165 = .ok (.lreturn, 1) := by decide +kernel
