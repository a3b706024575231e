theorem dX5_init_0 : decode cX5_init 0 = .ok (.aload_n 0, 1) := by decide +kernel
theorem dX5_init_1 : decode cX5_init 1 = .ok (.invokespecial 3, 3) := by decide +kernel
theorem dX5_init_4 : decode cX5_init 4 = .ok (.aload_n 0, 1) := by decide +kernel
theorem dX5_init_5 : decode cX5_init 5 = .ok (.new 9, 3) := by decide +kernel
theorem dX5_init_8 : decode cX5_init 8 = .ok (.dup, 1) := by decide +kernel
theorem dX5_init_9 : decode cX5_init 9 = .ok (.invokespecial 11, 3) := by decide +kernel
theorem dX5_init_12 : decode cX5_init 12 = .ok (.putfield 12, 3) := by decide +kernel
theorem dX5_init_15 : decode cX5_init 15 = .ok (.aload_n 0, 1) := by decide +kernel
theorem dX5_init_16 : decode cX5_init 16 = .ok (.new 18, 3) := by decide +kernel
theorem dX5_init_19 : decode cX5_init 19 = .ok (.dup, 1) := by decide +kernel
theorem dX5_init_20 : decode cX5_init 20 = .ok (.invokespecial 20, 3) := by decide +kernel
theorem dX5_init_23 : decode cX5_init 23 = .ok (.putfield 21, 3) := by decide +kernel
theorem dX5_init_26 : decode cX5_init 26 = .ok (.aload_n 0, 1) := by decide +kernel
theorem dX5_init_27 : decode cX5_init 27 = .ok (.new 25, 3) := by decide +kernel
theorem dX5_init_30 : decode cX5_init 30 = .ok (.dup, 1) := by decide +kernel
theorem dX5_init_31 : decode cX5_init 31 = .ok (.invokespecial 27, 3) := by decide +kernel
theorem dX5_init_34 : decode cX5_init 34 = .ok (.putfield 28, 3) := by decide +kernel
theorem dX5_init_37 : decode cX5_init 37 = .ok (.aload_n 0, 1) := by decide +kernel
theorem dX5_init_38 : decode cX5_init 38 = .ok (.iconst 0, 1) := by decide +kernel
theorem dX5_init_39 : decode cX5_init 39 = .ok (.putfield 32, 3) := by decide +kernel
theorem dX5_init_42 : decode cX5_init 42 = .ok (.aload_n 0, 1) := by decide +kernel
theorem dX5_init_43 : decode cX5_init 43 = .ok (.iconst (-1), 1) := by decide +kernel
theorem dX5_init_44 : decode cX5_init 44 = .ok (.putfield 36, 3) := by decide +kernel
theorem dX5_init_47 : decode cX5_init 47 = .ok (.aload_n 0, 1) := by decide +kernel
theorem dX5_init_48 : decode cX5_init 48 = .ok (.iconst 3, 1) := by decide +kernel
theorem dX5_init_49 : decode cX5_init 49 = .ok (.newarray .int, 2) := by decide +kernel
theorem dX5_init_51 : decode cX5_init 51 = .ok (.putfield 39, 3) := by decide +kernel
theorem dX5_init_54 : decode cX5_init 54 = .ok (.aload_n 0, 1) := by decide +kernel
theorem dX5_init_55 : decode cX5_init 55 = .ok (.iconst 0, 1) := by decide +kernel
theorem dX5_init_56 : decode cX5_init 56 = .ok (.putfield 43, 3) := by decide +kernel
theorem dX5_init_59 : decode cX5_init 59 = .ok (.aload_n 0, 1) := by decide +kernel
theorem dX5_init_60 : decode cX5_init 60 = .ok (.iconst 0, 1) := by decide +kernel
theorem dX5_init_61 : decode cX5_init 61 = .ok (.putfield 46, 3) := by decide +kernel
theorem dX5_init_64 : decode cX5_init 64 = .ok (.aload_n 0, 1) := by decide +kernel
theorem dX5_init_65 : decode cX5_init 65 = .ok (.iconst 0, 1) := by decide +kernel
theorem dX5_init_66 : decode cX5_init 66 = .ok (.putfield 49, 3) := by decide +kernel
theorem dX5_init_69 : decode cX5_init 69 = .ok (.aload_n 0, 1) := by decide +kernel
theorem dX5_init_70 : decode cX5_init 70 = .ok (.iconst 0, 1) := by decide +kernel
theorem dX5_init_71 : decode cX5_init 71 = .ok (.putfield 52, 3) := by decide +kernel
theorem dX5_init_74 : decode cX5_init 74 = .ok (.aload_n 0, 1) := by decide +kernel
theorem dX5_init_75 : decode cX5_init 75 = .ok (.iconst 0, 1) := by decide +kernel
theorem dX5_init_76 : decode cX5_init 76 = .ok (.putfield 55, 3) := by decide +kernel
theorem dX5_init_79 : decode cX5_init 79 = .ok (.aload_n 0, 1) := by decide +kernel
theorem dX5_init_80 : decode cX5_init 80 = .ok (.iconst 0, 1) := by decide +kernel
theorem dX5_init_81 : decode cX5_init 81 = .ok (.putfield 58, 3) := by decide +kernel
theorem dX5_init_84 : decode cX5_init 84 = .ok (.aload_n 0, 1) := by decide +kernel
theorem dX5_init_85 : decode cX5_init 85 = .ok (.aload_n 1, 1) := by decide +kernel
theorem dX5_init_86 : decode cX5_init 86 = .ok (.putfield 61, 3) := by decide +kernel
theorem dX5_init_89 : decode cX5_init 89 = .ok (.return_, 1) := by decide +kernel
theorem dX5_read_0 : decode cX5_read 0 = .ok (.aload_n 0, 1) := by decide +kernel
theorem dX5_read_1 : decode cX5_read 1 = .ok (.iload_n 2, 1) := by decide +kernel
theorem dX5_read_2 : decode cX5_read 2 = .ok (.invokevirtual 65, 3) := by decide +kernel
theorem dX5_read_5 : decode cX5_read 5 = .ok (.aload_n 0, 1) := by decide +kernel
theorem dX5_read_6 : decode cX5_read 6 = .ok (.invokevirtual 69, 3) := by decide +kernel
theorem dX5_read_9 : decode cX5_read 9 = .ok (.iconst 0, 1) := by decide +kernel
theorem dX5_read_10 : decode cX5_read 10 = .ok (.istore_n 3, 1) := by decide +kernel
theorem dX5_read_11 : decode cX5_read 11 = .ok (.iload_n 3, 1) := by decide +kernel
theorem dX5_read_12 : decode cX5_read 12 = .ok (.sipush 600, 3) := by decide +kernel
theorem dX5_read_15 : decode cX5_read 15 = .ok (.if_icmp .gt 29, 3) := by decide +kernel
theorem dX5_read_18 : decode cX5_read 18 = .ok (.aload_n 0, 1) := by decide +kernel
theorem dX5_read_19 : decode cX5_read 19 = .ok (.getfield 52, 3) := by decide +kernel
theorem dX5_read_22 : decode cX5_read 22 = .ok (.ifCond .eq 22, 3) := by decide +kernel
theorem dX5_read_25 : decode cX5_read 25 = .ok (.aload_n 0, 1) := by decide +kernel
theorem dX5_read_26 : decode cX5_read 26 = .ok (.getfield 32, 3) := by decide +kernel
theorem dX5_read_29 : decode cX5_read 29 = .ok (.iconst 1, 1) := by decide +kernel
theorem dX5_read_30 : decode cX5_read 30 = .ok (.if_icmp .eq 14, 3) := by decide +kernel
theorem dX5_read_33 : decode cX5_read 33 = .ok (.aload_n 0, 1) := by decide +kernel
theorem dX5_read_34 : decode cX5_read 34 = .ok (.iload_n 1, 1) := by decide +kernel
theorem dX5_read_35 : decode cX5_read 35 = .ok (.invokevirtual 72, 3) := by decide +kernel
theorem dX5_read_38 : decode cX5_read 38 = .ok (.iinc 3 1, 3) := by decide +kernel
theorem dX5_read_41 : decode cX5_read 41 = .ok (.goto (-30), 3) := by decide +kernel
theorem dX5_read_44 : decode cX5_read 44 = .ok (.aload_n 0, 1) := by decide +kernel
theorem dX5_read_45 : decode cX5_read 45 = .ok (.getfield 32, 3) := by decide +kernel
theorem dX5_read_48 : decode cX5_read 48 = .ok (.ifCond .ne 31, 3) := by decide +kernel
theorem dX5_read_51 : decode cX5_read 51 = .ok (.iload_n 1, 1) := by decide +kernel
theorem dX5_read_52 : decode cX5_read 52 = .ok (.ifCond .ne 27, 3) := by decide +kernel
theorem dX5_read_55 : decode cX5_read 55 = .ok (.aload_n 0, 1) := by decide +kernel
theorem dX5_read_56 : decode cX5_read 56 = .ok (.getfield 58, 3) := by decide +kernel
theorem dX5_read_59 : decode cX5_read 59 = .ok (.aload_n 0, 1) := by decide +kernel
theorem dX5_read_60 : decode cX5_read 60 = .ok (.getfield 12, 3) := by decide +kernel
theorem dX5_read_63 : decode cX5_read 63 = .ok (.getfield 75, 3) := by decide +kernel
theorem dX5_read_66 : decode cX5_read 66 = .ok (.ishr, 1) := by decide +kernel
theorem dX5_read_67 : decode cX5_read 67 = .ok (.ifCond .eq 12, 3) := by decide +kernel
theorem dX5_read_70 : decode cX5_read 70 = .ok (.aload_n 0, 1) := by decide +kernel
theorem dX5_read_71 : decode cX5_read 71 = .ok (.iconst 4, 1) := by decide +kernel
theorem dX5_read_72 : decode cX5_read 72 = .ok (.aload_n 0, 1) := by decide +kernel
theorem dX5_read_73 : decode cX5_read 73 = .ok (.getfield 43, 3) := by decide +kernel
theorem dX5_read_76 : decode cX5_read 76 = .ok (.invokevirtual 78, 3) := by decide +kernel
theorem dX5_read_79 : decode cX5_read 79 = .ok (.return_, 1) := by decide +kernel
theorem dX5_begin_0 : decode cX5_begin 0 = .ok (.aload_n 0, 1) := by decide +kernel
theorem dX5_begin_1 : decode cX5_begin 1 = .ok (.iload_n 1, 1) := by decide +kernel
theorem dX5_begin_2 : decode cX5_begin 2 = .ok (.aload_n 0, 1) := by decide +kernel
theorem dX5_begin_3 : decode cX5_begin 3 = .ok (.getfield 61, 3) := by decide +kernel
theorem dX5_begin_6 : decode cX5_begin 6 = .ok (.arraylength, 1) := by decide +kernel
theorem dX5_begin_7 : decode cX5_begin 7 = .ok (.invokestatic 82, 3) := by decide +kernel
theorem dX5_begin_10 : decode cX5_begin 10 = .ok (.putfield 43, 3) := by decide +kernel
theorem dX5_begin_13 : decode cX5_begin 13 = .ok (.aload_n 0, 1) := by decide +kernel
theorem dX5_begin_14 : decode cX5_begin 14 = .ok (.iconst 0, 1) := by decide +kernel
theorem dX5_begin_15 : decode cX5_begin 15 = .ok (.putfield 46, 3) := by decide +kernel
theorem dX5_begin_18 : decode cX5_begin 18 = .ok (.aload_n 0, 1) := by decide +kernel
theorem dX5_begin_19 : decode cX5_begin 19 = .ok (.iconst 0, 1) := by decide +kernel
theorem dX5_begin_20 : decode cX5_begin 20 = .ok (.putfield 32, 3) := by decide +kernel
theorem dX5_begin_23 : decode cX5_begin 23 = .ok (.aload_n 0, 1) := by decide +kernel
theorem dX5_begin_24 : decode cX5_begin 24 = .ok (.iconst (-1), 1) := by decide +kernel
theorem dX5_begin_25 : decode cX5_begin 25 = .ok (.putfield 36, 3) := by decide +kernel
theorem dX5_begin_28 : decode cX5_begin 28 = .ok (.aload_n 0, 1) := by decide +kernel
theorem dX5_begin_29 : decode cX5_begin 29 = .ok (.iconst 0, 1) := by decide +kernel
theorem dX5_begin_30 : decode cX5_begin 30 = .ok (.putfield 58, 3) := by decide +kernel
theorem dX5_begin_33 : decode cX5_begin 33 = .ok (.aload_n 0, 1) := by decide +kernel
theorem dX5_begin_34 : decode cX5_begin 34 = .ok (.getfield 12, 3) := by decide +kernel
theorem dX5_begin_37 : decode cX5_begin 37 = .ok (.invokevirtual 88, 3) := by decide +kernel
theorem dX5_begin_40 : decode cX5_begin 40 = .ok (.aload_n 0, 1) := by decide +kernel
theorem dX5_begin_41 : decode cX5_begin 41 = .ok (.getfield 21, 3) := by decide +kernel
theorem dX5_begin_44 : decode cX5_begin 44 = .ok (.iconst 0, 1) := by decide +kernel
theorem dX5_begin_45 : decode cX5_begin 45 = .ok (.putfield 91, 3) := by decide +kernel
theorem dX5_begin_48 : decode cX5_begin 48 = .ok (.aload_n 0, 1) := by decide +kernel
theorem dX5_begin_49 : decode cX5_begin 49 = .ok (.getfield 28, 3) := by decide +kernel
theorem dX5_begin_52 : decode cX5_begin 52 = .ok (.iconst 0, 1) := by decide +kernel
theorem dX5_begin_53 : decode cX5_begin 53 = .ok (.putfield 94, 3) := by decide +kernel
theorem dX5_begin_56 : decode cX5_begin 56 = .ok (.return_, 1) := by decide +kernel
theorem dX5_note_0 : decode cX5_note 0 = .ok (.aload_n 0, 1) := by decide +kernel
theorem dX5_note_1 : decode cX5_note 1 = .ok (.getfield 32, 3) := by decide +kernel
theorem dX5_note_4 : decode cX5_note 4 = .ok (.ifCond .ne 13, 3) := by decide +kernel
theorem dX5_note_7 : decode cX5_note 7 = .ok (.aload_n 0, 1) := by decide +kernel
theorem dX5_note_8 : decode cX5_note 8 = .ok (.iload_n 1, 1) := by decide +kernel
theorem dX5_note_9 : decode cX5_note 9 = .ok (.putfield 32, 3) := by decide +kernel
theorem dX5_note_12 : decode cX5_note 12 = .ok (.aload_n 0, 1) := by decide +kernel
theorem dX5_note_13 : decode cX5_note 13 = .ok (.iload_n 2, 1) := by decide +kernel
theorem dX5_note_14 : decode cX5_note 14 = .ok (.putfield 36, 3) := by decide +kernel
theorem dX5_note_17 : decode cX5_note 17 = .ok (.return_, 1) := by decide +kernel
theorem dX5_stop_0 : decode cX5_stop 0 = .ok (.aload_n 0, 1) := by decide +kernel
theorem dX5_stop_1 : decode cX5_stop 1 = .ok (.iconst 1, 1) := by decide +kernel
theorem dX5_stop_2 : decode cX5_stop 2 = .ok (.putfield 32, 3) := by decide +kernel
theorem dX5_stop_5 : decode cX5_stop 5 = .ok (.aload_n 0, 1) := by decide +kernel
theorem dX5_stop_6 : decode cX5_stop 6 = .ok (.aload_n 0, 1) := by decide +kernel
theorem dX5_stop_7 : decode cX5_stop 7 = .ok (.getfield 49, 3) := by decide +kernel
theorem dX5_stop_10 : decode cX5_stop 10 = .ok (.putfield 36, 3) := by decide +kernel
theorem dX5_stop_13 : decode cX5_stop 13 = .ok (.return_, 1) := by decide +kernel
theorem dX5_readLine_0 : decode cX5_readLine 0 = .ok (.aload_n 0, 1) := by decide +kernel
theorem dX5_readLine_1 : decode cX5_readLine 1 = .ok (.iload_n 1, 1) := by decide +kernel
theorem dX5_readLine_2 : decode cX5_readLine 2 = .ok (.invokevirtual 97, 3) := by decide +kernel
theorem dX5_readLine_5 : decode cX5_readLine 5 = .ok (.istore_n 2, 1) := by decide +kernel
theorem dX5_readLine_6 : decode cX5_readLine 6 = .ok (.iload_n 2, 1) := by decide +kernel
theorem dX5_readLine_7 : decode cX5_readLine 7 = .ok (.iconst (-1), 1) := by decide +kernel
theorem dX5_readLine_8 : decode cX5_readLine 8 = .ok (.if_icmp .ne 8, 3) := by decide +kernel
theorem dX5_readLine_11 : decode cX5_readLine 11 = .ok (.aload_n 0, 1) := by decide +kernel
theorem dX5_readLine_12 : decode cX5_readLine 12 = .ok (.invokevirtual 101, 3) := by decide +kernel
theorem dX5_readLine_15 : decode cX5_readLine 15 = .ok (.return_, 1) := by decide +kernel
theorem dX5_readLine_16 : decode cX5_readLine 16 = .ok (.aload_n 0, 1) := by decide +kernel
theorem dX5_readLine_17 : decode cX5_readLine 17 = .ok (.iload_n 1, 1) := by decide +kernel
theorem dX5_readLine_18 : decode cX5_readLine 18 = .ok (.iload_n 2, 1) := by decide +kernel
theorem dX5_readLine_19 : decode cX5_readLine 19 = .ok (.invokevirtual 104, 3) := by decide +kernel
theorem dX5_readLine_22 : decode cX5_readLine 22 = .ok (.ifCond .eq 12, 3) := by decide +kernel
theorem dX5_readLine_25 : decode cX5_readLine 25 = .ok (.aload_n 0, 1) := by decide +kernel
theorem dX5_readLine_26 : decode cX5_readLine 26 = .ok (.iconst 3, 1) := by decide +kernel
theorem dX5_readLine_27 : decode cX5_readLine 27 = .ok (.aload_n 0, 1) := by decide +kernel
theorem dX5_readLine_28 : decode cX5_readLine 28 = .ok (.getfield 49, 3) := by decide +kernel
theorem dX5_readLine_31 : decode cX5_readLine 31 = .ok (.invokevirtual 78, 3) := by decide +kernel
theorem dX5_readLine_34 : decode cX5_readLine 34 = .ok (.aload_n 0, 1) := by decide +kernel
theorem dX5_readLine_35 : decode cX5_readLine 35 = .ok (.getfield 39, 3) := by decide +kernel
theorem dX5_readLine_38 : decode cX5_readLine 38 = .ok (.iconst (-1), 1) := by decide +kernel
theorem dX5_readLine_39 : decode cX5_readLine 39 = .ok (.invokestatic 108, 3) := by decide +kernel
theorem dX5_readLine_42 : decode cX5_readLine 42 = .ok (.iload_n 1, 1) := by decide +kernel
theorem dX5_readLine_43 : decode cX5_readLine 43 = .ok (.iload_n 2, 1) := by decide +kernel
theorem dX5_readLine_44 : decode cX5_readLine 44 = .ok (.invokestatic 114, 3) := by decide +kernel
theorem dX5_readLine_47 : decode cX5_readLine 47 = .ok (.istore_n 3, 1) := by decide +kernel
theorem dX5_readLine_48 : decode cX5_readLine 48 = .ok (.iconst 0, 1) := by decide +kernel
theorem dX5_readLine_49 : decode cX5_readLine 49 = .ok (.istore 4, 2) := by decide +kernel
theorem dX5_readLine_51 : decode cX5_readLine 51 = .ok (.iload 4, 2) := by decide +kernel
theorem dX5_readLine_53 : decode cX5_readLine 53 = .ok (.iload_n 3, 1) := by decide +kernel
theorem dX5_readLine_54 : decode cX5_readLine 54 = .ok (.if_icmp .ge 57, 3) := by decide +kernel
theorem dX5_readLine_57 : decode cX5_readLine 57 = .ok (.aload_n 0, 1) := by decide +kernel
theorem dX5_readLine_58 : decode cX5_readLine 58 = .ok (.invokevirtual 69, 3) := by decide +kernel
theorem dX5_readLine_61 : decode cX5_readLine 61 = .ok (.aload_n 0, 1) := by decide +kernel
theorem dX5_readLine_62 : decode cX5_readLine 62 = .ok (.getfield 52, 3) := by decide +kernel
theorem dX5_readLine_65 : decode cX5_readLine 65 = .ok (.iconst 2, 1) := by decide +kernel
theorem dX5_readLine_66 : decode cX5_readLine 66 = .ok (.if_icmp .eq 8, 3) := by decide +kernel
theorem dX5_readLine_69 : decode cX5_readLine 69 = .ok (.aload_n 0, 1) := by decide +kernel
theorem dX5_readLine_70 : decode cX5_readLine 70 = .ok (.invokevirtual 101, 3) := by decide +kernel
theorem dX5_readLine_73 : decode cX5_readLine 73 = .ok (.return_, 1) := by decide +kernel
theorem dX5_readLine_74 : decode cX5_readLine 74 = .ok (.aload_n 0, 1) := by decide +kernel
theorem dX5_readLine_75 : decode cX5_readLine 75 = .ok (.getfield 39, 3) := by decide +kernel
theorem dX5_readLine_78 : decode cX5_readLine 78 = .ok (.iload 4, 2) := by decide +kernel
theorem dX5_readLine_80 : decode cX5_readLine 80 = .ok (.aload_n 0, 1) := by decide +kernel
theorem dX5_readLine_81 : decode cX5_readLine 81 = .ok (.getfield 55, 3) := by decide +kernel
theorem dX5_readLine_84 : decode cX5_readLine 84 = .ok (.iastore, 1) := by decide +kernel
theorem dX5_readLine_85 : decode cX5_readLine 85 = .ok (.aload_n 0, 1) := by decide +kernel
theorem dX5_readLine_86 : decode cX5_readLine 86 = .ok (.iload_n 1, 1) := by decide +kernel
theorem dX5_readLine_87 : decode cX5_readLine 87 = .ok (.iload_n 2, 1) := by decide +kernel
theorem dX5_readLine_88 : decode cX5_readLine 88 = .ok (.iload 4, 2) := by decide +kernel
theorem dX5_readLine_90 : decode cX5_readLine 90 = .ok (.invokevirtual 117, 3) := by decide +kernel
theorem dX5_readLine_93 : decode cX5_readLine 93 = .ok (.ifCond .ne 12, 3) := by decide +kernel
theorem dX5_readLine_96 : decode cX5_readLine 96 = .ok (.aload_n 0, 1) := by decide +kernel
theorem dX5_readLine_97 : decode cX5_readLine 97 = .ok (.iconst 2, 1) := by decide +kernel
theorem dX5_readLine_98 : decode cX5_readLine 98 = .ok (.aload_n 0, 1) := by decide +kernel
theorem dX5_readLine_99 : decode cX5_readLine 99 = .ok (.getfield 49, 3) := by decide +kernel
theorem dX5_readLine_102 : decode cX5_readLine 102 = .ok (.invokevirtual 78, 3) := by decide +kernel
theorem dX5_readLine_105 : decode cX5_readLine 105 = .ok (.iinc 4 1, 3) := by decide +kernel
theorem dX5_readLine_108 : decode cX5_readLine 108 = .ok (.goto (-57), 3) := by decide +kernel
theorem dX5_readLine_111 : decode cX5_readLine 111 = .ok (.aload_n 0, 1) := by decide +kernel
theorem dX5_readLine_112 : decode cX5_readLine 112 = .ok (.invokevirtual 69, 3) := by decide +kernel
theorem dX5_readLine_115 : decode cX5_readLine 115 = .ok (.aload_n 0, 1) := by decide +kernel
theorem dX5_readLine_116 : decode cX5_readLine 116 = .ok (.getfield 52, 3) := by decide +kernel
theorem dX5_readLine_119 : decode cX5_readLine 119 = .ok (.iconst 3, 1) := by decide +kernel
theorem dX5_readLine_120 : decode cX5_readLine 120 = .ok (.if_icmp .eq 8, 3) := by decide +kernel
theorem dX5_readLine_123 : decode cX5_readLine 123 = .ok (.aload_n 0, 1) := by decide +kernel
theorem dX5_readLine_124 : decode cX5_readLine 124 = .ok (.invokevirtual 101, 3) := by decide +kernel
theorem dX5_readLine_127 : decode cX5_readLine 127 = .ok (.return_, 1) := by decide +kernel
theorem dX5_readLine_128 : decode cX5_readLine 128 = .ok (.aload_n 0, 1) := by decide +kernel
theorem dX5_readLine_129 : decode cX5_readLine 129 = .ok (.getfield 32, 3) := by decide +kernel
theorem dX5_readLine_132 : decode cX5_readLine 132 = .ok (.ifCond .ne 9, 3) := by decide +kernel
theorem dX5_readLine_135 : decode cX5_readLine 135 = .ok (.aload_n 0, 1) := by decide +kernel
theorem dX5_readLine_136 : decode cX5_readLine 136 = .ok (.iload_n 1, 1) := by decide +kernel
theorem dX5_readLine_137 : decode cX5_readLine 137 = .ok (.iload_n 2, 1) := by decide +kernel
theorem dX5_readLine_138 : decode cX5_readLine 138 = .ok (.invokevirtual 121, 3) := by decide +kernel
theorem dX5_readLine_141 : decode cX5_readLine 141 = .ok (.aload_n 0, 1) := by decide +kernel
theorem dX5_readLine_142 : decode cX5_readLine 142 = .ok (.invokevirtual 69, 3) := by decide +kernel
theorem dX5_readLine_145 : decode cX5_readLine 145 = .ok (.return_, 1) := by decide +kernel
theorem dX5_formOf_0 : decode cX5_formOf 0 = .ok (.aload_n 0, 1) := by decide +kernel
theorem dX5_formOf_1 : decode cX5_formOf 1 = .ok (.getfield 52, 3) := by decide +kernel
theorem dX5_formOf_4 : decode cX5_formOf 4 = .ok (.iconst 1, 1) := by decide +kernel
theorem dX5_formOf_5 : decode cX5_formOf 5 = .ok (.if_icmp .eq 5, 3) := by decide +kernel
theorem dX5_formOf_8 : decode cX5_formOf 8 = .ok (.iconst (-1), 1) := by decide +kernel
theorem dX5_formOf_9 : decode cX5_formOf 9 = .ok (.ireturn, 1) := by decide +kernel
theorem dX5_formOf_10 : decode cX5_formOf 10 = .ok (.iload_n 1, 1) := by decide +kernel
theorem dX5_formOf_11 : decode cX5_formOf 11 = .ok (.ifCond .ne 8, 3) := by decide +kernel
theorem dX5_formOf_14 : decode cX5_formOf 14 = .ok (.aload_n 0, 1) := by decide +kernel
theorem dX5_formOf_15 : decode cX5_formOf 15 = .ok (.invokevirtual 124, 3) := by decide +kernel
theorem dX5_formOf_18 : decode cX5_formOf 18 = .ok (.ireturn, 1) := by decide +kernel
theorem dX5_formOf_19 : decode cX5_formOf 19 = .ok (.iload_n 1, 1) := by decide +kernel
theorem dX5_formOf_20 : decode cX5_formOf 20 = .ok (.iconst 1, 1) := by decide +kernel
theorem dX5_formOf_21 : decode cX5_formOf 21 = .ok (.if_icmp .ne 8, 3) := by decide +kernel
theorem dX5_formOf_24 : decode cX5_formOf 24 = .ok (.aload_n 0, 1) := by decide +kernel
theorem dX5_formOf_25 : decode cX5_formOf 25 = .ok (.invokevirtual 128, 3) := by decide +kernel
theorem dX5_formOf_28 : decode cX5_formOf 28 = .ok (.ireturn, 1) := by decide +kernel
theorem dX5_formOf_29 : decode cX5_formOf 29 = .ok (.aload_n 0, 1) := by decide +kernel
theorem dX5_formOf_30 : decode cX5_formOf 30 = .ok (.ldc 131, 2) := by decide +kernel
theorem dX5_formOf_32 : decode cX5_formOf 32 = .ok (.invokevirtual 133, 3) := by decide +kernel
theorem dX5_formOf_35 : decode cX5_formOf 35 = .ok (.ifCond .eq 5, 3) := by decide +kernel
theorem dX5_formOf_38 : decode cX5_formOf 38 = .ok (.iconst 0, 1) := by decide +kernel
theorem dX5_formOf_39 : decode cX5_formOf 39 = .ok (.ireturn, 1) := by decide +kernel
theorem dX5_formOf_40 : decode cX5_formOf 40 = .ok (.aload_n 0, 1) := by decide +kernel
theorem dX5_formOf_41 : decode cX5_formOf 41 = .ok (.ldc 137, 2) := by decide +kernel
theorem dX5_formOf_43 : decode cX5_formOf 43 = .ok (.invokevirtual 133, 3) := by decide +kernel
theorem dX5_formOf_46 : decode cX5_formOf 46 = .ok (.ifCond .eq 7, 3) := by decide +kernel
theorem dX5_formOf_49 : decode cX5_formOf 49 = .ok (.iconst 1, 1) := by decide +kernel
theorem dX5_formOf_50 : decode cX5_formOf 50 = .ok (.goto 4, 3) := by decide +kernel
theorem dX5_formOf_53 : decode cX5_formOf 53 = .ok (.iconst (-1), 1) := by decide +kernel
theorem dX5_formOf_54 : decode cX5_formOf 54 = .ok (.ireturn, 1) := by decide +kernel
theorem dX5_formOfTown_0 : decode cX5_formOfTown 0 = .ok (.aload_n 0, 1) := by decide +kernel
theorem dX5_formOfTown_1 : decode cX5_formOfTown 1 = .ok (.ldc 139, 2) := by decide +kernel
theorem dX5_formOfTown_3 : decode cX5_formOfTown 3 = .ok (.invokevirtual 133, 3) := by decide +kernel
theorem dX5_formOfTown_6 : decode cX5_formOfTown 6 = .ok (.ifCond .eq 5, 3) := by decide +kernel
theorem dX5_formOfTown_9 : decode cX5_formOfTown 9 = .ok (.iconst 0, 1) := by decide +kernel
theorem dX5_formOfTown_10 : decode cX5_formOfTown 10 = .ok (.ireturn, 1) := by decide +kernel
theorem dX5_formOfTown_11 : decode cX5_formOfTown 11 = .ok (.aload_n 0, 1) := by decide +kernel
theorem dX5_formOfTown_12 : decode cX5_formOfTown 12 = .ok (.ldc 141, 2) := by decide +kernel
theorem dX5_formOfTown_14 : decode cX5_formOfTown 14 = .ok (.invokevirtual 133, 3) := by decide +kernel
theorem dX5_formOfTown_17 : decode cX5_formOfTown 17 = .ok (.ifCond .eq 5, 3) := by decide +kernel
theorem dX5_formOfTown_20 : decode cX5_formOfTown 20 = .ok (.iconst 1, 1) := by decide +kernel
theorem dX5_formOfTown_21 : decode cX5_formOfTown 21 = .ok (.ireturn, 1) := by decide +kernel
theorem dX5_formOfTown_22 : decode cX5_formOfTown 22 = .ok (.aload_n 0, 1) := by decide +kernel
theorem dX5_formOfTown_23 : decode cX5_formOfTown 23 = .ok (.ldc 143, 2) := by decide +kernel
theorem dX5_formOfTown_25 : decode cX5_formOfTown 25 = .ok (.invokevirtual 133, 3) := by decide +kernel
theorem dX5_formOfTown_28 : decode cX5_formOfTown 28 = .ok (.ifCond .eq 7, 3) := by decide +kernel
theorem dX5_formOfTown_31 : decode cX5_formOfTown 31 = .ok (.iconst 2, 1) := by decide +kernel
theorem dX5_formOfTown_32 : decode cX5_formOfTown 32 = .ok (.goto 4, 3) := by decide +kernel
theorem dX5_formOfTown_35 : decode cX5_formOfTown 35 = .ok (.iconst (-1), 1) := by decide +kernel
theorem dX5_formOfTown_36 : decode cX5_formOfTown 36 = .ok (.ireturn, 1) := by decide +kernel
theorem dX5_formOfWeek_0 : decode cX5_formOfWeek 0 = .ok (.aload_n 0, 1) := by decide +kernel
theorem dX5_formOfWeek_1 : decode cX5_formOfWeek 1 = .ok (.ldc 145, 2) := by decide +kernel
theorem dX5_formOfWeek_3 : decode cX5_formOfWeek 3 = .ok (.invokevirtual 133, 3) := by decide +kernel
theorem dX5_formOfWeek_6 : decode cX5_formOfWeek 6 = .ok (.ifCond .eq 5, 3) := by decide +kernel
theorem dX5_formOfWeek_9 : decode cX5_formOfWeek 9 = .ok (.iconst 0, 1) := by decide +kernel
theorem dX5_formOfWeek_10 : decode cX5_formOfWeek 10 = .ok (.ireturn, 1) := by decide +kernel
theorem dX5_formOfWeek_11 : decode cX5_formOfWeek 11 = .ok (.aload_n 0, 1) := by decide +kernel
theorem dX5_formOfWeek_12 : decode cX5_formOfWeek 12 = .ok (.ldc 147, 2) := by decide +kernel
theorem dX5_formOfWeek_14 : decode cX5_formOfWeek 14 = .ok (.invokevirtual 133, 3) := by decide +kernel
theorem dX5_formOfWeek_17 : decode cX5_formOfWeek 17 = .ok (.ifCond .eq 5, 3) := by decide +kernel
theorem dX5_formOfWeek_20 : decode cX5_formOfWeek 20 = .ok (.iconst 1, 1) := by decide +kernel
theorem dX5_formOfWeek_21 : decode cX5_formOfWeek 21 = .ok (.ireturn, 1) := by decide +kernel
theorem dX5_formOfWeek_22 : decode cX5_formOfWeek 22 = .ok (.aload_n 0, 1) := by decide +kernel
theorem dX5_formOfWeek_23 : decode cX5_formOfWeek 23 = .ok (.ldc 149, 2) := by decide +kernel
theorem dX5_formOfWeek_25 : decode cX5_formOfWeek 25 = .ok (.invokevirtual 133, 3) := by decide +kernel
theorem dX5_formOfWeek_28 : decode cX5_formOfWeek 28 = .ok (.ifCond .eq 5, 3) := by decide +kernel
theorem dX5_formOfWeek_31 : decode cX5_formOfWeek 31 = .ok (.iconst 2, 1) := by decide +kernel
theorem dX5_formOfWeek_32 : decode cX5_formOfWeek 32 = .ok (.ireturn, 1) := by decide +kernel
theorem dX5_formOfWeek_33 : decode cX5_formOfWeek 33 = .ok (.aload_n 0, 1) := by decide +kernel
theorem dX5_formOfWeek_34 : decode cX5_formOfWeek 34 = .ok (.ldc 151, 2) := by decide +kernel
theorem dX5_formOfWeek_36 : decode cX5_formOfWeek 36 = .ok (.invokevirtual 133, 3) := by decide +kernel
theorem dX5_formOfWeek_39 : decode cX5_formOfWeek 39 = .ok (.ifCond .eq 5, 3) := by decide +kernel
theorem dX5_formOfWeek_42 : decode cX5_formOfWeek 42 = .ok (.iconst 3, 1) := by decide +kernel
theorem dX5_formOfWeek_43 : decode cX5_formOfWeek 43 = .ok (.ireturn, 1) := by decide +kernel
theorem dX5_formOfWeek_44 : decode cX5_formOfWeek 44 = .ok (.aload_n 0, 1) := by decide +kernel
theorem dX5_formOfWeek_45 : decode cX5_formOfWeek 45 = .ok (.ldc 153, 2) := by decide +kernel
theorem dX5_formOfWeek_47 : decode cX5_formOfWeek 47 = .ok (.invokevirtual 133, 3) := by decide +kernel
theorem dX5_formOfWeek_50 : decode cX5_formOfWeek 50 = .ok (.ifCond .eq 5, 3) := by decide +kernel
theorem dX5_formOfWeek_53 : decode cX5_formOfWeek 53 = .ok (.iconst 4, 1) := by decide +kernel
theorem dX5_formOfWeek_54 : decode cX5_formOfWeek 54 = .ok (.ireturn, 1) := by decide +kernel
theorem dX5_formOfWeek_55 : decode cX5_formOfWeek 55 = .ok (.aload_n 0, 1) := by decide +kernel
theorem dX5_formOfWeek_56 : decode cX5_formOfWeek 56 = .ok (.ldc 155, 2) := by decide +kernel
theorem dX5_formOfWeek_58 : decode cX5_formOfWeek 58 = .ok (.invokevirtual 133, 3) := by decide +kernel
theorem dX5_formOfWeek_61 : decode cX5_formOfWeek 61 = .ok (.ifCond .eq 5, 3) := by decide +kernel
theorem dX5_formOfWeek_64 : decode cX5_formOfWeek 64 = .ok (.iconst 5, 1) := by decide +kernel
theorem dX5_formOfWeek_65 : decode cX5_formOfWeek 65 = .ok (.ireturn, 1) := by decide +kernel
theorem dX5_formOfWeek_66 : decode cX5_formOfWeek 66 = .ok (.aload_n 0, 1) := by decide +kernel
theorem dX5_formOfWeek_67 : decode cX5_formOfWeek 67 = .ok (.ldc 157, 2) := by decide +kernel
theorem dX5_formOfWeek_69 : decode cX5_formOfWeek 69 = .ok (.invokevirtual 133, 3) := by decide +kernel
theorem dX5_formOfWeek_72 : decode cX5_formOfWeek 72 = .ok (.ifCond .eq 8, 3) := by decide +kernel
theorem dX5_formOfWeek_75 : decode cX5_formOfWeek 75 = .ok (.bipush 6, 2) := by decide +kernel
theorem dX5_formOfWeek_77 : decode cX5_formOfWeek 77 = .ok (.goto 4, 3) := by decide +kernel
theorem dX5_formOfWeek_80 : decode cX5_formOfWeek 80 = .ok (.iconst (-1), 1) := by decide +kernel
theorem dX5_formOfWeek_81 : decode cX5_formOfWeek 81 = .ok (.ireturn, 1) := by decide +kernel
theorem dX5_numbersOf_0 : decode cX5_numbersOf 0 = .ok (.iload_n 0, 1) := by decide +kernel
theorem dX5_numbersOf_1 : decode cX5_numbersOf 1 = .ok (.ifCond .ne 25, 3) := by decide +kernel
theorem dX5_numbersOf_4 : decode cX5_numbersOf 4 = .ok (.iload_n 1, 1) := by decide +kernel
theorem dX5_numbersOf_5 : decode cX5_numbersOf 5 = .ok (.ifCond .lt 19, 3) := by decide +kernel
theorem dX5_numbersOf_8 : decode cX5_numbersOf 8 = .ok (.iload_n 1, 1) := by decide +kernel
theorem dX5_numbersOf_9 : decode cX5_numbersOf 9 = .ok (.getstatic 159, 3) := by decide +kernel
theorem dX5_numbersOf_12 : decode cX5_numbersOf 12 = .ok (.arraylength, 1) := by decide +kernel
theorem dX5_numbersOf_13 : decode cX5_numbersOf 13 = .ok (.if_icmp .ge 11, 3) := by decide +kernel
theorem dX5_numbersOf_16 : decode cX5_numbersOf 16 = .ok (.getstatic 159, 3) := by decide +kernel
theorem dX5_numbersOf_19 : decode cX5_numbersOf 19 = .ok (.iload_n 1, 1) := by decide +kernel
theorem dX5_numbersOf_20 : decode cX5_numbersOf 20 = .ok (.iaload, 1) := by decide +kernel
theorem dX5_numbersOf_21 : decode cX5_numbersOf 21 = .ok (.goto 4, 3) := by decide +kernel
theorem dX5_numbersOf_24 : decode cX5_numbersOf 24 = .ok (.iconst 0, 1) := by decide +kernel
theorem dX5_numbersOf_25 : decode cX5_numbersOf 25 = .ok (.ireturn, 1) := by decide +kernel
theorem dX5_numbersOf_26 : decode cX5_numbersOf 26 = .ok (.iload_n 0, 1) := by decide +kernel
theorem dX5_numbersOf_27 : decode cX5_numbersOf 27 = .ok (.iconst 1, 1) := by decide +kernel
theorem dX5_numbersOf_28 : decode cX5_numbersOf 28 = .ok (.if_icmp .ne 25, 3) := by decide +kernel
theorem dX5_numbersOf_31 : decode cX5_numbersOf 31 = .ok (.iload_n 1, 1) := by decide +kernel
theorem dX5_numbersOf_32 : decode cX5_numbersOf 32 = .ok (.ifCond .lt 19, 3) := by decide +kernel
theorem dX5_numbersOf_35 : decode cX5_numbersOf 35 = .ok (.iload_n 1, 1) := by decide +kernel
theorem dX5_numbersOf_36 : decode cX5_numbersOf 36 = .ok (.getstatic 162, 3) := by decide +kernel
theorem dX5_numbersOf_39 : decode cX5_numbersOf 39 = .ok (.arraylength, 1) := by decide +kernel
theorem dX5_numbersOf_40 : decode cX5_numbersOf 40 = .ok (.if_icmp .ge 11, 3) := by decide +kernel
theorem dX5_numbersOf_43 : decode cX5_numbersOf 43 = .ok (.getstatic 162, 3) := by decide +kernel
theorem dX5_numbersOf_46 : decode cX5_numbersOf 46 = .ok (.iload_n 1, 1) := by decide +kernel
theorem dX5_numbersOf_47 : decode cX5_numbersOf 47 = .ok (.iaload, 1) := by decide +kernel
theorem dX5_numbersOf_48 : decode cX5_numbersOf 48 = .ok (.goto 4, 3) := by decide +kernel
theorem dX5_numbersOf_51 : decode cX5_numbersOf 51 = .ok (.iconst 0, 1) := by decide +kernel
theorem dX5_numbersOf_52 : decode cX5_numbersOf 52 = .ok (.ireturn, 1) := by decide +kernel
theorem dX5_numbersOf_53 : decode cX5_numbersOf 53 = .ok (.iconst 2, 1) := by decide +kernel
theorem dX5_numbersOf_54 : decode cX5_numbersOf 54 = .ok (.ireturn, 1) := by decide +kernel
theorem dX5_isOneTooMany_0 : decode cX5_isOneTooMany 0 = .ok (.iload_n 1, 1) := by decide +kernel
theorem dX5_isOneTooMany_1 : decode cX5_isOneTooMany 1 = .ok (.ifCond .ne 25, 3) := by decide +kernel
theorem dX5_isOneTooMany_4 : decode cX5_isOneTooMany 4 = .ok (.iload_n 2, 1) := by decide +kernel
theorem dX5_isOneTooMany_5 : decode cX5_isOneTooMany 5 = .ok (.ifCond .ne 19, 3) := by decide +kernel
theorem dX5_isOneTooMany_8 : decode cX5_isOneTooMany 8 = .ok (.aload_n 0, 1) := by decide +kernel
theorem dX5_isOneTooMany_9 : decode cX5_isOneTooMany 9 = .ok (.getfield 12, 3) := by decide +kernel
theorem dX5_isOneTooMany_12 : decode cX5_isOneTooMany 12 = .ok (.getfield 75, 3) := by decide +kernel
theorem dX5_isOneTooMany_15 : decode cX5_isOneTooMany 15 = .ok (.bipush 6, 2) := by decide +kernel
theorem dX5_isOneTooMany_17 : decode cX5_isOneTooMany 17 = .ok (.if_icmp .lt 7, 3) := by decide +kernel
theorem dX5_isOneTooMany_20 : decode cX5_isOneTooMany 20 = .ok (.iconst 1, 1) := by decide +kernel
theorem dX5_isOneTooMany_21 : decode cX5_isOneTooMany 21 = .ok (.goto 4, 3) := by decide +kernel
theorem dX5_isOneTooMany_24 : decode cX5_isOneTooMany 24 = .ok (.iconst 0, 1) := by decide +kernel
theorem dX5_isOneTooMany_25 : decode cX5_isOneTooMany 25 = .ok (.ireturn, 1) := by decide +kernel
theorem dX5_isOneTooMany_26 : decode cX5_isOneTooMany 26 = .ok (.iload_n 1, 1) := by decide +kernel
theorem dX5_isOneTooMany_27 : decode cX5_isOneTooMany 27 = .ok (.iconst 1, 1) := by decide +kernel
theorem dX5_isOneTooMany_28 : decode cX5_isOneTooMany 28 = .ok (.if_icmp .ne 23, 3) := by decide +kernel
theorem dX5_isOneTooMany_31 : decode cX5_isOneTooMany 31 = .ok (.aload_n 0, 1) := by decide +kernel
theorem dX5_isOneTooMany_32 : decode cX5_isOneTooMany 32 = .ok (.getfield 21, 3) := by decide +kernel
theorem dX5_isOneTooMany_35 : decode cX5_isOneTooMany 35 = .ok (.getfield 91, 3) := by decide +kernel
theorem dX5_isOneTooMany_38 : decode cX5_isOneTooMany 38 = .ok (.bipush 40, 2) := by decide +kernel
theorem dX5_isOneTooMany_40 : decode cX5_isOneTooMany 40 = .ok (.if_icmp .lt 7, 3) := by decide +kernel
theorem dX5_isOneTooMany_43 : decode cX5_isOneTooMany 43 = .ok (.iconst 1, 1) := by decide +kernel
theorem dX5_isOneTooMany_44 : decode cX5_isOneTooMany 44 = .ok (.goto 24, 3) := by decide +kernel
theorem dX5_isOneTooMany_47 : decode cX5_isOneTooMany 47 = .ok (.iconst 0, 1) := by decide +kernel
theorem dX5_isOneTooMany_48 : decode cX5_isOneTooMany 48 = .ok (.goto 20, 3) := by decide +kernel
theorem dX5_isOneTooMany_51 : decode cX5_isOneTooMany 51 = .ok (.aload_n 0, 1) := by decide +kernel
theorem dX5_isOneTooMany_52 : decode cX5_isOneTooMany 52 = .ok (.getfield 28, 3) := by decide +kernel
theorem dX5_isOneTooMany_55 : decode cX5_isOneTooMany 55 = .ok (.getfield 94, 3) := by decide +kernel
theorem dX5_isOneTooMany_58 : decode cX5_isOneTooMany 58 = .ok (.bipush 8, 2) := by decide +kernel
theorem dX5_isOneTooMany_60 : decode cX5_isOneTooMany 60 = .ok (.if_icmp .lt 7, 3) := by decide +kernel
theorem dX5_isOneTooMany_63 : decode cX5_isOneTooMany 63 = .ok (.iconst 1, 1) := by decide +kernel
theorem dX5_isOneTooMany_64 : decode cX5_isOneTooMany 64 = .ok (.goto 4, 3) := by decide +kernel
theorem dX5_isOneTooMany_67 : decode cX5_isOneTooMany 67 = .ok (.iconst 0, 1) := by decide +kernel
theorem dX5_isOneTooMany_68 : decode cX5_isOneTooMany 68 = .ok (.ireturn, 1) := by decide +kernel
theorem dX5_canBe_0 : decode cX5_canBe 0 = .ok (.iload_n 1, 1) := by decide +kernel
theorem dX5_canBe_1 : decode cX5_canBe 1 = .ok (.ifCond .ne 27, 3) := by decide +kernel
theorem dX5_canBe_4 : decode cX5_canBe 4 = .ok (.iload_n 2, 1) := by decide +kernel
theorem dX5_canBe_5 : decode cX5_canBe 5 = .ok (.ifCond .ne 23, 3) := by decide +kernel
theorem dX5_canBe_8 : decode cX5_canBe 8 = .ok (.iload_n 3, 1) := by decide +kernel
theorem dX5_canBe_9 : decode cX5_canBe 9 = .ok (.iconst 1, 1) := by decide +kernel
theorem dX5_canBe_10 : decode cX5_canBe 10 = .ok (.if_icmp .eq 12, 3) := by decide +kernel
theorem dX5_canBe_13 : decode cX5_canBe 13 = .ok (.aload_n 0, 1) := by decide +kernel
theorem dX5_canBe_14 : decode cX5_canBe 14 = .ok (.getfield 55, 3) := by decide +kernel
theorem dX5_canBe_17 : decode cX5_canBe 17 = .ok (.bipush 9, 2) := by decide +kernel
theorem dX5_canBe_19 : decode cX5_canBe 19 = .ok (.if_icmp .gt 7, 3) := by decide +kernel
theorem dX5_canBe_22 : decode cX5_canBe 22 = .ok (.iconst 1, 1) := by decide +kernel
theorem dX5_canBe_23 : decode cX5_canBe 23 = .ok (.goto 4, 3) := by decide +kernel
theorem dX5_canBe_26 : decode cX5_canBe 26 = .ok (.iconst 0, 1) := by decide +kernel
theorem dX5_canBe_27 : decode cX5_canBe 27 = .ok (.ireturn, 1) := by decide +kernel
theorem dX5_canBe_28 : decode cX5_canBe 28 = .ok (.iload_n 3, 1) := by decide +kernel
theorem dX5_canBe_29 : decode cX5_canBe 29 = .ok (.iconst 2, 1) := by decide +kernel
theorem dX5_canBe_30 : decode cX5_canBe 30 = .ok (.if_icmp .ne 30, 3) := by decide +kernel
theorem dX5_canBe_33 : decode cX5_canBe 33 = .ok (.aload_n 0, 1) := by decide +kernel
theorem dX5_canBe_34 : decode cX5_canBe 34 = .ok (.getfield 55, 3) := by decide +kernel
theorem dX5_canBe_37 : decode cX5_canBe 37 = .ok (.bipush 30, 2) := by decide +kernel
theorem dX5_canBe_39 : decode cX5_canBe 39 = .ok (.if_icmp .gt 19, 3) := by decide +kernel
theorem dX5_canBe_42 : decode cX5_canBe 42 = .ok (.iload_n 1, 1) := by decide +kernel
theorem dX5_canBe_43 : decode cX5_canBe 43 = .ok (.ifCond .eq 11, 3) := by decide +kernel
theorem dX5_canBe_46 : decode cX5_canBe 46 = .ok (.aload_n 0, 1) := by decide +kernel
theorem dX5_canBe_47 : decode cX5_canBe 47 = .ok (.getfield 55, 3) := by decide +kernel
theorem dX5_canBe_50 : decode cX5_canBe 50 = .ok (.iconst 1, 1) := by decide +kernel
theorem dX5_canBe_51 : decode cX5_canBe 51 = .ok (.if_icmp .lt 7, 3) := by decide +kernel
theorem dX5_canBe_54 : decode cX5_canBe 54 = .ok (.iconst 1, 1) := by decide +kernel
theorem dX5_canBe_55 : decode cX5_canBe 55 = .ok (.goto 4, 3) := by decide +kernel
theorem dX5_canBe_58 : decode cX5_canBe 58 = .ok (.iconst 0, 1) := by decide +kernel
theorem dX5_canBe_59 : decode cX5_canBe 59 = .ok (.ireturn, 1) := by decide +kernel
theorem dX5_canBe_60 : decode cX5_canBe 60 = .ok (.aload_n 0, 1) := by decide +kernel
theorem dX5_canBe_61 : decode cX5_canBe 61 = .ok (.getfield 55, 3) := by decide +kernel
theorem dX5_canBe_64 : decode cX5_canBe 64 = .ok (.bipush 6, 2) := by decide +kernel
theorem dX5_canBe_66 : decode cX5_canBe 66 = .ok (.if_icmp .ge 24, 3) := by decide +kernel
theorem dX5_canBe_69 : decode cX5_canBe 69 = .ok (.iload_n 3, 1) := by decide +kernel
theorem dX5_canBe_70 : decode cX5_canBe 70 = .ok (.ifCond .eq 16, 3) := by decide +kernel
theorem dX5_canBe_73 : decode cX5_canBe 73 = .ok (.aload_n 0, 1) := by decide +kernel
theorem dX5_canBe_74 : decode cX5_canBe 74 = .ok (.getfield 55, 3) := by decide +kernel
theorem dX5_canBe_77 : decode cX5_canBe 77 = .ok (.aload_n 0, 1) := by decide +kernel
theorem dX5_canBe_78 : decode cX5_canBe 78 = .ok (.getfield 39, 3) := by decide +kernel
theorem dX5_canBe_81 : decode cX5_canBe 81 = .ok (.iconst 0, 1) := by decide +kernel
theorem dX5_canBe_82 : decode cX5_canBe 82 = .ok (.iaload, 1) := by decide +kernel
theorem dX5_canBe_83 : decode cX5_canBe 83 = .ok (.if_icmp .eq 7, 3) := by decide +kernel
theorem dX5_canBe_86 : decode cX5_canBe 86 = .ok (.iconst 1, 1) := by decide +kernel
theorem dX5_canBe_87 : decode cX5_canBe 87 = .ok (.goto 4, 3) := by decide +kernel
theorem dX5_canBe_90 : decode cX5_canBe 90 = .ok (.iconst 0, 1) := by decide +kernel
theorem dX5_canBe_91 : decode cX5_canBe 91 = .ok (.ireturn, 1) := by decide +kernel
theorem dX5_keepLine_0 : decode cX5_keepLine 0 = .ok (.iload_n 1, 1) := by decide +kernel
theorem dX5_keepLine_1 : decode cX5_keepLine 1 = .ok (.ifCond .ne 29, 3) := by decide +kernel
theorem dX5_keepLine_4 : decode cX5_keepLine 4 = .ok (.aload_n 0, 1) := by decide +kernel
theorem dX5_keepLine_5 : decode cX5_keepLine 5 = .ok (.iload_n 2, 1) := by decide +kernel
theorem dX5_keepLine_6 : decode cX5_keepLine 6 = .ok (.aload_n 0, 1) := by decide +kernel
theorem dX5_keepLine_7 : decode cX5_keepLine 7 = .ok (.getfield 39, 3) := by decide +kernel
theorem dX5_keepLine_10 : decode cX5_keepLine 10 = .ok (.iconst 0, 1) := by decide +kernel
theorem dX5_keepLine_11 : decode cX5_keepLine 11 = .ok (.iaload, 1) := by decide +kernel
theorem dX5_keepLine_12 : decode cX5_keepLine 12 = .ok (.aload_n 0, 1) := by decide +kernel
theorem dX5_keepLine_13 : decode cX5_keepLine 13 = .ok (.getfield 39, 3) := by decide +kernel
theorem dX5_keepLine_16 : decode cX5_keepLine 16 = .ok (.iconst 1, 1) := by decide +kernel
theorem dX5_keepLine_17 : decode cX5_keepLine 17 = .ok (.iaload, 1) := by decide +kernel
theorem dX5_keepLine_18 : decode cX5_keepLine 18 = .ok (.aload_n 0, 1) := by decide +kernel
theorem dX5_keepLine_19 : decode cX5_keepLine 19 = .ok (.getfield 39, 3) := by decide +kernel
theorem dX5_keepLine_22 : decode cX5_keepLine 22 = .ok (.iconst 2, 1) := by decide +kernel
theorem dX5_keepLine_23 : decode cX5_keepLine 23 = .ok (.iaload, 1) := by decide +kernel
theorem dX5_keepLine_24 : decode cX5_keepLine 24 = .ok (.invokevirtual 165, 3) := by decide +kernel
theorem dX5_keepLine_27 : decode cX5_keepLine 27 = .ok (.goto 35, 3) := by decide +kernel
theorem dX5_keepLine_30 : decode cX5_keepLine 30 = .ok (.iload_n 1, 1) := by decide +kernel
theorem dX5_keepLine_31 : decode cX5_keepLine 31 = .ok (.iconst 1, 1) := by decide +kernel
theorem dX5_keepLine_32 : decode cX5_keepLine 32 = .ok (.if_icmp .ne 18, 3) := by decide +kernel
theorem dX5_keepLine_35 : decode cX5_keepLine 35 = .ok (.aload_n 0, 1) := by decide +kernel
theorem dX5_keepLine_36 : decode cX5_keepLine 36 = .ok (.getfield 21, 3) := by decide +kernel
theorem dX5_keepLine_39 : decode cX5_keepLine 39 = .ok (.iload_n 2, 1) := by decide +kernel
theorem dX5_keepLine_40 : decode cX5_keepLine 40 = .ok (.aload_n 0, 1) := by decide +kernel
theorem dX5_keepLine_41 : decode cX5_keepLine 41 = .ok (.getfield 39, 3) := by decide +kernel
theorem dX5_keepLine_44 : decode cX5_keepLine 44 = .ok (.invokevirtual 169, 3) := by decide +kernel
theorem dX5_keepLine_47 : decode cX5_keepLine 47 = .ok (.goto 15, 3) := by decide +kernel
theorem dX5_keepLine_50 : decode cX5_keepLine 50 = .ok (.aload_n 0, 1) := by decide +kernel
theorem dX5_keepLine_51 : decode cX5_keepLine 51 = .ok (.getfield 28, 3) := by decide +kernel
theorem dX5_keepLine_54 : decode cX5_keepLine 54 = .ok (.iload_n 2, 1) := by decide +kernel
theorem dX5_keepLine_55 : decode cX5_keepLine 55 = .ok (.aload_n 0, 1) := by decide +kernel
theorem dX5_keepLine_56 : decode cX5_keepLine 56 = .ok (.getfield 39, 3) := by decide +kernel
theorem dX5_keepLine_59 : decode cX5_keepLine 59 = .ok (.invokevirtual 173, 3) := by decide +kernel
theorem dX5_keepLine_62 : decode cX5_keepLine 62 = .ok (.return_, 1) := by decide +kernel
theorem dX5_keepOfTown_0 : decode cX5_keepOfTown 0 = .ok (.iload_n 1, 1) := by decide +kernel
theorem dX5_keepOfTown_1 : decode cX5_keepOfTown 1 = .ok (.ifCond .ne 61, 3) := by decide +kernel
theorem dX5_keepOfTown_4 : decode cX5_keepOfTown 4 = .ok (.aload_n 0, 1) := by decide +kernel
theorem dX5_keepOfTown_5 : decode cX5_keepOfTown 5 = .ok (.getfield 12, 3) := by decide +kernel
theorem dX5_keepOfTown_8 : decode cX5_keepOfTown 8 = .ok (.getfield 75, 3) := by decide +kernel
theorem dX5_keepOfTown_11 : decode cX5_keepOfTown 11 = .ok (.bipush 6, 2) := by decide +kernel
theorem dX5_keepOfTown_13 : decode cX5_keepOfTown 13 = .ok (.if_icmp .ge 48, 3) := by decide +kernel
theorem dX5_keepOfTown_16 : decode cX5_keepOfTown 16 = .ok (.aload_n 0, 1) := by decide +kernel
theorem dX5_keepOfTown_17 : decode cX5_keepOfTown 17 = .ok (.getfield 12, 3) := by decide +kernel
theorem dX5_keepOfTown_20 : decode cX5_keepOfTown 20 = .ok (.getfield 174, 3) := by decide +kernel
theorem dX5_keepOfTown_23 : decode cX5_keepOfTown 23 = .ok (.aload_n 0, 1) := by decide +kernel
theorem dX5_keepOfTown_24 : decode cX5_keepOfTown 24 = .ok (.getfield 12, 3) := by decide +kernel
theorem dX5_keepOfTown_27 : decode cX5_keepOfTown 27 = .ok (.getfield 75, 3) := by decide +kernel
theorem dX5_keepOfTown_30 : decode cX5_keepOfTown 30 = .ok (.iload_n 2, 1) := by decide +kernel
theorem dX5_keepOfTown_31 : decode cX5_keepOfTown 31 = .ok (.iastore, 1) := by decide +kernel
theorem dX5_keepOfTown_32 : decode cX5_keepOfTown 32 = .ok (.aload_n 0, 1) := by decide +kernel
theorem dX5_keepOfTown_33 : decode cX5_keepOfTown 33 = .ok (.getfield 12, 3) := by decide +kernel
theorem dX5_keepOfTown_36 : decode cX5_keepOfTown 36 = .ok (.getfield 177, 3) := by decide +kernel
theorem dX5_keepOfTown_39 : decode cX5_keepOfTown 39 = .ok (.aload_n 0, 1) := by decide +kernel
theorem dX5_keepOfTown_40 : decode cX5_keepOfTown 40 = .ok (.getfield 12, 3) := by decide +kernel
theorem dX5_keepOfTown_43 : decode cX5_keepOfTown 43 = .ok (.getfield 75, 3) := by decide +kernel
theorem dX5_keepOfTown_46 : decode cX5_keepOfTown 46 = .ok (.iload_n 3, 1) := by decide +kernel
theorem dX5_keepOfTown_47 : decode cX5_keepOfTown 47 = .ok (.iastore, 1) := by decide +kernel
theorem dX5_keepOfTown_48 : decode cX5_keepOfTown 48 = .ok (.aload_n 0, 1) := by decide +kernel
theorem dX5_keepOfTown_49 : decode cX5_keepOfTown 49 = .ok (.getfield 12, 3) := by decide +kernel
theorem dX5_keepOfTown_52 : decode cX5_keepOfTown 52 = .ok (.dup, 1) := by decide +kernel
theorem dX5_keepOfTown_53 : decode cX5_keepOfTown 53 = .ok (.getfield 75, 3) := by decide +kernel
theorem dX5_keepOfTown_56 : decode cX5_keepOfTown 56 = .ok (.iconst 1, 1) := by decide +kernel
theorem dX5_keepOfTown_57 : decode cX5_keepOfTown 57 = .ok (.iadd, 1) := by decide +kernel
theorem dX5_keepOfTown_58 : decode cX5_keepOfTown 58 = .ok (.putfield 75, 3) := by decide +kernel
theorem dX5_keepOfTown_61 : decode cX5_keepOfTown 61 = .ok (.return_, 1) := by decide +kernel
theorem dX5_keepOfTown_62 : decode cX5_keepOfTown 62 = .ok (.iload_n 2, 1) := by decide +kernel
theorem dX5_keepOfTown_63 : decode cX5_keepOfTown 63 = .ok (.ifCond .lt 19, 3) := by decide +kernel
theorem dX5_keepOfTown_66 : decode cX5_keepOfTown 66 = .ok (.iload_n 2, 1) := by decide +kernel
theorem dX5_keepOfTown_67 : decode cX5_keepOfTown 67 = .ok (.bipush 6, 2) := by decide +kernel
theorem dX5_keepOfTown_69 : decode cX5_keepOfTown 69 = .ok (.if_icmp .ge 13, 3) := by decide +kernel
theorem dX5_keepOfTown_72 : decode cX5_keepOfTown 72 = .ok (.iload_n 3, 1) := by decide +kernel
theorem dX5_keepOfTown_73 : decode cX5_keepOfTown 73 = .ok (.ifCond .lt 9, 3) := by decide +kernel
theorem dX5_keepOfTown_76 : decode cX5_keepOfTown 76 = .ok (.iload_n 3, 1) := by decide +kernel
theorem dX5_keepOfTown_77 : decode cX5_keepOfTown 77 = .ok (.bipush 6, 2) := by decide +kernel
theorem dX5_keepOfTown_79 : decode cX5_keepOfTown 79 = .ok (.if_icmp .lt 4, 3) := by decide +kernel
theorem dX5_keepOfTown_82 : decode cX5_keepOfTown 82 = .ok (.return_, 1) := by decide +kernel
theorem dX5_keepOfTown_83 : decode cX5_keepOfTown 83 = .ok (.aload_n 0, 1) := by decide +kernel
theorem dX5_keepOfTown_84 : decode cX5_keepOfTown 84 = .ok (.dup, 1) := by decide +kernel
theorem dX5_keepOfTown_85 : decode cX5_keepOfTown 85 = .ok (.getfield 58, 3) := by decide +kernel
theorem dX5_keepOfTown_88 : decode cX5_keepOfTown 88 = .ok (.iconst 1, 1) := by decide +kernel
theorem dX5_keepOfTown_89 : decode cX5_keepOfTown 89 = .ok (.iload_n 2, 1) := by decide +kernel
theorem dX5_keepOfTown_90 : decode cX5_keepOfTown 90 = .ok (.ishl, 1) := by decide +kernel
theorem dX5_keepOfTown_91 : decode cX5_keepOfTown 91 = .ok (.iconst 1, 1) := by decide +kernel
theorem dX5_keepOfTown_92 : decode cX5_keepOfTown 92 = .ok (.iload_n 3, 1) := by decide +kernel
theorem dX5_keepOfTown_93 : decode cX5_keepOfTown 93 = .ok (.ishl, 1) := by decide +kernel
theorem dX5_keepOfTown_94 : decode cX5_keepOfTown 94 = .ok (.ior, 1) := by decide +kernel
theorem dX5_keepOfTown_95 : decode cX5_keepOfTown 95 = .ok (.ior, 1) := by decide +kernel
theorem dX5_keepOfTown_96 : decode cX5_keepOfTown 96 = .ok (.putfield 58, 3) := by decide +kernel
theorem dX5_keepOfTown_99 : decode cX5_keepOfTown 99 = .ok (.iload_n 1, 1) := by decide +kernel
theorem dX5_keepOfTown_100 : decode cX5_keepOfTown 100 = .ok (.iconst 1, 1) := by decide +kernel
theorem dX5_keepOfTown_101 : decode cX5_keepOfTown 101 = .ok (.if_icmp .ne 36, 3) := by decide +kernel
theorem dX5_keepOfTown_104 : decode cX5_keepOfTown 104 = .ok (.aload_n 0, 1) := by decide +kernel
theorem dX5_keepOfTown_105 : decode cX5_keepOfTown 105 = .ok (.getfield 12, 3) := by decide +kernel
theorem dX5_keepOfTown_108 : decode cX5_keepOfTown 108 = .ok (.getfield 180, 3) := by decide +kernel
theorem dX5_keepOfTown_111 : decode cX5_keepOfTown 111 = .ok (.iload_n 2, 1) := by decide +kernel
theorem dX5_keepOfTown_112 : decode cX5_keepOfTown 112 = .ok (.dup2, 1) := by decide +kernel
theorem dX5_keepOfTown_113 : decode cX5_keepOfTown 113 = .ok (.iaload, 1) := by decide +kernel
theorem dX5_keepOfTown_114 : decode cX5_keepOfTown 114 = .ok (.iconst 1, 1) := by decide +kernel
theorem dX5_keepOfTown_115 : decode cX5_keepOfTown 115 = .ok (.iload_n 3, 1) := by decide +kernel
theorem dX5_keepOfTown_116 : decode cX5_keepOfTown 116 = .ok (.ishl, 1) := by decide +kernel
theorem dX5_keepOfTown_117 : decode cX5_keepOfTown 117 = .ok (.ior, 1) := by decide +kernel
theorem dX5_keepOfTown_118 : decode cX5_keepOfTown 118 = .ok (.iastore, 1) := by decide +kernel
theorem dX5_keepOfTown_119 : decode cX5_keepOfTown 119 = .ok (.aload_n 0, 1) := by decide +kernel
theorem dX5_keepOfTown_120 : decode cX5_keepOfTown 120 = .ok (.getfield 12, 3) := by decide +kernel
theorem dX5_keepOfTown_123 : decode cX5_keepOfTown 123 = .ok (.getfield 180, 3) := by decide +kernel
theorem dX5_keepOfTown_126 : decode cX5_keepOfTown 126 = .ok (.iload_n 3, 1) := by decide +kernel
theorem dX5_keepOfTown_127 : decode cX5_keepOfTown 127 = .ok (.dup2, 1) := by decide +kernel
theorem dX5_keepOfTown_128 : decode cX5_keepOfTown 128 = .ok (.iaload, 1) := by decide +kernel
theorem dX5_keepOfTown_129 : decode cX5_keepOfTown 129 = .ok (.iconst 1, 1) := by decide +kernel
theorem dX5_keepOfTown_130 : decode cX5_keepOfTown 130 = .ok (.iload_n 2, 1) := by decide +kernel
theorem dX5_keepOfTown_131 : decode cX5_keepOfTown 131 = .ok (.ishl, 1) := by decide +kernel
theorem dX5_keepOfTown_132 : decode cX5_keepOfTown 132 = .ok (.ior, 1) := by decide +kernel
theorem dX5_keepOfTown_133 : decode cX5_keepOfTown 133 = .ok (.iastore, 1) := by decide +kernel
theorem dX5_keepOfTown_134 : decode cX5_keepOfTown 134 = .ok (.goto 19, 3) := by decide +kernel
theorem dX5_keepOfTown_137 : decode cX5_keepOfTown 137 = .ok (.aload_n 0, 1) := by decide +kernel
theorem dX5_keepOfTown_138 : decode cX5_keepOfTown 138 = .ok (.getfield 12, 3) := by decide +kernel
theorem dX5_keepOfTown_141 : decode cX5_keepOfTown 141 = .ok (.getfield 183, 3) := by decide +kernel
theorem dX5_keepOfTown_144 : decode cX5_keepOfTown 144 = .ok (.bipush 6, 2) := by decide +kernel
theorem dX5_keepOfTown_146 : decode cX5_keepOfTown 146 = .ok (.iload_n 2, 1) := by decide +kernel
theorem dX5_keepOfTown_147 : decode cX5_keepOfTown 147 = .ok (.imul, 1) := by decide +kernel
theorem dX5_keepOfTown_148 : decode cX5_keepOfTown 148 = .ok (.iload_n 3, 1) := by decide +kernel
theorem dX5_keepOfTown_149 : decode cX5_keepOfTown 149 = .ok (.iadd, 1) := by decide +kernel
theorem dX5_keepOfTown_150 : decode cX5_keepOfTown 150 = .ok (.iload 4, 2) := by decide +kernel
theorem dX5_keepOfTown_152 : decode cX5_keepOfTown 152 = .ok (.iastore, 1) := by decide +kernel
theorem dX5_keepOfTown_153 : decode cX5_keepOfTown 153 = .ok (.return_, 1) := by decide +kernel
theorem dX5_takeToken_0 : decode cX5_takeToken 0 = .ok (.aload_n 0, 1) := by decide +kernel
theorem dX5_takeToken_1 : decode cX5_takeToken 1 = .ok (.getfield 46, 3) := by decide +kernel
theorem dX5_takeToken_4 : decode cX5_takeToken 4 = .ok (.aload_n 0, 1) := by decide +kernel
theorem dX5_takeToken_5 : decode cX5_takeToken 5 = .ok (.getfield 43, 3) := by decide +kernel
theorem dX5_takeToken_8 : decode cX5_takeToken 8 = .ok (.if_icmp .ge 44, 3) := by decide +kernel
theorem dX5_takeToken_11 : decode cX5_takeToken 11 = .ok (.aload_n 0, 1) := by decide +kernel
theorem dX5_takeToken_12 : decode cX5_takeToken 12 = .ok (.getfield 61, 3) := by decide +kernel
theorem dX5_takeToken_15 : decode cX5_takeToken 15 = .ok (.aload_n 0, 1) := by decide +kernel
theorem dX5_takeToken_16 : decode cX5_takeToken 16 = .ok (.getfield 46, 3) := by decide +kernel
theorem dX5_takeToken_19 : decode cX5_takeToken 19 = .ok (.baload, 1) := by decide +kernel
theorem dX5_takeToken_20 : decode cX5_takeToken 20 = .ok (.bipush 10, 2) := by decide +kernel
theorem dX5_takeToken_22 : decode cX5_takeToken 22 = .ok (.if_icmp .eq 17, 3) := by decide +kernel
theorem dX5_takeToken_25 : decode cX5_takeToken 25 = .ok (.aload_n 0, 1) := by decide +kernel
theorem dX5_takeToken_26 : decode cX5_takeToken 26 = .ok (.getfield 61, 3) := by decide +kernel
theorem dX5_takeToken_29 : decode cX5_takeToken 29 = .ok (.aload_n 0, 1) := by decide +kernel
theorem dX5_takeToken_30 : decode cX5_takeToken 30 = .ok (.getfield 46, 3) := by decide +kernel
theorem dX5_takeToken_33 : decode cX5_takeToken 33 = .ok (.baload, 1) := by decide +kernel
theorem dX5_takeToken_34 : decode cX5_takeToken 34 = .ok (.bipush 32, 2) := by decide +kernel
theorem dX5_takeToken_36 : decode cX5_takeToken 36 = .ok (.if_icmp .ne 16, 3) := by decide +kernel
theorem dX5_takeToken_39 : decode cX5_takeToken 39 = .ok (.aload_n 0, 1) := by decide +kernel
theorem dX5_takeToken_40 : decode cX5_takeToken 40 = .ok (.dup, 1) := by decide +kernel
theorem dX5_takeToken_41 : decode cX5_takeToken 41 = .ok (.getfield 46, 3) := by decide +kernel
theorem dX5_takeToken_44 : decode cX5_takeToken 44 = .ok (.iconst 1, 1) := by decide +kernel
theorem dX5_takeToken_45 : decode cX5_takeToken 45 = .ok (.iadd, 1) := by decide +kernel
theorem dX5_takeToken_46 : decode cX5_takeToken 46 = .ok (.putfield 46, 3) := by decide +kernel
theorem dX5_takeToken_49 : decode cX5_takeToken 49 = .ok (.goto (-49), 3) := by decide +kernel
theorem dX5_takeToken_52 : decode cX5_takeToken 52 = .ok (.aload_n 0, 1) := by decide +kernel
theorem dX5_takeToken_53 : decode cX5_takeToken 53 = .ok (.aload_n 0, 1) := by decide +kernel
theorem dX5_takeToken_54 : decode cX5_takeToken 54 = .ok (.getfield 46, 3) := by decide +kernel
theorem dX5_takeToken_57 : decode cX5_takeToken 57 = .ok (.putfield 49, 3) := by decide +kernel
theorem dX5_takeToken_60 : decode cX5_takeToken 60 = .ok (.aload_n 0, 1) := by decide +kernel
theorem dX5_takeToken_61 : decode cX5_takeToken 61 = .ok (.getfield 46, 3) := by decide +kernel
theorem dX5_takeToken_64 : decode cX5_takeToken 64 = .ok (.aload_n 0, 1) := by decide +kernel
theorem dX5_takeToken_65 : decode cX5_takeToken 65 = .ok (.getfield 43, 3) := by decide +kernel
theorem dX5_takeToken_68 : decode cX5_takeToken 68 = .ok (.if_icmp .lt 11, 3) := by decide +kernel
theorem dX5_takeToken_71 : decode cX5_takeToken 71 = .ok (.aload_n 0, 1) := by decide +kernel
theorem dX5_takeToken_72 : decode cX5_takeToken 72 = .ok (.iconst 0, 1) := by decide +kernel
theorem dX5_takeToken_73 : decode cX5_takeToken 73 = .ok (.putfield 52, 3) := by decide +kernel
theorem dX5_takeToken_76 : decode cX5_takeToken 76 = .ok (.goto 80, 3) := by decide +kernel
theorem dX5_takeToken_79 : decode cX5_takeToken 79 = .ok (.aload_n 0, 1) := by decide +kernel
theorem dX5_takeToken_80 : decode cX5_takeToken 80 = .ok (.getfield 61, 3) := by decide +kernel
theorem dX5_takeToken_83 : decode cX5_takeToken 83 = .ok (.aload_n 0, 1) := by decide +kernel
theorem dX5_takeToken_84 : decode cX5_takeToken 84 = .ok (.getfield 46, 3) := by decide +kernel
theorem dX5_takeToken_87 : decode cX5_takeToken 87 = .ok (.baload, 1) := by decide +kernel
theorem dX5_takeToken_88 : decode cX5_takeToken 88 = .ok (.invokestatic 186, 3) := by decide +kernel
theorem dX5_takeToken_91 : decode cX5_takeToken 91 = .ok (.ifCond .eq 10, 3) := by decide +kernel
theorem dX5_takeToken_94 : decode cX5_takeToken 94 = .ok (.aload_n 0, 1) := by decide +kernel
theorem dX5_takeToken_95 : decode cX5_takeToken 95 = .ok (.invokevirtual 190, 3) := by decide +kernel
theorem dX5_takeToken_98 : decode cX5_takeToken 98 = .ok (.goto 58, 3) := by decide +kernel
theorem dX5_takeToken_101 : decode cX5_takeToken 101 = .ok (.aload_n 0, 1) := by decide +kernel
theorem dX5_takeToken_102 : decode cX5_takeToken 102 = .ok (.getfield 61, 3) := by decide +kernel
theorem dX5_takeToken_105 : decode cX5_takeToken 105 = .ok (.aload_n 0, 1) := by decide +kernel
theorem dX5_takeToken_106 : decode cX5_takeToken 106 = .ok (.getfield 46, 3) := by decide +kernel
theorem dX5_takeToken_109 : decode cX5_takeToken 109 = .ok (.baload, 1) := by decide +kernel
theorem dX5_takeToken_110 : decode cX5_takeToken 110 = .ok (.invokestatic 193, 3) := by decide +kernel
theorem dX5_takeToken_113 : decode cX5_takeToken 113 = .ok (.ifCond .eq 10, 3) := by decide +kernel
theorem dX5_takeToken_116 : decode cX5_takeToken 116 = .ok (.aload_n 0, 1) := by decide +kernel
theorem dX5_takeToken_117 : decode cX5_takeToken 117 = .ok (.invokevirtual 196, 3) := by decide +kernel
theorem dX5_takeToken_120 : decode cX5_takeToken 120 = .ok (.goto 36, 3) := by decide +kernel
theorem dX5_takeToken_123 : decode cX5_takeToken 123 = .ok (.aload_n 0, 1) := by decide +kernel
theorem dX5_takeToken_124 : decode cX5_takeToken 124 = .ok (.aload_n 0, 1) := by decide +kernel
theorem dX5_takeToken_125 : decode cX5_takeToken 125 = .ok (.getfield 61, 3) := by decide +kernel
theorem dX5_takeToken_128 : decode cX5_takeToken 128 = .ok (.aload_n 0, 1) := by decide +kernel
theorem dX5_takeToken_129 : decode cX5_takeToken 129 = .ok (.getfield 46, 3) := by decide +kernel
theorem dX5_takeToken_132 : decode cX5_takeToken 132 = .ok (.baload, 1) := by decide +kernel
theorem dX5_takeToken_133 : decode cX5_takeToken 133 = .ok (.bipush 59, 2) := by decide +kernel
theorem dX5_takeToken_135 : decode cX5_takeToken 135 = .ok (.if_icmp .ne 7, 3) := by decide +kernel
theorem dX5_takeToken_138 : decode cX5_takeToken 138 = .ok (.iconst 3, 1) := by decide +kernel
theorem dX5_takeToken_139 : decode cX5_takeToken 139 = .ok (.goto 4, 3) := by decide +kernel
theorem dX5_takeToken_142 : decode cX5_takeToken 142 = .ok (.iconst 4, 1) := by decide +kernel
theorem dX5_takeToken_143 : decode cX5_takeToken 143 = .ok (.putfield 52, 3) := by decide +kernel
theorem dX5_takeToken_146 : decode cX5_takeToken 146 = .ok (.aload_n 0, 1) := by decide +kernel
theorem dX5_takeToken_147 : decode cX5_takeToken 147 = .ok (.dup, 1) := by decide +kernel
theorem dX5_takeToken_148 : decode cX5_takeToken 148 = .ok (.getfield 46, 3) := by decide +kernel
theorem dX5_takeToken_151 : decode cX5_takeToken 151 = .ok (.iconst 1, 1) := by decide +kernel
theorem dX5_takeToken_152 : decode cX5_takeToken 152 = .ok (.iadd, 1) := by decide +kernel
theorem dX5_takeToken_153 : decode cX5_takeToken 153 = .ok (.putfield 46, 3) := by decide +kernel
theorem dX5_takeToken_156 : decode cX5_takeToken 156 = .ok (.return_, 1) := by decide +kernel
theorem dX5_takeWord_0 : decode cX5_takeWord 0 = .ok (.aload_n 0, 1) := by decide +kernel
theorem dX5_takeWord_1 : decode cX5_takeWord 1 = .ok (.getfield 46, 3) := by decide +kernel
theorem dX5_takeWord_4 : decode cX5_takeWord 4 = .ok (.aload_n 0, 1) := by decide +kernel
theorem dX5_takeWord_5 : decode cX5_takeWord 5 = .ok (.getfield 43, 3) := by decide +kernel
theorem dX5_takeWord_8 : decode cX5_takeWord 8 = .ok (.if_icmp .ge 31, 3) := by decide +kernel
theorem dX5_takeWord_11 : decode cX5_takeWord 11 = .ok (.aload_n 0, 1) := by decide +kernel
theorem dX5_takeWord_12 : decode cX5_takeWord 12 = .ok (.getfield 61, 3) := by decide +kernel
theorem dX5_takeWord_15 : decode cX5_takeWord 15 = .ok (.aload_n 0, 1) := by decide +kernel
theorem dX5_takeWord_16 : decode cX5_takeWord 16 = .ok (.getfield 46, 3) := by decide +kernel
theorem dX5_takeWord_19 : decode cX5_takeWord 19 = .ok (.baload, 1) := by decide +kernel
theorem dX5_takeWord_20 : decode cX5_takeWord 20 = .ok (.invokestatic 186, 3) := by decide +kernel
theorem dX5_takeWord_23 : decode cX5_takeWord 23 = .ok (.ifCond .eq 16, 3) := by decide +kernel
theorem dX5_takeWord_26 : decode cX5_takeWord 26 = .ok (.aload_n 0, 1) := by decide +kernel
theorem dX5_takeWord_27 : decode cX5_takeWord 27 = .ok (.dup, 1) := by decide +kernel
theorem dX5_takeWord_28 : decode cX5_takeWord 28 = .ok (.getfield 46, 3) := by decide +kernel
theorem dX5_takeWord_31 : decode cX5_takeWord 31 = .ok (.iconst 1, 1) := by decide +kernel
theorem dX5_takeWord_32 : decode cX5_takeWord 32 = .ok (.iadd, 1) := by decide +kernel
theorem dX5_takeWord_33 : decode cX5_takeWord 33 = .ok (.putfield 46, 3) := by decide +kernel
theorem dX5_takeWord_36 : decode cX5_takeWord 36 = .ok (.goto (-36), 3) := by decide +kernel
theorem dX5_takeWord_39 : decode cX5_takeWord 39 = .ok (.aload_n 0, 1) := by decide +kernel
theorem dX5_takeWord_40 : decode cX5_takeWord 40 = .ok (.iconst 1, 1) := by decide +kernel
theorem dX5_takeWord_41 : decode cX5_takeWord 41 = .ok (.putfield 52, 3) := by decide +kernel
theorem dX5_takeWord_44 : decode cX5_takeWord 44 = .ok (.return_, 1) := by decide +kernel
theorem dX5_takeNumber_0 : decode cX5_takeNumber 0 = .ok (.aload_n 0, 1) := by decide +kernel
theorem dX5_takeNumber_1 : decode cX5_takeNumber 1 = .ok (.iconst 0, 1) := by decide +kernel
theorem dX5_takeNumber_2 : decode cX5_takeNumber 2 = .ok (.putfield 55, 3) := by decide +kernel
theorem dX5_takeNumber_5 : decode cX5_takeNumber 5 = .ok (.aload_n 0, 1) := by decide +kernel
theorem dX5_takeNumber_6 : decode cX5_takeNumber 6 = .ok (.getfield 46, 3) := by decide +kernel
theorem dX5_takeNumber_9 : decode cX5_takeNumber 9 = .ok (.aload_n 0, 1) := by decide +kernel
theorem dX5_takeNumber_10 : decode cX5_takeNumber 10 = .ok (.getfield 43, 3) := by decide +kernel
theorem dX5_takeNumber_13 : decode cX5_takeNumber 13 = .ok (.if_icmp .ge 58, 3) := by decide +kernel
theorem dX5_takeNumber_16 : decode cX5_takeNumber 16 = .ok (.aload_n 0, 1) := by decide +kernel
theorem dX5_takeNumber_17 : decode cX5_takeNumber 17 = .ok (.getfield 61, 3) := by decide +kernel
theorem dX5_takeNumber_20 : decode cX5_takeNumber 20 = .ok (.aload_n 0, 1) := by decide +kernel
theorem dX5_takeNumber_21 : decode cX5_takeNumber 21 = .ok (.getfield 46, 3) := by decide +kernel
theorem dX5_takeNumber_24 : decode cX5_takeNumber 24 = .ok (.baload, 1) := by decide +kernel
theorem dX5_takeNumber_25 : decode cX5_takeNumber 25 = .ok (.invokestatic 193, 3) := by decide +kernel
theorem dX5_takeNumber_28 : decode cX5_takeNumber 28 = .ok (.ifCond .eq 43, 3) := by decide +kernel
theorem dX5_takeNumber_31 : decode cX5_takeNumber 31 = .ok (.aload_n 0, 1) := by decide +kernel
theorem dX5_takeNumber_32 : decode cX5_takeNumber 32 = .ok (.bipush 10, 2) := by decide +kernel
theorem dX5_takeNumber_34 : decode cX5_takeNumber 34 = .ok (.aload_n 0, 1) := by decide +kernel
theorem dX5_takeNumber_35 : decode cX5_takeNumber 35 = .ok (.getfield 55, 3) := by decide +kernel
theorem dX5_takeNumber_38 : decode cX5_takeNumber 38 = .ok (.bipush 100, 2) := by decide +kernel
theorem dX5_takeNumber_40 : decode cX5_takeNumber 40 = .ok (.irem, 1) := by decide +kernel
theorem dX5_takeNumber_41 : decode cX5_takeNumber 41 = .ok (.imul, 1) := by decide +kernel
theorem dX5_takeNumber_42 : decode cX5_takeNumber 42 = .ok (.aload_n 0, 1) := by decide +kernel
theorem dX5_takeNumber_43 : decode cX5_takeNumber 43 = .ok (.getfield 61, 3) := by decide +kernel
theorem dX5_takeNumber_46 : decode cX5_takeNumber 46 = .ok (.aload_n 0, 1) := by decide +kernel
theorem dX5_takeNumber_47 : decode cX5_takeNumber 47 = .ok (.getfield 46, 3) := by decide +kernel
theorem dX5_takeNumber_50 : decode cX5_takeNumber 50 = .ok (.baload, 1) := by decide +kernel
theorem dX5_takeNumber_51 : decode cX5_takeNumber 51 = .ok (.iadd, 1) := by decide +kernel
theorem dX5_takeNumber_52 : decode cX5_takeNumber 52 = .ok (.bipush 48, 2) := by decide +kernel
theorem dX5_takeNumber_54 : decode cX5_takeNumber 54 = .ok (.isub, 1) := by decide +kernel
theorem dX5_takeNumber_55 : decode cX5_takeNumber 55 = .ok (.putfield 55, 3) := by decide +kernel
theorem dX5_takeNumber_58 : decode cX5_takeNumber 58 = .ok (.aload_n 0, 1) := by decide +kernel
theorem dX5_takeNumber_59 : decode cX5_takeNumber 59 = .ok (.dup, 1) := by decide +kernel
theorem dX5_takeNumber_60 : decode cX5_takeNumber 60 = .ok (.getfield 46, 3) := by decide +kernel
theorem dX5_takeNumber_63 : decode cX5_takeNumber 63 = .ok (.iconst 1, 1) := by decide +kernel
theorem dX5_takeNumber_64 : decode cX5_takeNumber 64 = .ok (.iadd, 1) := by decide +kernel
theorem dX5_takeNumber_65 : decode cX5_takeNumber 65 = .ok (.putfield 46, 3) := by decide +kernel
theorem dX5_takeNumber_68 : decode cX5_takeNumber 68 = .ok (.goto (-63), 3) := by decide +kernel
theorem dX5_takeNumber_71 : decode cX5_takeNumber 71 = .ok (.aload_n 0, 1) := by decide +kernel
theorem dX5_takeNumber_72 : decode cX5_takeNumber 72 = .ok (.aload_n 0, 1) := by decide +kernel
theorem dX5_takeNumber_73 : decode cX5_takeNumber 73 = .ok (.getfield 46, 3) := by decide +kernel
theorem dX5_takeNumber_76 : decode cX5_takeNumber 76 = .ok (.aload_n 0, 1) := by decide +kernel
theorem dX5_takeNumber_77 : decode cX5_takeNumber 77 = .ok (.getfield 49, 3) := by decide +kernel
theorem dX5_takeNumber_80 : decode cX5_takeNumber 80 = .ok (.isub, 1) := by decide +kernel
theorem dX5_takeNumber_81 : decode cX5_takeNumber 81 = .ok (.iconst 2, 1) := by decide +kernel
theorem dX5_takeNumber_82 : decode cX5_takeNumber 82 = .ok (.if_icmp .le 7, 3) := by decide +kernel
theorem dX5_takeNumber_85 : decode cX5_takeNumber 85 = .ok (.iconst 4, 1) := by decide +kernel
theorem dX5_takeNumber_86 : decode cX5_takeNumber 86 = .ok (.goto 4, 3) := by decide +kernel
theorem dX5_takeNumber_89 : decode cX5_takeNumber 89 = .ok (.iconst 2, 1) := by decide +kernel
theorem dX5_takeNumber_90 : decode cX5_takeNumber 90 = .ok (.putfield 52, 3) := by decide +kernel
theorem dX5_takeNumber_93 : decode cX5_takeNumber 93 = .ok (.return_, 1) := by decide +kernel
theorem dX5_isLetter_0 : decode cX5_isLetter 0 = .ok (.iload_n 0, 1) := by decide +kernel
theorem dX5_isLetter_1 : decode cX5_isLetter 1 = .ok (.bipush 97, 2) := by decide +kernel
theorem dX5_isLetter_3 : decode cX5_isLetter 3 = .ok (.if_icmp .lt 13, 3) := by decide +kernel
theorem dX5_isLetter_6 : decode cX5_isLetter 6 = .ok (.iload_n 0, 1) := by decide +kernel
theorem dX5_isLetter_7 : decode cX5_isLetter 7 = .ok (.bipush 122, 2) := by decide +kernel
theorem dX5_isLetter_9 : decode cX5_isLetter 9 = .ok (.if_icmp .gt 7, 3) := by decide +kernel
theorem dX5_isLetter_12 : decode cX5_isLetter 12 = .ok (.iconst 1, 1) := by decide +kernel
theorem dX5_isLetter_13 : decode cX5_isLetter 13 = .ok (.goto 4, 3) := by decide +kernel
theorem dX5_isLetter_16 : decode cX5_isLetter 16 = .ok (.iconst 0, 1) := by decide +kernel
theorem dX5_isLetter_17 : decode cX5_isLetter 17 = .ok (.ireturn, 1) := by decide +kernel
theorem dX5_isDigit_0 : decode cX5_isDigit 0 = .ok (.iload_n 0, 1) := by decide +kernel
theorem dX5_isDigit_1 : decode cX5_isDigit 1 = .ok (.bipush 48, 2) := by decide +kernel
theorem dX5_isDigit_3 : decode cX5_isDigit 3 = .ok (.if_icmp .lt 13, 3) := by decide +kernel
theorem dX5_isDigit_6 : decode cX5_isDigit 6 = .ok (.iload_n 0, 1) := by decide +kernel
theorem dX5_isDigit_7 : decode cX5_isDigit 7 = .ok (.bipush 57, 2) := by decide +kernel
theorem dX5_isDigit_9 : decode cX5_isDigit 9 = .ok (.if_icmp .gt 7, 3) := by decide +kernel
theorem dX5_isDigit_12 : decode cX5_isDigit 12 = .ok (.iconst 1, 1) := by decide +kernel
theorem dX5_isDigit_13 : decode cX5_isDigit 13 = .ok (.goto 4, 3) := by decide +kernel
theorem dX5_isDigit_16 : decode cX5_isDigit 16 = .ok (.iconst 0, 1) := by decide +kernel
theorem dX5_isDigit_17 : decode cX5_isDigit 17 = .ok (.ireturn, 1) := by decide +kernel
theorem dX5_isWord_0 : decode cX5_isWord 0 = .ok (.aload_n 0, 1) := by decide +kernel
theorem dX5_isWord_1 : decode cX5_isWord 1 = .ok (.getfield 46, 3) := by decide +kernel
theorem dX5_isWord_4 : decode cX5_isWord 4 = .ok (.aload_n 0, 1) := by decide +kernel
theorem dX5_isWord_5 : decode cX5_isWord 5 = .ok (.getfield 49, 3) := by decide +kernel
theorem dX5_isWord_8 : decode cX5_isWord 8 = .ok (.isub, 1) := by decide +kernel
theorem dX5_isWord_9 : decode cX5_isWord 9 = .ok (.aload_n 1, 1) := by decide +kernel
theorem dX5_isWord_10 : decode cX5_isWord 10 = .ok (.invokevirtual 199, 3) := by decide +kernel
theorem dX5_isWord_13 : decode cX5_isWord 13 = .ok (.if_icmp .eq 5, 3) := by decide +kernel
theorem dX5_isWord_16 : decode cX5_isWord 16 = .ok (.iconst 0, 1) := by decide +kernel
theorem dX5_isWord_17 : decode cX5_isWord 17 = .ok (.ireturn, 1) := by decide +kernel
theorem dX5_isWord_18 : decode cX5_isWord 18 = .ok (.iconst 0, 1) := by decide +kernel
theorem dX5_isWord_19 : decode cX5_isWord 19 = .ok (.istore_n 2, 1) := by decide +kernel
theorem dX5_isWord_20 : decode cX5_isWord 20 = .ok (.iload_n 2, 1) := by decide +kernel
theorem dX5_isWord_21 : decode cX5_isWord 21 = .ok (.aload_n 1, 1) := by decide +kernel
theorem dX5_isWord_22 : decode cX5_isWord 22 = .ok (.invokevirtual 199, 3) := by decide +kernel
theorem dX5_isWord_25 : decode cX5_isWord 25 = .ok (.if_icmp .ge 30, 3) := by decide +kernel
theorem dX5_isWord_28 : decode cX5_isWord 28 = .ok (.aload_n 0, 1) := by decide +kernel
theorem dX5_isWord_29 : decode cX5_isWord 29 = .ok (.getfield 61, 3) := by decide +kernel
theorem dX5_isWord_32 : decode cX5_isWord 32 = .ok (.aload_n 0, 1) := by decide +kernel
theorem dX5_isWord_33 : decode cX5_isWord 33 = .ok (.getfield 49, 3) := by decide +kernel
theorem dX5_isWord_36 : decode cX5_isWord 36 = .ok (.iload_n 2, 1) := by decide +kernel
theorem dX5_isWord_37 : decode cX5_isWord 37 = .ok (.iadd, 1) := by decide +kernel
theorem dX5_isWord_38 : decode cX5_isWord 38 = .ok (.baload, 1) := by decide +kernel
theorem dX5_isWord_39 : decode cX5_isWord 39 = .ok (.aload_n 1, 1) := by decide +kernel
theorem dX5_isWord_40 : decode cX5_isWord 40 = .ok (.iload_n 2, 1) := by decide +kernel
theorem dX5_isWord_41 : decode cX5_isWord 41 = .ok (.invokevirtual 203, 3) := by decide +kernel
theorem dX5_isWord_44 : decode cX5_isWord 44 = .ok (.if_icmp .eq 5, 3) := by decide +kernel
theorem dX5_isWord_47 : decode cX5_isWord 47 = .ok (.iconst 0, 1) := by decide +kernel
theorem dX5_isWord_48 : decode cX5_isWord 48 = .ok (.ireturn, 1) := by decide +kernel
theorem dX5_isWord_49 : decode cX5_isWord 49 = .ok (.iinc 2 1, 3) := by decide +kernel
theorem dX5_isWord_52 : decode cX5_isWord 52 = .ok (.goto (-32), 3) := by decide +kernel
theorem dX5_isWord_55 : decode cX5_isWord 55 = .ok (.iconst 1, 1) := by decide +kernel
theorem dX5_isWord_56 : decode cX5_isWord 56 = .ok (.ireturn, 1) := by decide +kernel
theorem dX11_init_0 : decode cX11_init 0 = .ok (.aload_n 0, 1) := by decide +kernel
theorem dX11_init_1 : decode cX11_init 1 = .ok (.invokespecial 1, 3) := by decide +kernel
theorem dX11_init_4 : decode cX11_init 4 = .ok (.aload_n 0, 1) := by decide +kernel
theorem dX11_init_5 : decode cX11_init 5 = .ok (.new 7, 3) := by decide +kernel
theorem dX11_init_8 : decode cX11_init 8 = .ok (.dup, 1) := by decide +kernel
theorem dX11_init_9 : decode cX11_init 9 = .ok (.invokespecial 9, 3) := by decide +kernel
theorem dX11_init_12 : decode cX11_init 12 = .ok (.putfield 10, 3) := by decide +kernel
theorem dX11_init_15 : decode cX11_init 15 = .ok (.aload_n 0, 1) := by decide +kernel
theorem dX11_init_16 : decode cX11_init 16 = .ok (.iconst 3, 1) := by decide +kernel
theorem dX11_init_17 : decode cX11_init 17 = .ok (.anewarray 7, 3) := by decide +kernel
theorem dX11_init_20 : decode cX11_init 20 = .ok (.putfield 16, 3) := by decide +kernel
theorem dX11_init_23 : decode cX11_init 23 = .ok (.aload_n 0, 1) := by decide +kernel
theorem dX11_init_24 : decode cX11_init 24 = .ok (.new 20, 3) := by decide +kernel
theorem dX11_init_27 : decode cX11_init 27 = .ok (.dup, 1) := by decide +kernel
theorem dX11_init_28 : decode cX11_init 28 = .ok (.aload_n 0, 1) := by decide +kernel
theorem dX11_init_29 : decode cX11_init 29 = .ok (.getfield 10, 3) := by decide +kernel
theorem dX11_init_32 : decode cX11_init 32 = .ok (.getfield 22, 3) := by decide +kernel
theorem dX11_init_35 : decode cX11_init 35 = .ok (.invokespecial 26, 3) := by decide +kernel
theorem dX11_init_38 : decode cX11_init 38 = .ok (.putfield 29, 3) := by decide +kernel
theorem dX11_init_41 : decode cX11_init 41 = .ok (.aload_n 0, 1) := by decide +kernel
theorem dX11_init_42 : decode cX11_init 42 = .ok (.new 33, 3) := by decide +kernel
theorem dX11_init_45 : decode cX11_init 45 = .ok (.dup, 1) := by decide +kernel
theorem dX11_init_46 : decode cX11_init 46 = .ok (.invokespecial 35, 3) := by decide +kernel
theorem dX11_init_49 : decode cX11_init 49 = .ok (.putfield 36, 3) := by decide +kernel
theorem dX11_init_52 : decode cX11_init 52 = .ok (.aload_n 0, 1) := by decide +kernel
theorem dX11_init_53 : decode cX11_init 53 = .ok (.new 40, 3) := by decide +kernel
theorem dX11_init_56 : decode cX11_init 56 = .ok (.dup, 1) := by decide +kernel
theorem dX11_init_57 : decode cX11_init 57 = .ok (.invokespecial 42, 3) := by decide +kernel
theorem dX11_init_60 : decode cX11_init 60 = .ok (.putfield 43, 3) := by decide +kernel
theorem dX11_init_63 : decode cX11_init 63 = .ok (.aload_n 0, 1) := by decide +kernel
theorem dX11_init_64 : decode cX11_init 64 = .ok (.new 47, 3) := by decide +kernel
theorem dX11_init_67 : decode cX11_init 67 = .ok (.dup, 1) := by decide +kernel
theorem dX11_init_68 : decode cX11_init 68 = .ok (.invokespecial 49, 3) := by decide +kernel
theorem dX11_init_71 : decode cX11_init 71 = .ok (.putfield 50, 3) := by decide +kernel
theorem dX11_init_74 : decode cX11_init 74 = .ok (.aload_n 0, 1) := by decide +kernel
theorem dX11_init_75 : decode cX11_init 75 = .ok (.new 54, 3) := by decide +kernel
theorem dX11_init_78 : decode cX11_init 78 = .ok (.dup, 1) := by decide +kernel
theorem dX11_init_79 : decode cX11_init 79 = .ok (.invokespecial 56, 3) := by decide +kernel
theorem dX11_init_82 : decode cX11_init 82 = .ok (.putfield 57, 3) := by decide +kernel
theorem dX11_init_85 : decode cX11_init 85 = .ok (.return_, 1) := by decide +kernel
theorem dX11_feed_0 : decode cX11_feed 0 = .ok (.aload_n 0, 1) := by decide +kernel
theorem dX11_feed_1 : decode cX11_feed 1 = .ok (.getfield 10, 3) := by decide +kernel
theorem dX11_feed_4 : decode cX11_feed 4 = .ok (.getfield 61, 3) := by decide +kernel
theorem dX11_feed_7 : decode cX11_feed 7 = .ok (.bipush 20, 2) := by decide +kernel
theorem dX11_feed_9 : decode cX11_feed 9 = .ok (.iadd, 1) := by decide +kernel
theorem dX11_feed_10 : decode cX11_feed 10 = .ok (.sipush 600, 3) := by decide +kernel
theorem dX11_feed_13 : decode cX11_feed 13 = .ok (.if_icmp .le 5, 3) := by decide +kernel
theorem dX11_feed_16 : decode cX11_feed 16 = .ok (.iconst (-1), 1) := by decide +kernel
theorem dX11_feed_17 : decode cX11_feed 17 = .ok (.ireturn, 1) := by decide +kernel
theorem dX11_feed_18 : decode cX11_feed 18 = .ok (.aload_n 0, 1) := by decide +kernel
theorem dX11_feed_19 : decode cX11_feed 19 = .ok (.getfield 10, 3) := by decide +kernel
theorem dX11_feed_22 : decode cX11_feed 22 = .ok (.iload_n 1, 1) := by decide +kernel
theorem dX11_feed_23 : decode cX11_feed 23 = .ok (.invokevirtual 65, 3) := by decide +kernel
theorem dX11_feed_26 : decode cX11_feed 26 = .ok (.aload_n 0, 1) := by decide +kernel
theorem dX11_feed_27 : decode cX11_feed 27 = .ok (.getfield 10, 3) := by decide +kernel
theorem dX11_feed_30 : decode cX11_feed 30 = .ok (.iload_n 2, 1) := by decide +kernel
theorem dX11_feed_31 : decode cX11_feed 31 = .ok (.invokevirtual 65, 3) := by decide +kernel
theorem dX11_feed_34 : decode cX11_feed 34 = .ok (.aload_n 0, 1) := by decide +kernel
theorem dX11_feed_35 : decode cX11_feed 35 = .ok (.getfield 10, 3) := by decide +kernel
theorem dX11_feed_38 : decode cX11_feed 38 = .ok (.iload_n 3, 1) := by decide +kernel
theorem dX11_feed_39 : decode cX11_feed 39 = .ok (.invokevirtual 65, 3) := by decide +kernel
theorem dX11_feed_42 : decode cX11_feed 42 = .ok (.aload_n 0, 1) := by decide +kernel
theorem dX11_feed_43 : decode cX11_feed 43 = .ok (.getfield 10, 3) := by decide +kernel
theorem dX11_feed_46 : decode cX11_feed 46 = .ok (.iload 4, 2) := by decide +kernel
theorem dX11_feed_48 : decode cX11_feed 48 = .ok (.invokevirtual 65, 3) := by decide +kernel
theorem dX11_feed_51 : decode cX11_feed 51 = .ok (.aload_n 0, 1) := by decide +kernel
theorem dX11_feed_52 : decode cX11_feed 52 = .ok (.getfield 10, 3) := by decide +kernel
theorem dX11_feed_55 : decode cX11_feed 55 = .ok (.iload 5, 2) := by decide +kernel
theorem dX11_feed_57 : decode cX11_feed 57 = .ok (.invokevirtual 65, 3) := by decide +kernel
theorem dX11_feed_60 : decode cX11_feed 60 = .ok (.aload_n 0, 1) := by decide +kernel
theorem dX11_feed_61 : decode cX11_feed 61 = .ok (.getfield 10, 3) := by decide +kernel
theorem dX11_feed_64 : decode cX11_feed 64 = .ok (.getfield 61, 3) := by decide +kernel
theorem dX11_feed_67 : decode cX11_feed 67 = .ok (.ireturn, 1) := by decide +kernel
theorem dX11_end_0 : decode cX11_end 0 = .ok (.iload_n 1, 1) := by decide +kernel
theorem dX11_end_1 : decode cX11_end 1 = .ok (.ifCond .lt 14, 3) := by decide +kernel
theorem dX11_end_4 : decode cX11_end 4 = .ok (.iload_n 1, 1) := by decide +kernel
theorem dX11_end_5 : decode cX11_end 5 = .ok (.aload_n 0, 1) := by decide +kernel
theorem dX11_end_6 : decode cX11_end 6 = .ok (.getfield 10, 3) := by decide +kernel
theorem dX11_end_9 : decode cX11_end 9 = .ok (.getfield 61, 3) := by decide +kernel
theorem dX11_end_12 : decode cX11_end 12 = .ok (.if_icmp .le 5, 3) := by decide +kernel
theorem dX11_end_15 : decode cX11_end 15 = .ok (.iconst (-1), 1) := by decide +kernel
theorem dX11_end_16 : decode cX11_end 16 = .ok (.ireturn, 1) := by decide +kernel
theorem dX11_end_17 : decode cX11_end 17 = .ok (.aload_n 0, 1) := by decide +kernel
theorem dX11_end_18 : decode cX11_end 18 = .ok (.getfield 10, 3) := by decide +kernel
theorem dX11_end_21 : decode cX11_end 21 = .ok (.iload_n 1, 1) := by decide +kernel
theorem dX11_end_22 : decode cX11_end 22 = .ok (.putfield 61, 3) := by decide +kernel
theorem dX11_end_25 : decode cX11_end 25 = .ok (.iload_n 1, 1) := by decide +kernel
theorem dX11_end_26 : decode cX11_end 26 = .ok (.ireturn, 1) := by decide +kernel
theorem dX11_text_0 : decode cX11_text 0 = .ok (.aload_n 0, 1) := by decide +kernel
theorem dX11_text_1 : decode cX11_text 1 = .ok (.getfield 10, 3) := by decide +kernel
theorem dX11_text_4 : decode cX11_text 4 = .ok (.getfield 61, 3) := by decide +kernel
theorem dX11_text_7 : decode cX11_text 7 = .ok (.istore_n 3, 1) := by decide +kernel
theorem dX11_text_8 : decode cX11_text 8 = .ok (.aload_n 0, 1) := by decide +kernel
theorem dX11_text_9 : decode cX11_text 9 = .ok (.getfield 10, 3) := by decide +kernel
theorem dX11_text_12 : decode cX11_text 12 = .ok (.iconst 0, 1) := by decide +kernel
theorem dX11_text_13 : decode cX11_text 13 = .ok (.putfield 61, 3) := by decide +kernel
theorem dX11_text_16 : decode cX11_text 16 = .ok (.aload_n 0, 1) := by decide +kernel
theorem dX11_text_17 : decode cX11_text 17 = .ok (.getfield 10, 3) := by decide +kernel
theorem dX11_text_20 : decode cX11_text 20 = .ok (.iconst 0, 1) := by decide +kernel
theorem dX11_text_21 : decode cX11_text 21 = .ok (.putfield 69, 3) := by decide +kernel
theorem dX11_text_24 : decode cX11_text 24 = .ok (.aload_n 0, 1) := by decide +kernel
theorem dX11_text_25 : decode cX11_text 25 = .ok (.getfield 10, 3) := by decide +kernel
theorem dX11_text_28 : decode cX11_text 28 = .ok (.iconst (-1), 1) := by decide +kernel
theorem dX11_text_29 : decode cX11_text 29 = .ok (.putfield 72, 3) := by decide +kernel
theorem dX11_text_32 : decode cX11_text 32 = .ok (.aload_n 0, 1) := by decide +kernel
theorem dX11_text_33 : decode cX11_text 33 = .ok (.getfield 10, 3) := by decide +kernel
theorem dX11_text_36 : decode cX11_text 36 = .ok (.iload_n 1, 1) := by decide +kernel
theorem dX11_text_37 : decode cX11_text 37 = .ok (.iload_n 2, 1) := by decide +kernel
theorem dX11_text_38 : decode cX11_text 38 = .ok (.invokevirtual 75, 3) := by decide +kernel
theorem dX11_text_41 : decode cX11_text 41 = .ok (.ifCond .ne 6, 3) := by decide +kernel
theorem dX11_text_44 : decode cX11_text 44 = .ok (.bipush (-2), 2) := by decide +kernel
theorem dX11_text_46 : decode cX11_text 46 = .ok (.ireturn, 1) := by decide +kernel
theorem dX11_text_47 : decode cX11_text 47 = .ok (.aload_n 0, 1) := by decide +kernel
theorem dX11_text_48 : decode cX11_text 48 = .ok (.getfield 29, 3) := by decide +kernel
theorem dX11_text_51 : decode cX11_text 51 = .ok (.iload_n 1, 1) := by decide +kernel
theorem dX11_text_52 : decode cX11_text 52 = .ok (.iload_n 3, 1) := by decide +kernel
theorem dX11_text_53 : decode cX11_text 53 = .ok (.invokevirtual 79, 3) := by decide +kernel
theorem dX11_text_56 : decode cX11_text 56 = .ok (.aload_n 0, 1) := by decide +kernel
theorem dX11_text_57 : decode cX11_text 57 = .ok (.getfield 10, 3) := by decide +kernel
theorem dX11_text_60 : decode cX11_text 60 = .ok (.aload_n 0, 1) := by decide +kernel
theorem dX11_text_61 : decode cX11_text 61 = .ok (.getfield 29, 3) := by decide +kernel
theorem dX11_text_64 : decode cX11_text 64 = .ok (.getfield 83, 3) := by decide +kernel
theorem dX11_text_67 : decode cX11_text 67 = .ok (.putfield 69, 3) := by decide +kernel
theorem dX11_text_70 : decode cX11_text 70 = .ok (.aload_n 0, 1) := by decide +kernel
theorem dX11_text_71 : decode cX11_text 71 = .ok (.getfield 10, 3) := by decide +kernel
theorem dX11_text_74 : decode cX11_text 74 = .ok (.aload_n 0, 1) := by decide +kernel
theorem dX11_text_75 : decode cX11_text 75 = .ok (.getfield 29, 3) := by decide +kernel
theorem dX11_text_78 : decode cX11_text 78 = .ok (.getfield 84, 3) := by decide +kernel
theorem dX11_text_81 : decode cX11_text 81 = .ok (.putfield 72, 3) := by decide +kernel
theorem dX11_text_84 : decode cX11_text 84 = .ok (.aload_n 0, 1) := by decide +kernel
theorem dX11_text_85 : decode cX11_text 85 = .ok (.getfield 29, 3) := by decide +kernel
theorem dX11_text_88 : decode cX11_text 88 = .ok (.getfield 83, 3) := by decide +kernel
theorem dX11_text_91 : decode cX11_text 91 = .ok (.ifCond .ne 19, 3) := by decide +kernel
theorem dX11_text_94 : decode cX11_text 94 = .ok (.aload_n 0, 1) := by decide +kernel
theorem dX11_text_95 : decode cX11_text 95 = .ok (.getfield 10, 3) := by decide +kernel
theorem dX11_text_98 : decode cX11_text 98 = .ok (.iload_n 1, 1) := by decide +kernel
theorem dX11_text_99 : decode cX11_text 99 = .ok (.iload_n 2, 1) := by decide +kernel
theorem dX11_text_100 : decode cX11_text 100 = .ok (.aload_n 0, 1) := by decide +kernel
theorem dX11_text_101 : decode cX11_text 101 = .ok (.getfield 29, 3) := by decide +kernel
theorem dX11_text_104 : decode cX11_text 104 = .ok (.invokevirtual 85, 3) := by decide +kernel
theorem dX11_text_107 : decode cX11_text 107 = .ok (.goto 4, 3) := by decide +kernel
theorem dX11_text_110 : decode cX11_text 110 = .ok (.iconst (-1), 1) := by decide +kernel
theorem dX11_text_111 : decode cX11_text 111 = .ok (.ireturn, 1) := by decide +kernel
theorem dX11_fault_0 : decode cX11_fault 0 = .ok (.iload_n 1, 1) := by decide +kernel
theorem dX11_fault_1 : decode cX11_fault 1 = .ok (.ifCond .ne 11, 3) := by decide +kernel
theorem dX11_fault_4 : decode cX11_fault 4 = .ok (.aload_n 0, 1) := by decide +kernel
theorem dX11_fault_5 : decode cX11_fault 5 = .ok (.getfield 10, 3) := by decide +kernel
theorem dX11_fault_8 : decode cX11_fault 8 = .ok (.getfield 69, 3) := by decide +kernel
theorem dX11_fault_11 : decode cX11_fault 11 = .ok (.ireturn, 1) := by decide +kernel
theorem dX11_fault_12 : decode cX11_fault 12 = .ok (.iload_n 1, 1) := by decide +kernel
theorem dX11_fault_13 : decode cX11_fault 13 = .ok (.iconst 1, 1) := by decide +kernel
theorem dX11_fault_14 : decode cX11_fault 14 = .ok (.if_icmp .ne 13, 3) := by decide +kernel
theorem dX11_fault_17 : decode cX11_fault 17 = .ok (.aload_n 0, 1) := by decide +kernel
theorem dX11_fault_18 : decode cX11_fault 18 = .ok (.getfield 10, 3) := by decide +kernel
theorem dX11_fault_21 : decode cX11_fault 21 = .ok (.getfield 72, 3) := by decide +kernel
theorem dX11_fault_24 : decode cX11_fault 24 = .ok (.goto 4, 3) := by decide +kernel
theorem dX11_fault_27 : decode cX11_fault 27 = .ok (.iconst (-1), 1) := by decide +kernel
theorem dX11_fault_28 : decode cX11_fault 28 = .ok (.ireturn, 1) := by decide +kernel
theorem dX11_town_0 : decode cX11_town 0 = .ok (.aload_n 0, 1) := by decide +kernel
theorem dX11_town_1 : decode cX11_town 1 = .ok (.getfield 10, 3) := by decide +kernel
theorem dX11_town_4 : decode cX11_town 4 = .ok (.iload_n 1, 1) := by decide +kernel
theorem dX11_town_5 : decode cX11_town 5 = .ok (.invokevirtual 89, 3) := by decide +kernel
theorem dX11_town_8 : decode cX11_town 8 = .ok (.astore_n 3, 1) := by decide +kernel
theorem dX11_town_9 : decode cX11_town 9 = .ok (.aload_n 3, 1) := by decide +kernel
theorem dX11_town_10 : decode cX11_town 10 = .ok (.ifnonnull 7, 3) := by decide +kernel
theorem dX11_town_13 : decode cX11_town 13 = .ok (.iconst (-1), 1) := by decide +kernel
theorem dX11_town_14 : decode cX11_town 14 = .ok (.goto 8, 3) := by decide +kernel
theorem dX11_town_17 : decode cX11_town 17 = .ok (.aload_n 3, 1) := by decide +kernel
theorem dX11_town_18 : decode cX11_town 18 = .ok (.iload_n 2, 1) := by decide +kernel
theorem dX11_town_19 : decode cX11_town 19 = .ok (.invokevirtual 93, 3) := by decide +kernel
theorem dX11_town_22 : decode cX11_town 22 = .ok (.ireturn, 1) := by decide +kernel
theorem dX11_deed_0 : decode cX11_deed 0 = .ok (.aload_n 0, 1) := by decide +kernel
theorem dX11_deed_1 : decode cX11_deed 1 = .ok (.getfield 10, 3) := by decide +kernel
theorem dX11_deed_4 : decode cX11_deed 4 = .ok (.iload_n 1, 1) := by decide +kernel
theorem dX11_deed_5 : decode cX11_deed 5 = .ok (.invokevirtual 99, 3) := by decide +kernel
theorem dX11_deed_8 : decode cX11_deed 8 = .ok (.astore 4, 2) := by decide +kernel
theorem dX11_deed_10 : decode cX11_deed 10 = .ok (.aload 4, 2) := by decide +kernel
theorem dX11_deed_12 : decode cX11_deed 12 = .ok (.ifnonnull 8, 3) := by decide +kernel
theorem dX11_deed_15 : decode cX11_deed 15 = .ok (.bipush (-2), 2) := by decide +kernel
theorem dX11_deed_17 : decode cX11_deed 17 = .ok (.goto 10, 3) := by decide +kernel
theorem dX11_deed_20 : decode cX11_deed 20 = .ok (.aload 4, 2) := by decide +kernel
theorem dX11_deed_22 : decode cX11_deed 22 = .ok (.iload_n 2, 1) := by decide +kernel
theorem dX11_deed_23 : decode cX11_deed 23 = .ok (.iload_n 3, 1) := by decide +kernel
theorem dX11_deed_24 : decode cX11_deed 24 = .ok (.invokevirtual 103, 3) := by decide +kernel
theorem dX11_deed_27 : decode cX11_deed 27 = .ok (.ireturn, 1) := by decide +kernel
theorem dX11_till_0 : decode cX11_till 0 = .ok (.aload_n 0, 1) := by decide +kernel
theorem dX11_till_1 : decode cX11_till 1 = .ok (.getfield 10, 3) := by decide +kernel
theorem dX11_till_4 : decode cX11_till 4 = .ok (.iload_n 1, 1) := by decide +kernel
theorem dX11_till_5 : decode cX11_till 5 = .ok (.invokevirtual 89, 3) := by decide +kernel
theorem dX11_till_8 : decode cX11_till 8 = .ok (.astore_n 3, 1) := by decide +kernel
theorem dX11_till_9 : decode cX11_till 9 = .ok (.aload_n 0, 1) := by decide +kernel
theorem dX11_till_10 : decode cX11_till 10 = .ok (.getfield 10, 3) := by decide +kernel
theorem dX11_till_13 : decode cX11_till 13 = .ok (.iload_n 2, 1) := by decide +kernel
theorem dX11_till_14 : decode cX11_till 14 = .ok (.invokevirtual 99, 3) := by decide +kernel
theorem dX11_till_17 : decode cX11_till 17 = .ok (.astore 4, 2) := by decide +kernel
theorem dX11_till_19 : decode cX11_till 19 = .ok (.aload_n 3, 1) := by decide +kernel
theorem dX11_till_20 : decode cX11_till 20 = .ok (.ifnull 8, 3) := by decide +kernel
theorem dX11_till_23 : decode cX11_till 23 = .ok (.aload 4, 2) := by decide +kernel
theorem dX11_till_25 : decode cX11_till 25 = .ok (.ifnonnull 7, 3) := by decide +kernel
theorem dX11_till_28 : decode cX11_till 28 = .ok (.iconst (-1), 1) := by decide +kernel
theorem dX11_till_29 : decode cX11_till 29 = .ok (.goto 18, 3) := by decide +kernel
theorem dX11_till_32 : decode cX11_till 32 = .ok (.aload_n 0, 1) := by decide +kernel
theorem dX11_till_33 : decode cX11_till 33 = .ok (.getfield 36, 3) := by decide +kernel
theorem dX11_till_36 : decode cX11_till 36 = .ok (.aload_n 3, 1) := by decide +kernel
theorem dX11_till_37 : decode cX11_till 37 = .ok (.aload 4, 2) := by decide +kernel
theorem dX11_till_39 : decode cX11_till 39 = .ok (.aload 4, 2) := by decide +kernel
theorem dX11_till_41 : decode cX11_till 41 = .ok (.getfield 108, 3) := by decide +kernel
theorem dX11_till_44 : decode cX11_till 44 = .ok (.invokevirtual 111, 3) := by decide +kernel
theorem dX11_till_47 : decode cX11_till 47 = .ok (.ireturn, 1) := by decide +kernel
theorem dX11_state_0 : decode cX11_state 0 = .ok (.aload_n 0, 1) := by decide +kernel
theorem dX11_state_1 : decode cX11_state 1 = .ok (.getfield 10, 3) := by decide +kernel
theorem dX11_state_4 : decode cX11_state 4 = .ok (.iload_n 1, 1) := by decide +kernel
theorem dX11_state_5 : decode cX11_state 5 = .ok (.invokevirtual 89, 3) := by decide +kernel
theorem dX11_state_8 : decode cX11_state 8 = .ok (.astore 5, 2) := by decide +kernel
theorem dX11_state_10 : decode cX11_state 10 = .ok (.aload_n 0, 1) := by decide +kernel
theorem dX11_state_11 : decode cX11_state 11 = .ok (.getfield 10, 3) := by decide +kernel
theorem dX11_state_14 : decode cX11_state 14 = .ok (.iload_n 2, 1) := by decide +kernel
theorem dX11_state_15 : decode cX11_state 15 = .ok (.invokevirtual 99, 3) := by decide +kernel
theorem dX11_state_18 : decode cX11_state 18 = .ok (.astore 6, 2) := by decide +kernel
theorem dX11_state_20 : decode cX11_state 20 = .ok (.aload 5, 2) := by decide +kernel
theorem dX11_state_22 : decode cX11_state 22 = .ok (.ifnull 37, 3) := by decide +kernel
theorem dX11_state_25 : decode cX11_state 25 = .ok (.aload 6, 2) := by decide +kernel
theorem dX11_state_27 : decode cX11_state 27 = .ok (.ifnull 32, 3) := by decide +kernel
theorem dX11_state_30 : decode cX11_state 30 = .ok (.iload_n 3, 1) := by decide +kernel
theorem dX11_state_31 : decode cX11_state 31 = .ok (.ifCond .lt 28, 3) := by decide +kernel
theorem dX11_state_34 : decode cX11_state 34 = .ok (.iload_n 3, 1) := by decide +kernel
theorem dX11_state_35 : decode cX11_state 35 = .ok (.aload 6, 2) := by decide +kernel
theorem dX11_state_37 : decode cX11_state 37 = .ok (.getfield 108, 3) := by decide +kernel
theorem dX11_state_40 : decode cX11_state 40 = .ok (.if_icmp .gt 19, 3) := by decide +kernel
theorem dX11_state_43 : decode cX11_state 43 = .ok (.aload_n 0, 1) := by decide +kernel
theorem dX11_state_44 : decode cX11_state 44 = .ok (.getfield 36, 3) := by decide +kernel
theorem dX11_state_47 : decode cX11_state 47 = .ok (.aload 5, 2) := by decide +kernel
theorem dX11_state_49 : decode cX11_state 49 = .ok (.aload 6, 2) := by decide +kernel
theorem dX11_state_51 : decode cX11_state 51 = .ok (.iload_n 3, 1) := by decide +kernel
theorem dX11_state_52 : decode cX11_state 52 = .ok (.invokevirtual 111, 3) := by decide +kernel
theorem dX11_state_55 : decode cX11_state 55 = .ok (.iload_n 3, 1) := by decide +kernel
theorem dX11_state_56 : decode cX11_state 56 = .ok (.if_icmp .ge 5, 3) := by decide +kernel
theorem dX11_state_59 : decode cX11_state 59 = .ok (.iconst (-1), 1) := by decide +kernel
theorem dX11_state_60 : decode cX11_state 60 = .ok (.ireturn, 1) := by decide +kernel
theorem dX11_state_61 : decode cX11_state 61 = .ok (.aload_n 0, 1) := by decide +kernel
theorem dX11_state_62 : decode cX11_state 62 = .ok (.getfield 36, 3) := by decide +kernel
theorem dX11_state_65 : decode cX11_state 65 = .ok (.iload 4, 2) := by decide +kernel
theorem dX11_state_67 : decode cX11_state 67 = .ok (.invokevirtual 115, 3) := by decide +kernel
theorem dX11_state_70 : decode cX11_state 70 = .ok (.ireturn, 1) := by decide +kernel
theorem dX11_court_0 : decode cX11_court 0 = .ok (.aload_n 0, 1) := by decide +kernel
theorem dX11_court_1 : decode cX11_court 1 = .ok (.getfield 10, 3) := by decide +kernel
theorem dX11_court_4 : decode cX11_court 4 = .ok (.iload_n 1, 1) := by decide +kernel
theorem dX11_court_5 : decode cX11_court 5 = .ok (.invokevirtual 89, 3) := by decide +kernel
theorem dX11_court_8 : decode cX11_court 8 = .ok (.astore 4, 2) := by decide +kernel
theorem dX11_court_10 : decode cX11_court 10 = .ok (.aload 4, 2) := by decide +kernel
theorem dX11_court_12 : decode cX11_court 12 = .ok (.ifnull 12, 3) := by decide +kernel
theorem dX11_court_15 : decode cX11_court 15 = .ok (.aload 4, 2) := by decide +kernel
theorem dX11_court_17 : decode cX11_court 17 = .ok (.iload_n 2, 1) := by decide +kernel
theorem dX11_court_18 : decode cX11_court 18 = .ok (.invokevirtual 116, 3) := by decide +kernel
theorem dX11_court_21 : decode cX11_court 21 = .ok (.ifCond .ne 7, 3) := by decide +kernel
theorem dX11_court_24 : decode cX11_court 24 = .ok (.iconst (-1), 1) := by decide +kernel
theorem dX11_court_25 : decode cX11_court 25 = .ok (.goto 10, 3) := by decide +kernel
theorem dX11_court_28 : decode cX11_court 28 = .ok (.aload 4, 2) := by decide +kernel
theorem dX11_court_30 : decode cX11_court 30 = .ok (.iload_n 2, 1) := by decide +kernel
theorem dX11_court_31 : decode cX11_court 31 = .ok (.iload_n 3, 1) := by decide +kernel
theorem dX11_court_32 : decode cX11_court 32 = .ok (.invokestatic 120, 3) := by decide +kernel
theorem dX11_court_35 : decode cX11_court 35 = .ok (.ireturn, 1) := by decide +kernel
theorem dX11_rota_0 : decode cX11_rota 0 = .ok (.aload_n 0, 1) := by decide +kernel
theorem dX11_rota_1 : decode cX11_rota 1 = .ok (.getfield 10, 3) := by decide +kernel
theorem dX11_rota_4 : decode cX11_rota 4 = .ok (.iload_n 1, 1) := by decide +kernel
theorem dX11_rota_5 : decode cX11_rota 5 = .ok (.invokevirtual 89, 3) := by decide +kernel
theorem dX11_rota_8 : decode cX11_rota 8 = .ok (.astore_n 3, 1) := by decide +kernel
theorem dX11_rota_9 : decode cX11_rota 9 = .ok (.aload_n 3, 1) := by decide +kernel
theorem dX11_rota_10 : decode cX11_rota 10 = .ok (.ifnonnull 8, 3) := by decide +kernel
theorem dX11_rota_13 : decode cX11_rota 13 = .ok (.bipush (-2), 2) := by decide +kernel
theorem dX11_rota_15 : decode cX11_rota 15 = .ok (.goto 8, 3) := by decide +kernel
theorem dX11_rota_18 : decode cX11_rota 18 = .ok (.aload_n 3, 1) := by decide +kernel
theorem dX11_rota_19 : decode cX11_rota 19 = .ok (.iload_n 2, 1) := by decide +kernel
theorem dX11_rota_20 : decode cX11_rota 20 = .ok (.invokestatic 126, 3) := by decide +kernel
theorem dX11_rota_23 : decode cX11_rota 23 = .ok (.ireturn, 1) := by decide +kernel
theorem dX11_net_0 : decode cX11_net 0 = .ok (.aload_n 0, 1) := by decide +kernel
theorem dX11_net_1 : decode cX11_net 1 = .ok (.getfield 10, 3) := by decide +kernel
theorem dX11_net_4 : decode cX11_net 4 = .ok (.iload_n 1, 1) := by decide +kernel
theorem dX11_net_5 : decode cX11_net 5 = .ok (.invokevirtual 89, 3) := by decide +kernel
theorem dX11_net_8 : decode cX11_net 8 = .ok (.astore_n 3, 1) := by decide +kernel
theorem dX11_net_9 : decode cX11_net 9 = .ok (.aload_n 3, 1) := by decide +kernel
theorem dX11_net_10 : decode cX11_net 10 = .ok (.ifnull 11, 3) := by decide +kernel
theorem dX11_net_13 : decode cX11_net 13 = .ok (.aload_n 3, 1) := by decide +kernel
theorem dX11_net_14 : decode cX11_net 14 = .ok (.iload_n 2, 1) := by decide +kernel
theorem dX11_net_15 : decode cX11_net 15 = .ok (.invokevirtual 116, 3) := by decide +kernel
theorem dX11_net_18 : decode cX11_net 18 = .ok (.ifCond .ne 9, 3) := by decide +kernel
theorem dX11_net_21 : decode cX11_net 21 = .ok (.sipush (-999), 3) := by decide +kernel
theorem dX11_net_24 : decode cX11_net 24 = .ok (.goto 8, 3) := by decide +kernel
theorem dX11_net_27 : decode cX11_net 27 = .ok (.aload_n 3, 1) := by decide +kernel
theorem dX11_net_28 : decode cX11_net 28 = .ok (.iload_n 2, 1) := by decide +kernel
theorem dX11_net_29 : decode cX11_net 29 = .ok (.invokevirtual 130, 3) := by decide +kernel
theorem dX11_net_32 : decode cX11_net 32 = .ok (.ireturn, 1) := by decide +kernel
theorem dX11_settled_0 : decode cX11_settled 0 = .ok (.aload_n 0, 1) := by decide +kernel
theorem dX11_settled_1 : decode cX11_settled 1 = .ok (.getfield 10, 3) := by decide +kernel
theorem dX11_settled_4 : decode cX11_settled 4 = .ok (.iload_n 1, 1) := by decide +kernel
theorem dX11_settled_5 : decode cX11_settled 5 = .ok (.invokevirtual 89, 3) := by decide +kernel
theorem dX11_settled_8 : decode cX11_settled 8 = .ok (.astore_n 2, 1) := by decide +kernel
theorem dX11_settled_9 : decode cX11_settled 9 = .ok (.aload_n 2, 1) := by decide +kernel
theorem dX11_settled_10 : decode cX11_settled 10 = .ok (.ifnonnull 7, 3) := by decide +kernel
theorem dX11_settled_13 : decode cX11_settled 13 = .ok (.iconst (-1), 1) := by decide +kernel
theorem dX11_settled_14 : decode cX11_settled 14 = .ok (.goto 11, 3) := by decide +kernel
theorem dX11_settled_17 : decode cX11_settled 17 = .ok (.aload_n 0, 1) := by decide +kernel
theorem dX11_settled_18 : decode cX11_settled 18 = .ok (.getfield 43, 3) := by decide +kernel
theorem dX11_settled_21 : decode cX11_settled 21 = .ok (.aload_n 2, 1) := by decide +kernel
theorem dX11_settled_22 : decode cX11_settled 22 = .ok (.invokevirtual 133, 3) := by decide +kernel
theorem dX11_settled_25 : decode cX11_settled 25 = .ok (.ireturn, 1) := by decide +kernel
theorem dX11_ruin_0 : decode cX11_ruin 0 = .ok (.aload_n 0, 1) := by decide +kernel
theorem dX11_ruin_1 : decode cX11_ruin 1 = .ok (.getfield 10, 3) := by decide +kernel
theorem dX11_ruin_4 : decode cX11_ruin 4 = .ok (.iload_n 1, 1) := by decide +kernel
theorem dX11_ruin_5 : decode cX11_ruin 5 = .ok (.invokevirtual 89, 3) := by decide +kernel
theorem dX11_ruin_8 : decode cX11_ruin 8 = .ok (.astore_n 3, 1) := by decide +kernel
theorem dX11_ruin_9 : decode cX11_ruin 9 = .ok (.aload_n 3, 1) := by decide +kernel
theorem dX11_ruin_10 : decode cX11_ruin 10 = .ok (.ifnull 11, 3) := by decide +kernel
theorem dX11_ruin_13 : decode cX11_ruin 13 = .ok (.aload_n 3, 1) := by decide +kernel
theorem dX11_ruin_14 : decode cX11_ruin 14 = .ok (.iload_n 2, 1) := by decide +kernel
theorem dX11_ruin_15 : decode cX11_ruin 15 = .ok (.invokevirtual 116, 3) := by decide +kernel
theorem dX11_ruin_18 : decode cX11_ruin 18 = .ok (.ifCond .ne 7, 3) := by decide +kernel
theorem dX11_ruin_21 : decode cX11_ruin 21 = .ok (.iconst (-1), 1) := by decide +kernel
theorem dX11_ruin_22 : decode cX11_ruin 22 = .ok (.goto 8, 3) := by decide +kernel
theorem dX11_ruin_25 : decode cX11_ruin 25 = .ok (.aload_n 3, 1) := by decide +kernel
theorem dX11_ruin_26 : decode cX11_ruin 26 = .ok (.iload_n 2, 1) := by decide +kernel
theorem dX11_ruin_27 : decode cX11_ruin 27 = .ok (.invokestatic 137, 3) := by decide +kernel
theorem dX11_ruin_30 : decode cX11_ruin 30 = .ok (.ireturn, 1) := by decide +kernel
theorem dX11_borrow_0 : decode cX11_borrow 0 = .ok (.aload_n 0, 1) := by decide +kernel
theorem dX11_borrow_1 : decode cX11_borrow 1 = .ok (.getfield 10, 3) := by decide +kernel
theorem dX11_borrow_4 : decode cX11_borrow 4 = .ok (.iload_n 1, 1) := by decide +kernel
theorem dX11_borrow_5 : decode cX11_borrow 5 = .ok (.invokevirtual 89, 3) := by decide +kernel
theorem dX11_borrow_8 : decode cX11_borrow 8 = .ok (.astore 5, 2) := by decide +kernel
theorem dX11_borrow_10 : decode cX11_borrow 10 = .ok (.aload 5, 2) := by decide +kernel
theorem dX11_borrow_12 : decode cX11_borrow 12 = .ok (.ifnull 23, 3) := by decide +kernel
theorem dX11_borrow_15 : decode cX11_borrow 15 = .ok (.aload 5, 2) := by decide +kernel
theorem dX11_borrow_17 : decode cX11_borrow 17 = .ok (.iload_n 2, 1) := by decide +kernel
theorem dX11_borrow_18 : decode cX11_borrow 18 = .ok (.invokevirtual 116, 3) := by decide +kernel
theorem dX11_borrow_21 : decode cX11_borrow 21 = .ok (.ifCond .eq 14, 3) := by decide +kernel
theorem dX11_borrow_24 : decode cX11_borrow 24 = .ok (.iload_n 3, 1) := by decide +kernel
theorem dX11_borrow_25 : decode cX11_borrow 25 = .ok (.iconst 1, 1) := by decide +kernel
theorem dX11_borrow_26 : decode cX11_borrow 26 = .ok (.if_icmp .lt 9, 3) := by decide +kernel
theorem dX11_borrow_29 : decode cX11_borrow 29 = .ok (.iload_n 3, 1) := by decide +kernel
theorem dX11_borrow_30 : decode cX11_borrow 30 = .ok (.bipush 99, 2) := by decide +kernel
theorem dX11_borrow_32 : decode cX11_borrow 32 = .ok (.if_icmp .le 5, 3) := by decide +kernel
theorem dX11_borrow_35 : decode cX11_borrow 35 = .ok (.iconst (-1), 1) := by decide +kernel
theorem dX11_borrow_36 : decode cX11_borrow 36 = .ok (.ireturn, 1) := by decide +kernel
theorem dX11_borrow_37 : decode cX11_borrow 37 = .ok (.iload 4, 2) := by decide +kernel
theorem dX11_borrow_39 : decode cX11_borrow 39 = .ok (.iconst (-1), 1) := by decide +kernel
theorem dX11_borrow_40 : decode cX11_borrow 40 = .ok (.if_icmp .eq 13, 3) := by decide +kernel
theorem dX11_borrow_43 : decode cX11_borrow 43 = .ok (.aload 5, 2) := by decide +kernel
theorem dX11_borrow_45 : decode cX11_borrow 45 = .ok (.iload 4, 2) := by decide +kernel
theorem dX11_borrow_47 : decode cX11_borrow 47 = .ok (.invokevirtual 116, 3) := by decide +kernel
theorem dX11_borrow_50 : decode cX11_borrow 50 = .ok (.ifCond .eq 15, 3) := by decide +kernel
theorem dX11_borrow_53 : decode cX11_borrow 53 = .ok (.aload 5, 2) := by decide +kernel
theorem dX11_borrow_55 : decode cX11_borrow 55 = .ok (.iload_n 2, 1) := by decide +kernel
theorem dX11_borrow_56 : decode cX11_borrow 56 = .ok (.iload_n 3, 1) := by decide +kernel
theorem dX11_borrow_57 : decode cX11_borrow 57 = .ok (.iload 4, 2) := by decide +kernel
theorem dX11_borrow_59 : decode cX11_borrow 59 = .ok (.invokestatic 141, 3) := by decide +kernel
theorem dX11_borrow_62 : decode cX11_borrow 62 = .ok (.goto 4, 3) := by decide +kernel
theorem dX11_borrow_65 : decode cX11_borrow 65 = .ok (.iconst (-1), 1) := by decide +kernel
theorem dX11_borrow_66 : decode cX11_borrow 66 = .ok (.ireturn, 1) := by decide +kernel
theorem dX11_lenders_0 : decode cX11_lenders 0 = .ok (.aload_n 0, 1) := by decide +kernel
theorem dX11_lenders_1 : decode cX11_lenders 1 = .ok (.getfield 10, 3) := by decide +kernel
theorem dX11_lenders_4 : decode cX11_lenders 4 = .ok (.iload_n 1, 1) := by decide +kernel
theorem dX11_lenders_5 : decode cX11_lenders 5 = .ok (.invokevirtual 89, 3) := by decide +kernel
theorem dX11_lenders_8 : decode cX11_lenders 8 = .ok (.astore_n 3, 1) := by decide +kernel
theorem dX11_lenders_9 : decode cX11_lenders 9 = .ok (.aload_n 3, 1) := by decide +kernel
theorem dX11_lenders_10 : decode cX11_lenders 10 = .ok (.ifnull 16, 3) := by decide +kernel
theorem dX11_lenders_13 : decode cX11_lenders 13 = .ok (.iload_n 2, 1) := by decide +kernel
theorem dX11_lenders_14 : decode cX11_lenders 14 = .ok (.iconst (-1), 1) := by decide +kernel
theorem dX11_lenders_15 : decode cX11_lenders 15 = .ok (.if_icmp .eq 15, 3) := by decide +kernel
theorem dX11_lenders_18 : decode cX11_lenders 18 = .ok (.aload_n 3, 1) := by decide +kernel
theorem dX11_lenders_19 : decode cX11_lenders 19 = .ok (.iload_n 2, 1) := by decide +kernel
theorem dX11_lenders_20 : decode cX11_lenders 20 = .ok (.invokevirtual 116, 3) := by decide +kernel
theorem dX11_lenders_23 : decode cX11_lenders 23 = .ok (.ifCond .ne 7, 3) := by decide +kernel
theorem dX11_lenders_26 : decode cX11_lenders 26 = .ok (.iconst (-1), 1) := by decide +kernel
theorem dX11_lenders_27 : decode cX11_lenders 27 = .ok (.goto 12, 3) := by decide +kernel
theorem dX11_lenders_30 : decode cX11_lenders 30 = .ok (.aload_n 0, 1) := by decide +kernel
theorem dX11_lenders_31 : decode cX11_lenders 31 = .ok (.getfield 43, 3) := by decide +kernel
theorem dX11_lenders_34 : decode cX11_lenders 34 = .ok (.aload_n 3, 1) := by decide +kernel
theorem dX11_lenders_35 : decode cX11_lenders 35 = .ok (.iload_n 2, 1) := by decide +kernel
theorem dX11_lenders_36 : decode cX11_lenders 36 = .ok (.invokevirtual 145, 3) := by decide +kernel
theorem dX11_lenders_39 : decode cX11_lenders 39 = .ok (.ireturn, 1) := by decide +kernel
theorem dX11_choice_0 : decode cX11_choice 0 = .ok (.aload_n 0, 1) := by decide +kernel
theorem dX11_choice_1 : decode cX11_choice 1 = .ok (.getfield 10, 3) := by decide +kernel
theorem dX11_choice_4 : decode cX11_choice 4 = .ok (.iload_n 1, 1) := by decide +kernel
theorem dX11_choice_5 : decode cX11_choice 5 = .ok (.invokevirtual 89, 3) := by decide +kernel
theorem dX11_choice_8 : decode cX11_choice 8 = .ok (.astore 4, 2) := by decide +kernel
theorem dX11_choice_10 : decode cX11_choice 10 = .ok (.aload 4, 2) := by decide +kernel
theorem dX11_choice_12 : decode cX11_choice 12 = .ok (.ifnull 12, 3) := by decide +kernel
theorem dX11_choice_15 : decode cX11_choice 15 = .ok (.iload_n 2, 1) := by decide +kernel
theorem dX11_choice_16 : decode cX11_choice 16 = .ok (.ifCond .lt 8, 3) := by decide +kernel
theorem dX11_choice_19 : decode cX11_choice 19 = .ok (.iload_n 2, 1) := by decide +kernel
theorem dX11_choice_20 : decode cX11_choice 20 = .ok (.iconst 5, 1) := by decide +kernel
theorem dX11_choice_21 : decode cX11_choice 21 = .ok (.if_icmp .le 9, 3) := by decide +kernel
theorem dX11_choice_24 : decode cX11_choice 24 = .ok (.sipush (-999), 3) := by decide +kernel
theorem dX11_choice_27 : decode cX11_choice 27 = .ok (.goto 10, 3) := by decide +kernel
theorem dX11_choice_30 : decode cX11_choice 30 = .ok (.aload 4, 2) := by decide +kernel
theorem dX11_choice_32 : decode cX11_choice 32 = .ok (.iload_n 2, 1) := by decide +kernel
theorem dX11_choice_33 : decode cX11_choice 33 = .ok (.iload_n 3, 1) := by decide +kernel
theorem dX11_choice_34 : decode cX11_choice 34 = .ok (.invokestatic 148, 3) := by decide +kernel
theorem dX11_choice_37 : decode cX11_choice 37 = .ok (.ireturn, 1) := by decide +kernel
theorem dX11_talk_0 : decode cX11_talk 0 = .ok (.aload_n 0, 1) := by decide +kernel
theorem dX11_talk_1 : decode cX11_talk 1 = .ok (.getfield 10, 3) := by decide +kernel
theorem dX11_talk_4 : decode cX11_talk 4 = .ok (.iload_n 1, 1) := by decide +kernel
theorem dX11_talk_5 : decode cX11_talk 5 = .ok (.invokevirtual 89, 3) := by decide +kernel
theorem dX11_talk_8 : decode cX11_talk 8 = .ok (.astore 6, 2) := by decide +kernel
theorem dX11_talk_10 : decode cX11_talk 10 = .ok (.aload 6, 2) := by decide +kernel
theorem dX11_talk_12 : decode cX11_talk 12 = .ok (.ifnull 34, 3) := by decide +kernel
theorem dX11_talk_15 : decode cX11_talk 15 = .ok (.aload 6, 2) := by decide +kernel
theorem dX11_talk_17 : decode cX11_talk 17 = .ok (.iload_n 2, 1) := by decide +kernel
theorem dX11_talk_18 : decode cX11_talk 18 = .ok (.invokevirtual 116, 3) := by decide +kernel
theorem dX11_talk_21 : decode cX11_talk 21 = .ok (.ifCond .eq 25, 3) := by decide +kernel
theorem dX11_talk_24 : decode cX11_talk 24 = .ok (.iload_n 3, 1) := by decide +kernel
theorem dX11_talk_25 : decode cX11_talk 25 = .ok (.ifCond .lt 21, 3) := by decide +kernel
theorem dX11_talk_28 : decode cX11_talk 28 = .ok (.iload_n 3, 1) := by decide +kernel
theorem dX11_talk_29 : decode cX11_talk 29 = .ok (.bipush 10, 2) := by decide +kernel
theorem dX11_talk_31 : decode cX11_talk 31 = .ok (.if_icmp .gt 15, 3) := by decide +kernel
theorem dX11_talk_34 : decode cX11_talk 34 = .ok (.iload 4, 2) := by decide +kernel
theorem dX11_talk_36 : decode cX11_talk 36 = .ok (.ifCond .lt 10, 3) := by decide +kernel
theorem dX11_talk_39 : decode cX11_talk 39 = .ok (.iload 4, 2) := by decide +kernel
theorem dX11_talk_41 : decode cX11_talk 41 = .ok (.bipush 12, 2) := by decide +kernel
theorem dX11_talk_43 : decode cX11_talk 43 = .ok (.if_icmp .le 7, 3) := by decide +kernel
theorem dX11_talk_46 : decode cX11_talk 46 = .ok (.ldc2_w 151, 3) := by decide +kernel
theorem dX11_talk_49 : decode cX11_talk 49 = .ok (.lreturn, 1) := by decide +kernel
theorem dX11_talk_50 : decode cX11_talk 50 = .ok (.aload_n 0, 1) := by decide +kernel
theorem dX11_talk_51 : decode cX11_talk 51 = .ok (.getfield 43, 3) := by decide +kernel
theorem dX11_talk_54 : decode cX11_talk 54 = .ok (.aload 6, 2) := by decide +kernel
theorem dX11_talk_56 : decode cX11_talk 56 = .ok (.iload_n 2, 1) := by decide +kernel
theorem dX11_talk_57 : decode cX11_talk 57 = .ok (.invokevirtual 153, 3) := by decide +kernel
theorem dX11_talk_60 : decode cX11_talk 60 = .ok (.iload_n 3, 1) := by decide +kernel
theorem dX11_talk_61 : decode cX11_talk 61 = .ok (.iload 4, 2) := by decide +kernel
theorem dX11_talk_63 : decode cX11_talk 63 = .ok (.iload 5, 2) := by decide +kernel
theorem dX11_talk_65 : decode cX11_talk 65 = .ok (.invokevirtual 156, 3) := by decide +kernel
theorem dX11_talk_68 : decode cX11_talk 68 = .ok (.lreturn, 1) := by decide +kernel
theorem dX11_fact_0 : decode cX11_fact 0 = .ok (.aload_n 0, 1) := by decide +kernel
theorem dX11_fact_1 : decode cX11_fact 1 = .ok (.getfield 10, 3) := by decide +kernel
theorem dX11_fact_4 : decode cX11_fact 4 = .ok (.iload_n 1, 1) := by decide +kernel
theorem dX11_fact_5 : decode cX11_fact 5 = .ok (.invokevirtual 160, 3) := by decide +kernel
theorem dX11_fact_8 : decode cX11_fact 8 = .ok (.astore 4, 2) := by decide +kernel
theorem dX11_fact_10 : decode cX11_fact 10 = .ok (.aload 4, 2) := by decide +kernel
theorem dX11_fact_12 : decode cX11_fact 12 = .ok (.ifnonnull 8, 3) := by decide +kernel
theorem dX11_fact_15 : decode cX11_fact 15 = .ok (.bipush (-2), 2) := by decide +kernel
theorem dX11_fact_17 : decode cX11_fact 17 = .ok (.goto 10, 3) := by decide +kernel
theorem dX11_fact_20 : decode cX11_fact 20 = .ok (.aload 4, 2) := by decide +kernel
theorem dX11_fact_22 : decode cX11_fact 22 = .ok (.iload_n 2, 1) := by decide +kernel
theorem dX11_fact_23 : decode cX11_fact 23 = .ok (.iload_n 3, 1) := by decide +kernel
theorem dX11_fact_24 : decode cX11_fact 24 = .ok (.invokevirtual 164, 3) := by decide +kernel
theorem dX11_fact_27 : decode cX11_fact 27 = .ok (.ireturn, 1) := by decide +kernel
theorem dX11_fits_0 : decode cX11_fits 0 = .ok (.aload_n 0, 1) := by decide +kernel
theorem dX11_fits_1 : decode cX11_fits 1 = .ok (.getfield 57, 3) := by decide +kernel
theorem dX11_fits_4 : decode cX11_fits 4 = .ok (.aload_n 0, 1) := by decide +kernel
theorem dX11_fits_5 : decode cX11_fits 5 = .ok (.getfield 10, 3) := by decide +kernel
theorem dX11_fits_8 : decode cX11_fits 8 = .ok (.iload_n 1, 1) := by decide +kernel
theorem dX11_fits_9 : decode cX11_fits 9 = .ok (.invokevirtual 89, 3) := by decide +kernel
theorem dX11_fits_12 : decode cX11_fits 12 = .ok (.aload_n 0, 1) := by decide +kernel
theorem dX11_fits_13 : decode cX11_fits 13 = .ok (.getfield 10, 3) := by decide +kernel
theorem dX11_fits_16 : decode cX11_fits 16 = .ok (.iload_n 2, 1) := by decide +kernel
theorem dX11_fits_17 : decode cX11_fits 17 = .ok (.invokevirtual 160, 3) := by decide +kernel
theorem dX11_fits_20 : decode cX11_fits 20 = .ok (.invokevirtual 167, 3) := by decide +kernel
theorem dX11_fits_23 : decode cX11_fits 23 = .ok (.ifCond .eq 14, 3) := by decide +kernel
theorem dX11_fits_26 : decode cX11_fits 26 = .ok (.aload_n 0, 1) := by decide +kernel
theorem dX11_fits_27 : decode cX11_fits 27 = .ok (.getfield 57, 3) := by decide +kernel
theorem dX11_fits_30 : decode cX11_fits 30 = .ok (.iload_n 3, 1) := by decide +kernel
theorem dX11_fits_31 : decode cX11_fits 31 = .ok (.invokevirtual 171, 3) := by decide +kernel
theorem dX11_fits_34 : decode cX11_fits 34 = .ok (.goto 5, 3) := by decide +kernel
theorem dX11_fits_37 : decode cX11_fits 37 = .ok (.bipush (-2), 2) := by decide +kernel
theorem dX11_fits_39 : decode cX11_fits 39 = .ok (.ireturn, 1) := by decide +kernel
theorem dX11_drawn_0 : decode cX11_drawn 0 = .ok (.aload_n 0, 1) := by decide +kernel
theorem dX11_drawn_1 : decode cX11_drawn 1 = .ok (.getfield 10, 3) := by decide +kernel
theorem dX11_drawn_4 : decode cX11_drawn 4 = .ok (.iload_n 1, 1) := by decide +kernel
theorem dX11_drawn_5 : decode cX11_drawn 5 = .ok (.invokevirtual 89, 3) := by decide +kernel
theorem dX11_drawn_8 : decode cX11_drawn 8 = .ok (.astore 5, 2) := by decide +kernel
theorem dX11_drawn_10 : decode cX11_drawn 10 = .ok (.aload 5, 2) := by decide +kernel
theorem dX11_drawn_12 : decode cX11_drawn 12 = .ok (.ifnull 13, 3) := by decide +kernel
theorem dX11_drawn_15 : decode cX11_drawn 15 = .ok (.iload_n 3, 1) := by decide +kernel
theorem dX11_drawn_16 : decode cX11_drawn 16 = .ok (.ifCond .lt 9, 3) := by decide +kernel
theorem dX11_drawn_19 : decode cX11_drawn 19 = .ok (.iload_n 3, 1) := by decide +kernel
theorem dX11_drawn_20 : decode cX11_drawn 20 = .ok (.bipush 60, 2) := by decide +kernel
theorem dX11_drawn_22 : decode cX11_drawn 22 = .ok (.if_icmp .le 5, 3) := by decide +kernel
theorem dX11_drawn_25 : decode cX11_drawn 25 = .ok (.iconst (-1), 1) := by decide +kernel
theorem dX11_drawn_26 : decode cX11_drawn 26 = .ok (.ireturn, 1) := by decide +kernel
theorem dX11_drawn_27 : decode cX11_drawn 27 = .ok (.aload_n 0, 1) := by decide +kernel
theorem dX11_drawn_28 : decode cX11_drawn 28 = .ok (.getfield 36, 3) := by decide +kernel
theorem dX11_drawn_31 : decode cX11_drawn 31 = .ok (.aload 5, 2) := by decide +kernel
theorem dX11_drawn_33 : decode cX11_drawn 33 = .ok (.iload_n 2, 1) := by decide +kernel
theorem dX11_drawn_34 : decode cX11_drawn 34 = .ok (.iload_n 3, 1) := by decide +kernel
theorem dX11_drawn_35 : decode cX11_drawn 35 = .ok (.invokevirtual 172, 3) := by decide +kernel
theorem dX11_drawn_38 : decode cX11_drawn 38 = .ok (.aload_n 0, 1) := by decide +kernel
theorem dX11_drawn_39 : decode cX11_drawn 39 = .ok (.getfield 36, 3) := by decide +kernel
theorem dX11_drawn_42 : decode cX11_drawn 42 = .ok (.iload 4, 2) := by decide +kernel
theorem dX11_drawn_44 : decode cX11_drawn 44 = .ok (.invokevirtual 115, 3) := by decide +kernel
theorem dX11_drawn_47 : decode cX11_drawn 47 = .ok (.ireturn, 1) := by decide +kernel
theorem dX11_ring_0 : decode cX11_ring 0 = .ok (.aload_n 0, 1) := by decide +kernel
theorem dX11_ring_1 : decode cX11_ring 1 = .ok (.getfield 10, 3) := by decide +kernel
theorem dX11_ring_4 : decode cX11_ring 4 = .ok (.iload_n 1, 1) := by decide +kernel
theorem dX11_ring_5 : decode cX11_ring 5 = .ok (.invokevirtual 89, 3) := by decide +kernel
theorem dX11_ring_8 : decode cX11_ring 8 = .ok (.astore_n 3, 1) := by decide +kernel
theorem dX11_ring_9 : decode cX11_ring 9 = .ok (.aload_n 3, 1) := by decide +kernel
theorem dX11_ring_10 : decode cX11_ring 10 = .ok (.ifnonnull 6, 3) := by decide +kernel
theorem dX11_ring_13 : decode cX11_ring 13 = .ok (.bipush (-2), 2) := by decide +kernel
theorem dX11_ring_15 : decode cX11_ring 15 = .ok (.ireturn, 1) := by decide +kernel
theorem dX11_ring_16 : decode cX11_ring 16 = .ok (.iload_n 2, 1) := by decide +kernel
theorem dX11_ring_17 : decode cX11_ring 17 = .ok (.iconst 5, 1) := by decide +kernel
theorem dX11_ring_18 : decode cX11_ring 18 = .ok (.if_icmp .lt 11, 3) := by decide +kernel
theorem dX11_ring_21 : decode cX11_ring 21 = .ok (.aload_n 3, 1) := by decide +kernel
theorem dX11_ring_22 : decode cX11_ring 22 = .ok (.iload_n 2, 1) := by decide +kernel
theorem dX11_ring_23 : decode cX11_ring 23 = .ok (.invokestatic 176, 3) := by decide +kernel
theorem dX11_ring_26 : decode cX11_ring 26 = .ok (.goto 8, 3) := by decide +kernel
theorem dX11_ring_29 : decode cX11_ring 29 = .ok (.aload_n 3, 1) := by decide +kernel
theorem dX11_ring_30 : decode cX11_ring 30 = .ok (.iload_n 2, 1) := by decide +kernel
theorem dX11_ring_31 : decode cX11_ring 31 = .ok (.invokestatic 179, 3) := by decide +kernel
theorem dX11_ring_34 : decode cX11_ring 34 = .ok (.ireturn, 1) := by decide +kernel
theorem dX11_chain_0 : decode cX11_chain 0 = .ok (.aload_n 0, 1) := by decide +kernel
theorem dX11_chain_1 : decode cX11_chain 1 = .ok (.getfield 10, 3) := by decide +kernel
theorem dX11_chain_4 : decode cX11_chain 4 = .ok (.iload_n 1, 1) := by decide +kernel
theorem dX11_chain_5 : decode cX11_chain 5 = .ok (.invokevirtual 89, 3) := by decide +kernel
theorem dX11_chain_8 : decode cX11_chain 8 = .ok (.astore_n 3, 1) := by decide +kernel
theorem dX11_chain_9 : decode cX11_chain 9 = .ok (.aload_n 3, 1) := by decide +kernel
theorem dX11_chain_10 : decode cX11_chain 10 = .ok (.ifnonnull 7, 3) := by decide +kernel
theorem dX11_chain_13 : decode cX11_chain 13 = .ok (.iconst (-1), 1) := by decide +kernel
theorem dX11_chain_14 : decode cX11_chain 14 = .ok (.goto 12, 3) := by decide +kernel
theorem dX11_chain_17 : decode cX11_chain 17 = .ok (.aload_n 0, 1) := by decide +kernel
theorem dX11_chain_18 : decode cX11_chain 18 = .ok (.getfield 43, 3) := by decide +kernel
theorem dX11_chain_21 : decode cX11_chain 21 = .ok (.aload_n 3, 1) := by decide +kernel
theorem dX11_chain_22 : decode cX11_chain 22 = .ok (.iload_n 2, 1) := by decide +kernel
theorem dX11_chain_23 : decode cX11_chain 23 = .ok (.invokevirtual 182, 3) := by decide +kernel
theorem dX11_chain_26 : decode cX11_chain 26 = .ok (.ireturn, 1) := by decide +kernel
theorem dX11_wealth_0 : decode cX11_wealth 0 = .ok (.aload_n 0, 1) := by decide +kernel
theorem dX11_wealth_1 : decode cX11_wealth 1 = .ok (.getfield 10, 3) := by decide +kernel
theorem dX11_wealth_4 : decode cX11_wealth 4 = .ok (.iload_n 1, 1) := by decide +kernel
theorem dX11_wealth_5 : decode cX11_wealth 5 = .ok (.invokevirtual 89, 3) := by decide +kernel
theorem dX11_wealth_8 : decode cX11_wealth 8 = .ok (.astore_n 3, 1) := by decide +kernel
theorem dX11_wealth_9 : decode cX11_wealth 9 = .ok (.aload_n 3, 1) := by decide +kernel
theorem dX11_wealth_10 : decode cX11_wealth 10 = .ok (.ifnull 11, 3) := by decide +kernel
theorem dX11_wealth_13 : decode cX11_wealth 13 = .ok (.aload_n 3, 1) := by decide +kernel
theorem dX11_wealth_14 : decode cX11_wealth 14 = .ok (.iload_n 2, 1) := by decide +kernel
theorem dX11_wealth_15 : decode cX11_wealth 15 = .ok (.invokevirtual 116, 3) := by decide +kernel
theorem dX11_wealth_18 : decode cX11_wealth 18 = .ok (.ifCond .ne 9, 3) := by decide +kernel
theorem dX11_wealth_21 : decode cX11_wealth 21 = .ok (.sipush (-999), 3) := by decide +kernel
theorem dX11_wealth_24 : decode cX11_wealth 24 = .ok (.goto 8, 3) := by decide +kernel
theorem dX11_wealth_27 : decode cX11_wealth 27 = .ok (.aload_n 3, 1) := by decide +kernel
theorem dX11_wealth_28 : decode cX11_wealth 28 = .ok (.iload_n 2, 1) := by decide +kernel
theorem dX11_wealth_29 : decode cX11_wealth 29 = .ok (.invokevirtual 185, 3) := by decide +kernel
theorem dX11_wealth_32 : decode cX11_wealth 32 = .ok (.ireturn, 1) := by decide +kernel
theorem dX11_relief_0 : decode cX11_relief 0 = .ok (.aload_n 0, 1) := by decide +kernel
theorem dX11_relief_1 : decode cX11_relief 1 = .ok (.getfield 10, 3) := by decide +kernel
theorem dX11_relief_4 : decode cX11_relief 4 = .ok (.iload_n 1, 1) := by decide +kernel
theorem dX11_relief_5 : decode cX11_relief 5 = .ok (.invokevirtual 89, 3) := by decide +kernel
theorem dX11_relief_8 : decode cX11_relief 8 = .ok (.astore_n 3, 1) := by decide +kernel
theorem dX11_relief_9 : decode cX11_relief 9 = .ok (.aload_n 3, 1) := by decide +kernel
theorem dX11_relief_10 : decode cX11_relief 10 = .ok (.ifnull 13, 3) := by decide +kernel
theorem dX11_relief_13 : decode cX11_relief 13 = .ok (.iload_n 2, 1) := by decide +kernel
theorem dX11_relief_14 : decode cX11_relief 14 = .ok (.ifCond .lt 9, 3) := by decide +kernel
theorem dX11_relief_17 : decode cX11_relief 17 = .ok (.iload_n 2, 1) := by decide +kernel
theorem dX11_relief_18 : decode cX11_relief 18 = .ok (.bipush 99, 2) := by decide +kernel
theorem dX11_relief_20 : decode cX11_relief 20 = .ok (.if_icmp .le 7, 3) := by decide +kernel
theorem dX11_relief_23 : decode cX11_relief 23 = .ok (.iconst (-1), 1) := by decide +kernel
theorem dX11_relief_24 : decode cX11_relief 24 = .ok (.goto 8, 3) := by decide +kernel
theorem dX11_relief_27 : decode cX11_relief 27 = .ok (.aload_n 3, 1) := by decide +kernel
theorem dX11_relief_28 : decode cX11_relief 28 = .ok (.iload_n 2, 1) := by decide +kernel
theorem dX11_relief_29 : decode cX11_relief 29 = .ok (.invokestatic 188, 3) := by decide +kernel
theorem dX11_relief_32 : decode cX11_relief 32 = .ok (.ireturn, 1) := by decide +kernel
theorem dX11_party_0 : decode cX11_party 0 = .ok (.aload_n 0, 1) := by decide +kernel
theorem dX11_party_1 : decode cX11_party 1 = .ok (.getfield 10, 3) := by decide +kernel
theorem dX11_party_4 : decode cX11_party 4 = .ok (.iload_n 1, 1) := by decide +kernel
theorem dX11_party_5 : decode cX11_party 5 = .ok (.invokevirtual 89, 3) := by decide +kernel
theorem dX11_party_8 : decode cX11_party 8 = .ok (.astore 4, 2) := by decide +kernel
theorem dX11_party_10 : decode cX11_party 10 = .ok (.aload 4, 2) := by decide +kernel
theorem dX11_party_12 : decode cX11_party 12 = .ok (.ifnonnull 7, 3) := by decide +kernel
theorem dX11_party_15 : decode cX11_party 15 = .ok (.iconst (-1), 1) := by decide +kernel
theorem dX11_party_16 : decode cX11_party 16 = .ok (.goto 10, 3) := by decide +kernel
theorem dX11_party_19 : decode cX11_party 19 = .ok (.aload 4, 2) := by decide +kernel
theorem dX11_party_21 : decode cX11_party 21 = .ok (.iload_n 2, 1) := by decide +kernel
theorem dX11_party_22 : decode cX11_party 22 = .ok (.iload_n 3, 1) := by decide +kernel
theorem dX11_party_23 : decode cX11_party 23 = .ok (.invokestatic 191, 3) := by decide +kernel
theorem dX11_party_26 : decode cX11_party 26 = .ok (.ireturn, 1) := by decide +kernel
theorem dX11_tables_0 : decode cX11_tables 0 = .ok (.aload_n 0, 1) := by decide +kernel
theorem dX11_tables_1 : decode cX11_tables 1 = .ok (.getfield 10, 3) := by decide +kernel
theorem dX11_tables_4 : decode cX11_tables 4 = .ok (.iload_n 1, 1) := by decide +kernel
theorem dX11_tables_5 : decode cX11_tables 5 = .ok (.invokevirtual 89, 3) := by decide +kernel
theorem dX11_tables_8 : decode cX11_tables 8 = .ok (.astore_n 3, 1) := by decide +kernel
theorem dX11_tables_9 : decode cX11_tables 9 = .ok (.aload_n 3, 1) := by decide +kernel
theorem dX11_tables_10 : decode cX11_tables 10 = .ok (.ifnull 16, 3) := by decide +kernel
theorem dX11_tables_13 : decode cX11_tables 13 = .ok (.iload_n 2, 1) := by decide +kernel
theorem dX11_tables_14 : decode cX11_tables 14 = .ok (.iconst (-1), 1) := by decide +kernel
theorem dX11_tables_15 : decode cX11_tables 15 = .ok (.if_icmp .eq 15, 3) := by decide +kernel
theorem dX11_tables_18 : decode cX11_tables 18 = .ok (.aload_n 3, 1) := by decide +kernel
theorem dX11_tables_19 : decode cX11_tables 19 = .ok (.iload_n 2, 1) := by decide +kernel
theorem dX11_tables_20 : decode cX11_tables 20 = .ok (.invokevirtual 116, 3) := by decide +kernel
theorem dX11_tables_23 : decode cX11_tables 23 = .ok (.ifCond .ne 7, 3) := by decide +kernel
theorem dX11_tables_26 : decode cX11_tables 26 = .ok (.iconst (-1), 1) := by decide +kernel
theorem dX11_tables_27 : decode cX11_tables 27 = .ok (.goto 12, 3) := by decide +kernel
theorem dX11_tables_30 : decode cX11_tables 30 = .ok (.aload_n 0, 1) := by decide +kernel
theorem dX11_tables_31 : decode cX11_tables 31 = .ok (.getfield 50, 3) := by decide +kernel
theorem dX11_tables_34 : decode cX11_tables 34 = .ok (.aload_n 3, 1) := by decide +kernel
theorem dX11_tables_35 : decode cX11_tables 35 = .ok (.iload_n 2, 1) := by decide +kernel
theorem dX11_tables_36 : decode cX11_tables 36 = .ok (.invokevirtual 194, 3) := by decide +kernel
theorem dX11_tables_39 : decode cX11_tables 39 = .ok (.ireturn, 1) := by decide +kernel
theorem dX11_hour_0 : decode cX11_hour 0 = .ok (.aload_n 0, 1) := by decide +kernel
theorem dX11_hour_1 : decode cX11_hour 1 = .ok (.getfield 10, 3) := by decide +kernel
theorem dX11_hour_4 : decode cX11_hour 4 = .ok (.iload_n 1, 1) := by decide +kernel
theorem dX11_hour_5 : decode cX11_hour 5 = .ok (.invokevirtual 89, 3) := by decide +kernel
theorem dX11_hour_8 : decode cX11_hour 8 = .ok (.astore_n 3, 1) := by decide +kernel
theorem dX11_hour_9 : decode cX11_hour 9 = .ok (.aload_n 3, 1) := by decide +kernel
theorem dX11_hour_10 : decode cX11_hour 10 = .ok (.ifnull 16, 3) := by decide +kernel
theorem dX11_hour_13 : decode cX11_hour 13 = .ok (.iload_n 2, 1) := by decide +kernel
theorem dX11_hour_14 : decode cX11_hour 14 = .ok (.iconst (-1), 1) := by decide +kernel
theorem dX11_hour_15 : decode cX11_hour 15 = .ok (.if_icmp .eq 15, 3) := by decide +kernel
theorem dX11_hour_18 : decode cX11_hour 18 = .ok (.aload_n 3, 1) := by decide +kernel
theorem dX11_hour_19 : decode cX11_hour 19 = .ok (.iload_n 2, 1) := by decide +kernel
theorem dX11_hour_20 : decode cX11_hour 20 = .ok (.invokevirtual 116, 3) := by decide +kernel
theorem dX11_hour_23 : decode cX11_hour 23 = .ok (.ifCond .ne 7, 3) := by decide +kernel
theorem dX11_hour_26 : decode cX11_hour 26 = .ok (.iconst (-1), 1) := by decide +kernel
theorem dX11_hour_27 : decode cX11_hour 27 = .ok (.goto 12, 3) := by decide +kernel
theorem dX11_hour_30 : decode cX11_hour 30 = .ok (.aload_n 0, 1) := by decide +kernel
theorem dX11_hour_31 : decode cX11_hour 31 = .ok (.getfield 50, 3) := by decide +kernel
theorem dX11_hour_34 : decode cX11_hour 34 = .ok (.aload_n 3, 1) := by decide +kernel
theorem dX11_hour_35 : decode cX11_hour 35 = .ok (.iload_n 2, 1) := by decide +kernel
theorem dX11_hour_36 : decode cX11_hour 36 = .ok (.invokevirtual 197, 3) := by decide +kernel
theorem dX11_hour_39 : decode cX11_hour 39 = .ok (.ireturn, 1) := by decide +kernel
theorem dX11_grown_0 : decode cX11_grown 0 = .ok (.iload_n 1, 1) := by decide +kernel
theorem dX11_grown_1 : decode cX11_grown 1 = .ok (.ifCond .lt 29, 3) := by decide +kernel
theorem dX11_grown_4 : decode cX11_grown 4 = .ok (.iload_n 1, 1) := by decide +kernel
theorem dX11_grown_5 : decode cX11_grown 5 = .ok (.bipush 99, 2) := by decide +kernel
theorem dX11_grown_7 : decode cX11_grown 7 = .ok (.if_icmp .gt 23, 3) := by decide +kernel
theorem dX11_grown_10 : decode cX11_grown 10 = .ok (.iload_n 2, 1) := by decide +kernel
theorem dX11_grown_11 : decode cX11_grown 11 = .ok (.ifCond .lt 19, 3) := by decide +kernel
theorem dX11_grown_14 : decode cX11_grown 14 = .ok (.iload_n 2, 1) := by decide +kernel
theorem dX11_grown_15 : decode cX11_grown 15 = .ok (.bipush 9, 2) := by decide +kernel
theorem dX11_grown_17 : decode cX11_grown 17 = .ok (.if_icmp .gt 13, 3) := by decide +kernel
theorem dX11_grown_20 : decode cX11_grown 20 = .ok (.iload_n 3, 1) := by decide +kernel
theorem dX11_grown_21 : decode cX11_grown 21 = .ok (.ifCond .lt 9, 3) := by decide +kernel
theorem dX11_grown_24 : decode cX11_grown 24 = .ok (.iload_n 3, 1) := by decide +kernel
theorem dX11_grown_25 : decode cX11_grown 25 = .ok (.bipush 99, 2) := by decide +kernel
theorem dX11_grown_27 : decode cX11_grown 27 = .ok (.if_icmp .le 5, 3) := by decide +kernel
theorem dX11_grown_30 : decode cX11_grown 30 = .ok (.iconst (-1), 1) := by decide +kernel
theorem dX11_grown_31 : decode cX11_grown 31 = .ok (.ireturn, 1) := by decide +kernel
theorem dX11_grown_32 : decode cX11_grown 32 = .ok (.iload_n 1, 1) := by decide +kernel
theorem dX11_grown_33 : decode cX11_grown 33 = .ok (.istore 4, 2) := by decide +kernel
theorem dX11_grown_35 : decode cX11_grown 35 = .ok (.iconst 1, 1) := by decide +kernel
theorem dX11_grown_36 : decode cX11_grown 36 = .ok (.istore 5, 2) := by decide +kernel
theorem dX11_grown_38 : decode cX11_grown 38 = .ok (.iload 5, 2) := by decide +kernel
theorem dX11_grown_40 : decode cX11_grown 40 = .ok (.iload_n 3, 1) := by decide +kernel
theorem dX11_grown_41 : decode cX11_grown 41 = .ok (.if_icmp .gt 34, 3) := by decide +kernel
theorem dX11_grown_44 : decode cX11_grown 44 = .ok (.iconst 0, 1) := by decide +kernel
theorem dX11_grown_45 : decode cX11_grown 45 = .ok (.iload 4, 2) := by decide +kernel
theorem dX11_grown_47 : decode cX11_grown 47 = .ok (.iload_n 2, 1) := by decide +kernel
theorem dX11_grown_48 : decode cX11_grown 48 = .ok (.isub, 1) := by decide +kernel
theorem dX11_grown_49 : decode cX11_grown 49 = .ok (.invokestatic 200, 3) := by decide +kernel
theorem dX11_grown_52 : decode cX11_grown 52 = .ok (.istore 4, 2) := by decide +kernel
theorem dX11_grown_54 : decode cX11_grown 54 = .ok (.iload 5, 2) := by decide +kernel
theorem dX11_grown_56 : decode cX11_grown 56 = .ok (.bipush 10, 2) := by decide +kernel
theorem dX11_grown_58 : decode cX11_grown 58 = .ok (.irem, 1) := by decide +kernel
theorem dX11_grown_59 : decode cX11_grown 59 = .ok (.ifCond .ne 10, 3) := by decide +kernel
theorem dX11_grown_62 : decode cX11_grown 62 = .ok (.iload 4, 2) := by decide +kernel
theorem dX11_grown_64 : decode cX11_grown 64 = .ok (.invokestatic 205, 3) := by decide +kernel
theorem dX11_grown_67 : decode cX11_grown 67 = .ok (.istore 4, 2) := by decide +kernel
theorem dX11_grown_69 : decode cX11_grown 69 = .ok (.iinc 5 1, 3) := by decide +kernel
theorem dX11_grown_72 : decode cX11_grown 72 = .ok (.goto (-34), 3) := by decide +kernel
theorem dX11_grown_75 : decode cX11_grown 75 = .ok (.iload 4, 2) := by decide +kernel
theorem dX11_grown_77 : decode cX11_grown 77 = .ok (.ireturn, 1) := by decide +kernel
theorem dX11_meet_0 : decode cX11_meet 0 = .ok (.aload_n 0, 1) := by decide +kernel
theorem dX11_meet_1 : decode cX11_meet 1 = .ok (.getfield 10, 3) := by decide +kernel
theorem dX11_meet_4 : decode cX11_meet 4 = .ok (.iload_n 1, 1) := by decide +kernel
theorem dX11_meet_5 : decode cX11_meet 5 = .ok (.invokevirtual 89, 3) := by decide +kernel
theorem dX11_meet_8 : decode cX11_meet 8 = .ok (.astore 4, 2) := by decide +kernel
theorem dX11_meet_10 : decode cX11_meet 10 = .ok (.aload 4, 2) := by decide +kernel
theorem dX11_meet_12 : decode cX11_meet 12 = .ok (.ifnull 12, 3) := by decide +kernel
theorem dX11_meet_15 : decode cX11_meet 15 = .ok (.aload 4, 2) := by decide +kernel
theorem dX11_meet_17 : decode cX11_meet 17 = .ok (.getfield 208, 3) := by decide +kernel
theorem dX11_meet_20 : decode cX11_meet 20 = .ok (.iconst 2, 1) := by decide +kernel
theorem dX11_meet_21 : decode cX11_meet 21 = .ok (.if_icmp .ge 9, 3) := by decide +kernel
theorem dX11_meet_24 : decode cX11_meet 24 = .ok (.ldc2_w 151, 3) := by decide +kernel
theorem dX11_meet_27 : decode cX11_meet 27 = .ok (.goto 10, 3) := by decide +kernel
theorem dX11_meet_30 : decode cX11_meet 30 = .ok (.aload 4, 2) := by decide +kernel
theorem dX11_meet_32 : decode cX11_meet 32 = .ok (.iload_n 2, 1) := by decide +kernel
theorem dX11_meet_33 : decode cX11_meet 33 = .ok (.iload_n 3, 1) := by decide +kernel
theorem dX11_meet_34 : decode cX11_meet 34 = .ok (.invokestatic 211, 3) := by decide +kernel
theorem dX11_meet_37 : decode cX11_meet 37 = .ok (.lreturn, 1) := by decide +kernel
theorem dX11_guest_0 : decode cX11_guest 0 = .ok (.aload_n 0, 1) := by decide +kernel
theorem dX11_guest_1 : decode cX11_guest 1 = .ok (.getfield 10, 3) := by decide +kernel
theorem dX11_guest_4 : decode cX11_guest 4 = .ok (.iload_n 1, 1) := by decide +kernel
theorem dX11_guest_5 : decode cX11_guest 5 = .ok (.invokevirtual 89, 3) := by decide +kernel
theorem dX11_guest_8 : decode cX11_guest 8 = .ok (.astore 4, 2) := by decide +kernel
theorem dX11_guest_10 : decode cX11_guest 10 = .ok (.aload 4, 2) := by decide +kernel
theorem dX11_guest_12 : decode cX11_guest 12 = .ok (.ifnull 22, 3) := by decide +kernel
theorem dX11_guest_15 : decode cX11_guest 15 = .ok (.aload 4, 2) := by decide +kernel
theorem dX11_guest_17 : decode cX11_guest 17 = .ok (.getfield 208, 3) := by decide +kernel
theorem dX11_guest_20 : decode cX11_guest 20 = .ok (.iconst 1, 1) := by decide +kernel
theorem dX11_guest_21 : decode cX11_guest 21 = .ok (.if_icmp .lt 13, 3) := by decide +kernel
theorem dX11_guest_24 : decode cX11_guest 24 = .ok (.iload_n 2, 1) := by decide +kernel
theorem dX11_guest_25 : decode cX11_guest 25 = .ok (.ifCond .lt 9, 3) := by decide +kernel
theorem dX11_guest_28 : decode cX11_guest 28 = .ok (.iload_n 2, 1) := by decide +kernel
theorem dX11_guest_29 : decode cX11_guest 29 = .ok (.bipush 99, 2) := by decide +kernel
theorem dX11_guest_31 : decode cX11_guest 31 = .ok (.if_icmp .le 9, 3) := by decide +kernel
theorem dX11_guest_34 : decode cX11_guest 34 = .ok (.ldc2_w 151, 3) := by decide +kernel
theorem dX11_guest_37 : decode cX11_guest 37 = .ok (.goto 10, 3) := by decide +kernel
theorem dX11_guest_40 : decode cX11_guest 40 = .ok (.aload 4, 2) := by decide +kernel
theorem dX11_guest_42 : decode cX11_guest 42 = .ok (.iload_n 2, 1) := by decide +kernel
theorem dX11_guest_43 : decode cX11_guest 43 = .ok (.iload_n 3, 1) := by decide +kernel
theorem dX11_guest_44 : decode cX11_guest 44 = .ok (.invokestatic 217, 3) := by decide +kernel
theorem dX11_guest_47 : decode cX11_guest 47 = .ok (.lreturn, 1) := by decide +kernel
theorem dX11_after_0 : decode cX11_after 0 = .ok (.aload_n 0, 1) := by decide +kernel
theorem dX11_after_1 : decode cX11_after 1 = .ok (.getfield 10, 3) := by decide +kernel
theorem dX11_after_4 : decode cX11_after 4 = .ok (.iload_n 1, 1) := by decide +kernel
theorem dX11_after_5 : decode cX11_after 5 = .ok (.invokevirtual 89, 3) := by decide +kernel
theorem dX11_after_8 : decode cX11_after 8 = .ok (.astore 4, 2) := by decide +kernel
theorem dX11_after_10 : decode cX11_after 10 = .ok (.aload_n 0, 1) := by decide +kernel
theorem dX11_after_11 : decode cX11_after 11 = .ok (.getfield 10, 3) := by decide +kernel
theorem dX11_after_14 : decode cX11_after 14 = .ok (.iload_n 2, 1) := by decide +kernel
theorem dX11_after_15 : decode cX11_after 15 = .ok (.invokevirtual 99, 3) := by decide +kernel
theorem dX11_after_18 : decode cX11_after 18 = .ok (.astore 5, 2) := by decide +kernel
theorem dX11_after_20 : decode cX11_after 20 = .ok (.aload 4, 2) := by decide +kernel
theorem dX11_after_22 : decode cX11_after 22 = .ok (.ifnull 8, 3) := by decide +kernel
theorem dX11_after_25 : decode cX11_after 25 = .ok (.aload 5, 2) := by decide +kernel
theorem dX11_after_27 : decode cX11_after 27 = .ok (.ifnonnull 6, 3) := by decide +kernel
theorem dX11_after_30 : decode cX11_after 30 = .ok (.bipush (-2), 2) := by decide +kernel
theorem dX11_after_32 : decode cX11_after 32 = .ok (.ireturn, 1) := by decide +kernel
theorem dX11_after_33 : decode cX11_after 33 = .ok (.aload_n 0, 1) := by decide +kernel
theorem dX11_after_34 : decode cX11_after 34 = .ok (.getfield 36, 3) := by decide +kernel
theorem dX11_after_37 : decode cX11_after 37 = .ok (.aload 4, 2) := by decide +kernel
theorem dX11_after_39 : decode cX11_after 39 = .ok (.aload 5, 2) := by decide +kernel
theorem dX11_after_41 : decode cX11_after 41 = .ok (.aload 5, 2) := by decide +kernel
theorem dX11_after_43 : decode cX11_after 43 = .ok (.getfield 108, 3) := by decide +kernel
theorem dX11_after_46 : decode cX11_after 46 = .ok (.invokevirtual 111, 3) := by decide +kernel
theorem dX11_after_49 : decode cX11_after 49 = .ok (.pop, 1) := by decide +kernel
theorem dX11_after_50 : decode cX11_after 50 = .ok (.aload_n 0, 1) := by decide +kernel
theorem dX11_after_51 : decode cX11_after 51 = .ok (.getfield 36, 3) := by decide +kernel
theorem dX11_after_54 : decode cX11_after 54 = .ok (.iload_n 3, 1) := by decide +kernel
theorem dX11_after_55 : decode cX11_after 55 = .ok (.invokevirtual 221, 3) := by decide +kernel
theorem dX11_after_58 : decode cX11_after 58 = .ok (.ireturn, 1) := by decide +kernel
theorem dX11_share_0 : decode cX11_share 0 = .ok (.aload_n 0, 1) := by decide +kernel
theorem dX11_share_1 : decode cX11_share 1 = .ok (.getfield 10, 3) := by decide +kernel
theorem dX11_share_4 : decode cX11_share 4 = .ok (.iload_n 1, 1) := by decide +kernel
theorem dX11_share_5 : decode cX11_share 5 = .ok (.invokevirtual 89, 3) := by decide +kernel
theorem dX11_share_8 : decode cX11_share 8 = .ok (.astore 6, 2) := by decide +kernel
theorem dX11_share_10 : decode cX11_share 10 = .ok (.aload 6, 2) := by decide +kernel
theorem dX11_share_12 : decode cX11_share 12 = .ok (.ifnull 28, 3) := by decide +kernel
theorem dX11_share_15 : decode cX11_share 15 = .ok (.aload 6, 2) := by decide +kernel
theorem dX11_share_17 : decode cX11_share 17 = .ok (.iload_n 3, 1) := by decide +kernel
theorem dX11_share_18 : decode cX11_share 18 = .ok (.invokevirtual 116, 3) := by decide +kernel
theorem dX11_share_21 : decode cX11_share 21 = .ok (.ifCond .eq 19, 3) := by decide +kernel
theorem dX11_share_24 : decode cX11_share 24 = .ok (.aload 6, 2) := by decide +kernel
theorem dX11_share_26 : decode cX11_share 26 = .ok (.iload 4, 2) := by decide +kernel
theorem dX11_share_28 : decode cX11_share 28 = .ok (.invokevirtual 116, 3) := by decide +kernel
theorem dX11_share_31 : decode cX11_share 31 = .ok (.ifCond .eq 9, 3) := by decide +kernel
theorem dX11_share_34 : decode cX11_share 34 = .ok (.iload_n 3, 1) := by decide +kernel
theorem dX11_share_35 : decode cX11_share 35 = .ok (.iload 4, 2) := by decide +kernel
theorem dX11_share_37 : decode cX11_share 37 = .ok (.if_icmp .ne 7, 3) := by decide +kernel
theorem dX11_share_40 : decode cX11_share 40 = .ok (.ldc2_w 151, 3) := by decide +kernel
theorem dX11_share_43 : decode cX11_share 43 = .ok (.lreturn, 1) := by decide +kernel
theorem dX11_share_44 : decode cX11_share 44 = .ok (.aload_n 0, 1) := by decide +kernel
theorem dX11_share_45 : decode cX11_share 45 = .ok (.getfield 57, 3) := by decide +kernel
theorem dX11_share_48 : decode cX11_share 48 = .ok (.aload 6, 2) := by decide +kernel
theorem dX11_share_50 : decode cX11_share 50 = .ok (.aload_n 0, 1) := by decide +kernel
theorem dX11_share_51 : decode cX11_share 51 = .ok (.getfield 10, 3) := by decide +kernel
theorem dX11_share_54 : decode cX11_share 54 = .ok (.iload_n 2, 1) := by decide +kernel
theorem dX11_share_55 : decode cX11_share 55 = .ok (.invokevirtual 160, 3) := by decide +kernel
theorem dX11_share_58 : decode cX11_share 58 = .ok (.invokevirtual 167, 3) := by decide +kernel
theorem dX11_share_61 : decode cX11_share 61 = .ok (.ifCond .eq 14, 3) := by decide +kernel
theorem dX11_share_64 : decode cX11_share 64 = .ok (.aload_n 0, 1) := by decide +kernel
theorem dX11_share_65 : decode cX11_share 65 = .ok (.getfield 57, 3) := by decide +kernel
theorem dX11_share_68 : decode cX11_share 68 = .ok (.getfield 224, 3) := by decide +kernel
theorem dX11_share_71 : decode cX11_share 71 = .ok (.iconst 1, 1) := by decide +kernel
theorem dX11_share_72 : decode cX11_share 72 = .ok (.if_icmp .ge 7, 3) := by decide +kernel
theorem dX11_share_75 : decode cX11_share 75 = .ok (.ldc2_w 151, 3) := by decide +kernel
theorem dX11_share_78 : decode cX11_share 78 = .ok (.lreturn, 1) := by decide +kernel
theorem dX11_share_79 : decode cX11_share 79 = .ok (.aload_n 0, 1) := by decide +kernel
theorem dX11_share_80 : decode cX11_share 80 = .ok (.getfield 57, 3) := by decide +kernel
theorem dX11_share_83 : decode cX11_share 83 = .ok (.iload_n 3, 1) := by decide +kernel
theorem dX11_share_84 : decode cX11_share 84 = .ok (.iload 4, 2) := by decide +kernel
theorem dX11_share_86 : decode cX11_share 86 = .ok (.invokevirtual 227, 3) := by decide +kernel
theorem dX11_share_89 : decode cX11_share 89 = .ok (.i2l, 1) := by decide +kernel
theorem dX11_share_90 : decode cX11_share 90 = .ok (.aload_n 0, 1) := by decide +kernel
theorem dX11_share_91 : decode cX11_share 91 = .ok (.getfield 57, 3) := by decide +kernel
theorem dX11_share_94 : decode cX11_share 94 = .ok (.getfield 224, 3) := by decide +kernel
theorem dX11_share_97 : decode cX11_share 97 = .ok (.i2l, 1) := by decide +kernel
theorem dX11_share_98 : decode cX11_share 98 = .ok (.iload 5, 2) := by decide +kernel
theorem dX11_share_100 : decode cX11_share 100 = .ok (.invokestatic 230, 3) := by decide +kernel
theorem dX11_share_103 : decode cX11_share 103 = .ok (.lreturn, 1) := by decide +kernel
theorem dX11_fewest_0 : decode cX11_fewest 0 = .ok (.aload_n 0, 1) := by decide +kernel
theorem dX11_fewest_1 : decode cX11_fewest 1 = .ok (.getfield 57, 3) := by decide +kernel
theorem dX11_fewest_4 : decode cX11_fewest 4 = .ok (.aload_n 0, 1) := by decide +kernel
theorem dX11_fewest_5 : decode cX11_fewest 5 = .ok (.getfield 10, 3) := by decide +kernel
theorem dX11_fewest_8 : decode cX11_fewest 8 = .ok (.iload_n 1, 1) := by decide +kernel
theorem dX11_fewest_9 : decode cX11_fewest 9 = .ok (.invokevirtual 89, 3) := by decide +kernel
theorem dX11_fewest_12 : decode cX11_fewest 12 = .ok (.aload_n 0, 1) := by decide +kernel
theorem dX11_fewest_13 : decode cX11_fewest 13 = .ok (.getfield 10, 3) := by decide +kernel
theorem dX11_fewest_16 : decode cX11_fewest 16 = .ok (.iload_n 2, 1) := by decide +kernel
theorem dX11_fewest_17 : decode cX11_fewest 17 = .ok (.invokevirtual 160, 3) := by decide +kernel
theorem dX11_fewest_20 : decode cX11_fewest 20 = .ok (.invokevirtual 167, 3) := by decide +kernel
theorem dX11_fewest_23 : decode cX11_fewest 23 = .ok (.ifCond .ne 5, 3) := by decide +kernel
theorem dX11_fewest_26 : decode cX11_fewest 26 = .ok (.iconst (-1), 1) := by decide +kernel
theorem dX11_fewest_27 : decode cX11_fewest 27 = .ok (.ireturn, 1) := by decide +kernel
theorem dX11_fewest_28 : decode cX11_fewest 28 = .ok (.aload_n 0, 1) := by decide +kernel
theorem dX11_fewest_29 : decode cX11_fewest 29 = .ok (.getfield 57, 3) := by decide +kernel
theorem dX11_fewest_32 : decode cX11_fewest 32 = .ok (.iload_n 3, 1) := by decide +kernel
theorem dX11_fewest_33 : decode cX11_fewest 33 = .ok (.invokevirtual 234, 3) := by decide +kernel
theorem dX11_fewest_36 : decode cX11_fewest 36 = .ok (.ireturn, 1) := by decide +kernel
theorem dX11_count_0 : decode cX11_count 0 = .ok (.aload_n 0, 1) := by decide +kernel
theorem dX11_count_1 : decode cX11_count 1 = .ok (.getfield 10, 3) := by decide +kernel
theorem dX11_count_4 : decode cX11_count 4 = .ok (.iload_n 1, 1) := by decide +kernel
theorem dX11_count_5 : decode cX11_count 5 = .ok (.invokevirtual 238, 3) := by decide +kernel
theorem dX11_count_8 : decode cX11_count 8 = .ok (.ireturn, 1) := by decide +kernel
theorem dX11_image_0 : decode cX11_image 0 = .ok (.iload_n 1, 1) := by decide +kernel
theorem dX11_image_1 : decode cX11_image 1 = .ok (.ifCond .lt 8, 3) := by decide +kernel
theorem dX11_image_4 : decode cX11_image 4 = .ok (.iload_n 1, 1) := by decide +kernel
theorem dX11_image_5 : decode cX11_image 5 = .ok (.iconst 3, 1) := by decide +kernel
theorem dX11_image_6 : decode cX11_image 6 = .ok (.if_icmp .lt 5, 3) := by decide +kernel
theorem dX11_image_9 : decode cX11_image 9 = .ok (.iconst 0, 1) := by decide +kernel
theorem dX11_image_10 : decode cX11_image 10 = .ok (.ireturn, 1) := by decide +kernel
theorem dX11_image_11 : decode cX11_image 11 = .ok (.aload_n 0, 1) := by decide +kernel
theorem dX11_image_12 : decode cX11_image 12 = .ok (.getfield 16, 3) := by decide +kernel
theorem dX11_image_15 : decode cX11_image 15 = .ok (.iload_n 1, 1) := by decide +kernel
theorem dX11_image_16 : decode cX11_image 16 = .ok (.aaload, 1) := by decide +kernel
theorem dX11_image_17 : decode cX11_image 17 = .ok (.astore_n 2, 1) := by decide +kernel
theorem dX11_image_18 : decode cX11_image 18 = .ok (.aload_n 2, 1) := by decide +kernel
theorem dX11_image_19 : decode cX11_image 19 = .ok (.ifnonnull 18, 3) := by decide +kernel
theorem dX11_image_22 : decode cX11_image 22 = .ok (.new 7, 3) := by decide +kernel
theorem dX11_image_25 : decode cX11_image 25 = .ok (.dup, 1) := by decide +kernel
theorem dX11_image_26 : decode cX11_image 26 = .ok (.invokespecial 9, 3) := by decide +kernel
theorem dX11_image_29 : decode cX11_image 29 = .ok (.astore_n 2, 1) := by decide +kernel
theorem dX11_image_30 : decode cX11_image 30 = .ok (.aload_n 0, 1) := by decide +kernel
theorem dX11_image_31 : decode cX11_image 31 = .ok (.getfield 16, 3) := by decide +kernel
theorem dX11_image_34 : decode cX11_image 34 = .ok (.iload_n 1, 1) := by decide +kernel
theorem dX11_image_35 : decode cX11_image 35 = .ok (.aload_n 2, 1) := by decide +kernel
theorem dX11_image_36 : decode cX11_image 36 = .ok (.aastore, 1) := by decide +kernel
theorem dX11_image_37 : decode cX11_image 37 = .ok (.aload_n 2, 1) := by decide +kernel
theorem dX11_image_38 : decode cX11_image 38 = .ok (.aload_n 0, 1) := by decide +kernel
theorem dX11_image_39 : decode cX11_image 39 = .ok (.getfield 10, 3) := by decide +kernel
theorem dX11_image_42 : decode cX11_image 42 = .ok (.invokevirtual 241, 3) := by decide +kernel
theorem dX11_image_45 : decode cX11_image 45 = .ok (.iconst 1, 1) := by decide +kernel
theorem dX11_image_46 : decode cX11_image 46 = .ok (.ireturn, 1) := by decide +kernel
theorem dX11_again_0 : decode cX11_again 0 = .ok (.iload_n 1, 1) := by decide +kernel
theorem dX11_again_1 : decode cX11_again 1 = .ok (.ifCond .lt 8, 3) := by decide +kernel
theorem dX11_again_4 : decode cX11_again 4 = .ok (.iload_n 1, 1) := by decide +kernel
theorem dX11_again_5 : decode cX11_again 5 = .ok (.iconst 3, 1) := by decide +kernel
theorem dX11_again_6 : decode cX11_again 6 = .ok (.if_icmp .lt 5, 3) := by decide +kernel
theorem dX11_again_9 : decode cX11_again 9 = .ok (.iconst 0, 1) := by decide +kernel
theorem dX11_again_10 : decode cX11_again 10 = .ok (.ireturn, 1) := by decide +kernel
theorem dX11_again_11 : decode cX11_again 11 = .ok (.aload_n 0, 1) := by decide +kernel
theorem dX11_again_12 : decode cX11_again 12 = .ok (.getfield 16, 3) := by decide +kernel
theorem dX11_again_15 : decode cX11_again 15 = .ok (.iload_n 1, 1) := by decide +kernel
theorem dX11_again_16 : decode cX11_again 16 = .ok (.aaload, 1) := by decide +kernel
theorem dX11_again_17 : decode cX11_again 17 = .ok (.astore_n 2, 1) := by decide +kernel
theorem dX11_again_18 : decode cX11_again 18 = .ok (.aload_n 2, 1) := by decide +kernel
theorem dX11_again_19 : decode cX11_again 19 = .ok (.ifnonnull 5, 3) := by decide +kernel
theorem dX11_again_22 : decode cX11_again 22 = .ok (.iconst 0, 1) := by decide +kernel
theorem dX11_again_23 : decode cX11_again 23 = .ok (.ireturn, 1) := by decide +kernel
theorem dX11_again_24 : decode cX11_again 24 = .ok (.aload_n 0, 1) := by decide +kernel
theorem dX11_again_25 : decode cX11_again 25 = .ok (.getfield 10, 3) := by decide +kernel
theorem dX11_again_28 : decode cX11_again 28 = .ok (.aload_n 2, 1) := by decide +kernel
theorem dX11_again_29 : decode cX11_again 29 = .ok (.invokevirtual 241, 3) := by decide +kernel
theorem dX11_again_32 : decode cX11_again 32 = .ok (.iconst 1, 1) := by decide +kernel
theorem dX11_again_33 : decode cX11_again 33 = .ok (.ireturn, 1) := by decide +kernel
theorem dJ0_length_8abf5_0 : decode cJ0_length_8abf5 0 = .ok (.aload_n 0, 1) := by decide +kernel
theorem dJ0_length_8abf5_1 : decode cJ0_length_8abf5 1 = .ok (.getfield 9, 3) := by decide +kernel
theorem dJ0_length_8abf5_4 : decode cJ0_length_8abf5 4 = .ok (.arraylength, 1) := by decide +kernel
theorem dJ0_length_8abf5_5 : decode cJ0_length_8abf5 5 = .ok (.aload_n 0, 1) := by decide +kernel
theorem dJ0_length_8abf5_6 : decode cJ0_length_8abf5 6 = .ok (.invokevirtual 335, 3) := by decide +kernel
theorem dJ0_length_8abf5_9 : decode cJ0_length_8abf5 9 = .ok (.ishr, 1) := by decide +kernel
theorem dJ0_length_8abf5_10 : decode cJ0_length_8abf5 10 = .ok (.ireturn, 1) := by decide +kernel
theorem dJ0_charAt_5068e_0 : decode cJ0_charAt_5068e 0 = .ok (.aload_n 0, 1) := by decide +kernel
theorem dJ0_charAt_5068e_1 : decode cJ0_charAt_5068e 1 = .ok (.invokevirtual 492, 3) := by decide +kernel
theorem dJ0_charAt_5068e_4 : decode cJ0_charAt_5068e 4 = .ok (.ifCond .eq 12, 3) := by decide +kernel
theorem dJ0_charAt_5068e_7 : decode cJ0_charAt_5068e 7 = .ok (.aload_n 0, 1) := by decide +kernel
theorem dJ0_charAt_5068e_8 : decode cJ0_charAt_5068e 8 = .ok (.getfield 9, 3) := by decide +kernel
theorem dJ0_charAt_5068e_11 : decode cJ0_charAt_5068e 11 = .ok (.iload_n 1, 1) := by decide +kernel
theorem dJ0_charAt_5068e_12 : decode cJ0_charAt_5068e 12 = .ok (.invokestatic 495, 3) := by decide +kernel
theorem dJ0_charAt_5068e_15 : decode cJ0_charAt_5068e 15 = .ok (.ireturn, 1) := by decide +kernel
theorem dJ0_charAt_5068e_16 : decode cJ0_charAt_5068e 16 = .ok (.aload_n 0, 1) := by decide +kernel
theorem dJ0_charAt_5068e_17 : decode cJ0_charAt_5068e 17 = .ok (.getfield 9, 3) := by decide +kernel
theorem dJ0_charAt_5068e_20 : decode cJ0_charAt_5068e 20 = .ok (.iload_n 1, 1) := by decide +kernel
theorem dJ0_charAt_5068e_21 : decode cJ0_charAt_5068e 21 = .ok (.invokestatic 498, 3) := by decide +kernel
theorem dJ0_charAt_5068e_24 : decode cJ0_charAt_5068e 24 = .ok (.ireturn, 1) := by decide +kernel
theorem dJ0_coder_7d493_0 : decode cJ0_coder_7d493 0 = .ok (.getstatic 38, 3) := by decide +kernel
theorem dJ0_coder_7d493_3 : decode cJ0_coder_7d493 3 = .ok (.ifCond .eq 10, 3) := by decide +kernel
theorem dJ0_coder_7d493_6 : decode cJ0_coder_7d493 6 = .ok (.aload_n 0, 1) := by decide +kernel
theorem dJ0_coder_7d493_7 : decode cJ0_coder_7d493 7 = .ok (.getfield 15, 3) := by decide +kernel
theorem dJ0_coder_7d493_10 : decode cJ0_coder_7d493 10 = .ok (.goto 4, 3) := by decide +kernel
theorem dJ0_coder_7d493_13 : decode cJ0_coder_7d493 13 = .ok (.iconst 1, 1) := by decide +kernel
theorem dJ0_coder_7d493_14 : decode cJ0_coder_7d493 14 = .ok (.ireturn, 1) := by decide +kernel
theorem dJ0_isLatin1_aae02_0 : decode cJ0_isLatin1_aae02 0 = .ok (.getstatic 38, 3) := by decide +kernel
theorem dJ0_isLatin1_aae02_3 : decode cJ0_isLatin1_aae02 3 = .ok (.ifCond .eq 14, 3) := by decide +kernel
theorem dJ0_isLatin1_aae02_6 : decode cJ0_isLatin1_aae02 6 = .ok (.aload_n 0, 1) := by decide +kernel
theorem dJ0_isLatin1_aae02_7 : decode cJ0_isLatin1_aae02 7 = .ok (.getfield 15, 3) := by decide +kernel
theorem dJ0_isLatin1_aae02_10 : decode cJ0_isLatin1_aae02 10 = .ok (.ifCond .ne 7, 3) := by decide +kernel
theorem dJ0_isLatin1_aae02_13 : decode cJ0_isLatin1_aae02 13 = .ok (.iconst 1, 1) := by decide +kernel
theorem dJ0_isLatin1_aae02_14 : decode cJ0_isLatin1_aae02 14 = .ok (.goto 4, 3) := by decide +kernel
theorem dJ0_isLatin1_aae02_17 : decode cJ0_isLatin1_aae02 17 = .ok (.iconst 0, 1) := by decide +kernel
theorem dJ0_isLatin1_aae02_18 : decode cJ0_isLatin1_aae02 18 = .ok (.ireturn, 1) := by decide +kernel
theorem dJ0_checkIndex_df160_0 : decode cJ0_checkIndex_df160 0 = .ok (.iload_n 0, 1) := by decide +kernel
theorem dJ0_checkIndex_df160_1 : decode cJ0_checkIndex_df160 1 = .ok (.iload_n 1, 1) := by decide +kernel
theorem dJ0_checkIndex_df160_2 : decode cJ0_checkIndex_df160 2 = .ok (.getstatic 1053, 3) := by decide +kernel
theorem dJ0_checkIndex_df160_5 : decode cJ0_checkIndex_df160 5 = .ok (.invokestatic 1059, 3) := by decide +kernel
theorem dJ0_checkIndex_df160_8 : decode cJ0_checkIndex_df160 8 = .ok (.pop, 1) := by decide +kernel
theorem dJ0_checkIndex_df160_9 : decode cJ0_checkIndex_df160 9 = .ok (.return_, 1) := by decide +kernel
theorem dJ1_charAt_3b067_0 : decode cJ1_charAt_3b067 0 = .ok (.iload_n 1, 1) := by decide +kernel
theorem dJ1_charAt_3b067_1 : decode cJ1_charAt_3b067 1 = .ok (.aload_n 0, 1) := by decide +kernel
theorem dJ1_charAt_3b067_2 : decode cJ1_charAt_3b067 2 = .ok (.arraylength, 1) := by decide +kernel
theorem dJ1_charAt_3b067_3 : decode cJ1_charAt_3b067 3 = .ok (.invokestatic 9, 3) := by decide +kernel
theorem dJ1_charAt_3b067_6 : decode cJ1_charAt_3b067 6 = .ok (.aload_n 0, 1) := by decide +kernel
theorem dJ1_charAt_3b067_7 : decode cJ1_charAt_3b067 7 = .ok (.iload_n 1, 1) := by decide +kernel
theorem dJ1_charAt_3b067_8 : decode cJ1_charAt_3b067 8 = .ok (.baload, 1) := by decide +kernel
theorem dJ1_charAt_3b067_9 : decode cJ1_charAt_3b067 9 = .ok (.sipush 255, 3) := by decide +kernel
theorem dJ1_charAt_3b067_12 : decode cJ1_charAt_3b067 12 = .ok (.iand, 1) := by decide +kernel
theorem dJ1_charAt_3b067_13 : decode cJ1_charAt_3b067 13 = .ok (.i2c, 1) := by decide +kernel
theorem dJ1_charAt_3b067_14 : decode cJ1_charAt_3b067 14 = .ok (.ireturn, 1) := by decide +kernel
theorem dJ2_getChar_3b067_0 : decode cJ2_getChar_3b067 0 = .ok (.getstatic 44, 3) := by decide +kernel
theorem dJ2_getChar_3b067_3 : decode cJ2_getChar_3b067 3 = .ok (.ifCond .ne 25, 3) := by decide +kernel
theorem dJ2_getChar_3b067_6 : decode cJ2_getChar_3b067 6 = .ok (.iload_n 1, 1) := by decide +kernel
theorem dJ2_getChar_3b067_7 : decode cJ2_getChar_3b067 7 = .ok (.ifCond .lt 11, 3) := by decide +kernel
theorem dJ2_getChar_3b067_10 : decode cJ2_getChar_3b067 10 = .ok (.iload_n 1, 1) := by decide +kernel
theorem dJ2_getChar_3b067_11 : decode cJ2_getChar_3b067 11 = .ok (.aload_n 0, 1) := by decide +kernel
theorem dJ2_getChar_3b067_12 : decode cJ2_getChar_3b067 12 = .ok (.invokestatic 48, 3) := by decide +kernel
theorem dJ2_getChar_3b067_15 : decode cJ2_getChar_3b067 15 = .ok (.if_icmp .lt 13, 3) := by decide +kernel
theorem dJ2_getChar_3b067_18 : decode cJ2_getChar_3b067 18 = .ok (.new 52, 3) := by decide +kernel
theorem dJ2_getChar_3b067_21 : decode cJ2_getChar_3b067 21 = .ok (.dup, 1) := by decide +kernel
theorem dJ2_getChar_3b067_22 : decode cJ2_getChar_3b067 22 = .ok (.ldc 54, 2) := by decide +kernel
theorem dJ2_getChar_3b067_24 : decode cJ2_getChar_3b067 24 = .ok (.invokespecial 56, 3) := by decide +kernel
theorem dJ2_getChar_3b067_27 : decode cJ2_getChar_3b067 27 = .ok (.athrow, 1) := by decide +kernel
theorem dJ2_getChar_3b067_28 : decode cJ2_getChar_3b067 28 = .ok (.iload_n 1, 1) := by decide +kernel
theorem dJ2_getChar_3b067_29 : decode cJ2_getChar_3b067 29 = .ok (.iconst 1, 1) := by decide +kernel
theorem dJ2_getChar_3b067_30 : decode cJ2_getChar_3b067 30 = .ok (.ishl, 1) := by decide +kernel
theorem dJ2_getChar_3b067_31 : decode cJ2_getChar_3b067 31 = .ok (.istore_n 1, 1) := by decide +kernel
theorem dJ2_getChar_3b067_32 : decode cJ2_getChar_3b067 32 = .ok (.aload_n 0, 1) := by decide +kernel
theorem dJ2_getChar_3b067_33 : decode cJ2_getChar_3b067 33 = .ok (.iload_n 1, 1) := by decide +kernel
theorem dJ2_getChar_3b067_34 : decode cJ2_getChar_3b067 34 = .ok (.iinc 1 1, 3) := by decide +kernel
theorem dJ2_getChar_3b067_37 : decode cJ2_getChar_3b067 37 = .ok (.baload, 1) := by decide +kernel
theorem dJ2_getChar_3b067_38 : decode cJ2_getChar_3b067 38 = .ok (.sipush 255, 3) := by decide +kernel
theorem dJ2_getChar_3b067_41 : decode cJ2_getChar_3b067 41 = .ok (.iand, 1) := by decide +kernel
theorem dJ2_getChar_3b067_42 : decode cJ2_getChar_3b067 42 = .ok (.getstatic 59, 3) := by decide +kernel
theorem dJ2_getChar_3b067_45 : decode cJ2_getChar_3b067 45 = .ok (.ishl, 1) := by decide +kernel
theorem dJ2_getChar_3b067_46 : decode cJ2_getChar_3b067 46 = .ok (.aload_n 0, 1) := by decide +kernel
theorem dJ2_getChar_3b067_47 : decode cJ2_getChar_3b067 47 = .ok (.iload_n 1, 1) := by decide +kernel
theorem dJ2_getChar_3b067_48 : decode cJ2_getChar_3b067 48 = .ok (.baload, 1) := by decide +kernel
theorem dJ2_getChar_3b067_49 : decode cJ2_getChar_3b067 49 = .ok (.sipush 255, 3) := by decide +kernel
theorem dJ2_getChar_3b067_52 : decode cJ2_getChar_3b067 52 = .ok (.iand, 1) := by decide +kernel
theorem dJ2_getChar_3b067_53 : decode cJ2_getChar_3b067 53 = .ok (.getstatic 63, 3) := by decide +kernel
theorem dJ2_getChar_3b067_56 : decode cJ2_getChar_3b067 56 = .ok (.ishl, 1) := by decide +kernel
theorem dJ2_getChar_3b067_57 : decode cJ2_getChar_3b067 57 = .ok (.ior, 1) := by decide +kernel
theorem dJ2_getChar_3b067_58 : decode cJ2_getChar_3b067 58 = .ok (.i2c, 1) := by decide +kernel
theorem dJ2_getChar_3b067_59 : decode cJ2_getChar_3b067 59 = .ok (.ireturn, 1) := by decide +kernel
theorem dJ2_length_9d52b_0 : decode cJ2_length_9d52b 0 = .ok (.aload_n 0, 1) := by decide +kernel
theorem dJ2_length_9d52b_1 : decode cJ2_length_9d52b 1 = .ok (.arraylength, 1) := by decide +kernel
theorem dJ2_length_9d52b_2 : decode cJ2_length_9d52b 2 = .ok (.iconst 1, 1) := by decide +kernel
theorem dJ2_length_9d52b_3 : decode cJ2_length_9d52b 3 = .ok (.ishr, 1) := by decide +kernel
theorem dJ2_length_9d52b_4 : decode cJ2_length_9d52b 4 = .ok (.ireturn, 1) := by decide +kernel
theorem dJ2_charAt_3b067_0 : decode cJ2_charAt_3b067 0 = .ok (.iload_n 1, 1) := by decide +kernel
theorem dJ2_charAt_3b067_1 : decode cJ2_charAt_3b067 1 = .ok (.aload_n 0, 1) := by decide +kernel
theorem dJ2_charAt_3b067_2 : decode cJ2_charAt_3b067 2 = .ok (.invokestatic 67, 3) := by decide +kernel
theorem dJ2_charAt_3b067_5 : decode cJ2_charAt_3b067 5 = .ok (.aload_n 0, 1) := by decide +kernel
theorem dJ2_charAt_3b067_6 : decode cJ2_charAt_3b067 6 = .ok (.iload_n 1, 1) := by decide +kernel
theorem dJ2_charAt_3b067_7 : decode cJ2_charAt_3b067 7 = .ok (.invokestatic 71, 3) := by decide +kernel
theorem dJ2_charAt_3b067_10 : decode cJ2_charAt_3b067 10 = .ok (.ireturn, 1) := by decide +kernel
theorem dJ2_checkIndex_2214a_0 : decode cJ2_checkIndex_2214a 0 = .ok (.iload_n 0, 1) := by decide +kernel
theorem dJ2_checkIndex_2214a_1 : decode cJ2_checkIndex_2214a 1 = .ok (.aload_n 1, 1) := by decide +kernel
theorem dJ2_checkIndex_2214a_2 : decode cJ2_checkIndex_2214a 2 = .ok (.invokestatic 48, 3) := by decide +kernel
theorem dJ2_checkIndex_2214a_5 : decode cJ2_checkIndex_2214a 5 = .ok (.invokestatic 414, 3) := by decide +kernel
theorem dJ2_checkIndex_2214a_8 : decode cJ2_checkIndex_2214a 8 = .ok (.return_, 1) := by decide +kernel
theorem dJ3_checkIndex_8e157_0 : decode cJ3_checkIndex_8e157 0 = .ok (.iload_n 0, 1) := by decide +kernel
theorem dJ3_checkIndex_8e157_1 : decode cJ3_checkIndex_8e157 1 = .ok (.ifCond .lt 8, 3) := by decide +kernel
theorem dJ3_checkIndex_8e157_4 : decode cJ3_checkIndex_8e157 4 = .ok (.iload_n 0, 1) := by decide +kernel
theorem dJ3_checkIndex_8e157_5 : decode cJ3_checkIndex_8e157 5 = .ok (.iload_n 1, 1) := by decide +kernel
theorem dJ3_checkIndex_8e157_6 : decode cJ3_checkIndex_8e157 6 = .ok (.if_icmp .lt 10, 3) := by decide +kernel
theorem dJ3_checkIndex_8e157_9 : decode cJ3_checkIndex_8e157 9 = .ok (.aload_n 2, 1) := by decide +kernel
theorem dJ3_checkIndex_8e157_10 : decode cJ3_checkIndex_8e157 10 = .ok (.iload_n 0, 1) := by decide +kernel
theorem dJ3_checkIndex_8e157_11 : decode cJ3_checkIndex_8e157 11 = .ok (.iload_n 1, 1) := by decide +kernel
theorem dJ3_checkIndex_8e157_12 : decode cJ3_checkIndex_8e157 12 = .ok (.invokestatic 95, 3) := by decide +kernel
theorem dJ3_checkIndex_8e157_15 : decode cJ3_checkIndex_8e157 15 = .ok (.athrow, 1) := by decide +kernel
theorem dJ3_checkIndex_8e157_16 : decode cJ3_checkIndex_8e157 16 = .ok (.iload_n 0, 1) := by decide +kernel
theorem dJ3_checkIndex_8e157_17 : decode cJ3_checkIndex_8e157 17 = .ok (.ireturn, 1) := by decide +kernel
