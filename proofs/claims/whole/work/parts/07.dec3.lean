theorem dX6_init_0 : decode cX6_init 0 = .ok (.aload_n 0, 1) := by decide +kernel
theorem dX6_init_1 : decode cX6_init 1 = .ok (.invokespecial 3, 3) := by decide +kernel
theorem dX6_init_4 : decode cX6_init 4 = .ok (.aload_n 0, 1) := by decide +kernel
theorem dX6_init_5 : decode cX6_init 5 = .ok (.bipush 6, 2) := by decide +kernel
theorem dX6_init_7 : decode cX6_init 7 = .ok (.newarray .int, 2) := by decide +kernel
theorem dX6_init_9 : decode cX6_init 9 = .ok (.putfield 9, 3) := by decide +kernel
theorem dX6_init_12 : decode cX6_init 12 = .ok (.aload_n 0, 1) := by decide +kernel
theorem dX6_init_13 : decode cX6_init 13 = .ok (.bipush 6, 2) := by decide +kernel
theorem dX6_init_15 : decode cX6_init 15 = .ok (.newarray .int, 2) := by decide +kernel
theorem dX6_init_17 : decode cX6_init 17 = .ok (.putfield 15, 3) := by decide +kernel
theorem dX6_init_20 : decode cX6_init 20 = .ok (.return_, 1) := by decide +kernel
theorem dX6_bestChoice_0 : decode cX6_bestChoice 0 = .ok (.iconst 0, 1) := by decide +kernel
theorem dX6_bestChoice_1 : decode cX6_bestChoice 1 = .ok (.istore_n 3, 1) := by decide +kernel
theorem dX6_bestChoice_2 : decode cX6_bestChoice 2 = .ok (.iconst (-1), 1) := by decide +kernel
theorem dX6_bestChoice_3 : decode cX6_bestChoice 3 = .ok (.istore 4, 2) := by decide +kernel
theorem dX6_bestChoice_5 : decode cX6_bestChoice 5 = .ok (.iconst 0, 1) := by decide +kernel
theorem dX6_bestChoice_6 : decode cX6_bestChoice 6 = .ok (.istore 5, 2) := by decide +kernel
theorem dX6_bestChoice_8 : decode cX6_bestChoice 8 = .ok (.iload 5, 2) := by decide +kernel
theorem dX6_bestChoice_10 : decode cX6_bestChoice 10 = .ok (.aload_n 0, 1) := by decide +kernel
theorem dX6_bestChoice_11 : decode cX6_bestChoice 11 = .ok (.getfield 18, 3) := by decide +kernel
theorem dX6_bestChoice_14 : decode cX6_bestChoice 14 = .ok (.if_icmp .ge 54, 3) := by decide +kernel
theorem dX6_bestChoice_17 : decode cX6_bestChoice 17 = .ok (.iload_n 1, 1) := by decide +kernel
theorem dX6_bestChoice_18 : decode cX6_bestChoice 18 = .ok (.ifCond .le 50, 3) := by decide +kernel
theorem dX6_bestChoice_21 : decode cX6_bestChoice 21 = .ok (.aload_n 0, 1) := by decide +kernel
theorem dX6_bestChoice_22 : decode cX6_bestChoice 22 = .ok (.iload 5, 2) := by decide +kernel
theorem dX6_bestChoice_24 : decode cX6_bestChoice 24 = .ok (.iconst 0, 1) := by decide +kernel
theorem dX6_bestChoice_25 : decode cX6_bestChoice 25 = .ok (.invokestatic 24, 3) := by decide +kernel
theorem dX6_bestChoice_28 : decode cX6_bestChoice 28 = .ok (.aload_n 0, 1) := by decide +kernel
theorem dX6_bestChoice_29 : decode cX6_bestChoice 29 = .ok (.iconst 0, 1) := by decide +kernel
theorem dX6_bestChoice_30 : decode cX6_bestChoice 30 = .ok (.iconst 1, 1) := by decide +kernel
theorem dX6_bestChoice_31 : decode cX6_bestChoice 31 = .ok (.iload 5, 2) := by decide +kernel
theorem dX6_bestChoice_33 : decode cX6_bestChoice 33 = .ok (.ishl, 1) := by decide +kernel
theorem dX6_bestChoice_34 : decode cX6_bestChoice 34 = .ok (.iload_n 1, 1) := by decide +kernel
theorem dX6_bestChoice_35 : decode cX6_bestChoice 35 = .ok (.iconst 1, 1) := by decide +kernel
theorem dX6_bestChoice_36 : decode cX6_bestChoice 36 = .ok (.isub, 1) := by decide +kernel
theorem dX6_bestChoice_37 : decode cX6_bestChoice 37 = .ok (.invokestatic 28, 3) := by decide +kernel
theorem dX6_bestChoice_40 : decode cX6_bestChoice 40 = .ok (.isub, 1) := by decide +kernel
theorem dX6_bestChoice_41 : decode cX6_bestChoice 41 = .ok (.istore 6, 2) := by decide +kernel
theorem dX6_bestChoice_43 : decode cX6_bestChoice 43 = .ok (.iload 4, 2) := by decide +kernel
theorem dX6_bestChoice_45 : decode cX6_bestChoice 45 = .ok (.iconst (-1), 1) := by decide +kernel
theorem dX6_bestChoice_46 : decode cX6_bestChoice 46 = .ok (.if_icmp .eq 9, 3) := by decide +kernel
theorem dX6_bestChoice_49 : decode cX6_bestChoice 49 = .ok (.iload 6, 2) := by decide +kernel
theorem dX6_bestChoice_51 : decode cX6_bestChoice 51 = .ok (.iload_n 3, 1) := by decide +kernel
theorem dX6_bestChoice_52 : decode cX6_bestChoice 52 = .ok (.if_icmp .le 10, 3) := by decide +kernel
theorem dX6_bestChoice_55 : decode cX6_bestChoice 55 = .ok (.iload 6, 2) := by decide +kernel
theorem dX6_bestChoice_57 : decode cX6_bestChoice 57 = .ok (.istore_n 3, 1) := by decide +kernel
theorem dX6_bestChoice_58 : decode cX6_bestChoice 58 = .ok (.iload 5, 2) := by decide +kernel
theorem dX6_bestChoice_60 : decode cX6_bestChoice 60 = .ok (.istore 4, 2) := by decide +kernel
theorem dX6_bestChoice_62 : decode cX6_bestChoice 62 = .ok (.iinc 5 1, 3) := by decide +kernel
theorem dX6_bestChoice_65 : decode cX6_bestChoice 65 = .ok (.goto (-57), 3) := by decide +kernel
theorem dX6_bestChoice_68 : decode cX6_bestChoice 68 = .ok (.iload_n 2, 1) := by decide +kernel
theorem dX6_bestChoice_69 : decode cX6_bestChoice 69 = .ok (.ifCond .eq 8, 3) := by decide +kernel
theorem dX6_bestChoice_72 : decode cX6_bestChoice 72 = .ok (.iload 4, 2) := by decide +kernel
theorem dX6_bestChoice_74 : decode cX6_bestChoice 74 = .ok (.goto 4, 3) := by decide +kernel
theorem dX6_bestChoice_77 : decode cX6_bestChoice 77 = .ok (.iload_n 3, 1) := by decide +kernel
theorem dX6_bestChoice_78 : decode cX6_bestChoice 78 = .ok (.ireturn, 1) := by decide +kernel
theorem dX6_gain_0 : decode cX6_gain 0 = .ok (.aload_n 0, 1) := by decide +kernel
theorem dX6_gain_1 : decode cX6_gain 1 = .ok (.getfield 32, 3) := by decide +kernel
theorem dX6_gain_4 : decode cX6_gain 4 = .ok (.iload_n 1, 1) := by decide +kernel
theorem dX6_gain_5 : decode cX6_gain 5 = .ok (.iaload, 1) := by decide +kernel
theorem dX6_gain_6 : decode cX6_gain 6 = .ok (.iload_n 2, 1) := by decide +kernel
theorem dX6_gain_7 : decode cX6_gain 7 = .ok (.iand, 1) := by decide +kernel
theorem dX6_gain_8 : decode cX6_gain 8 = .ok (.ifCond .ne 12, 3) := by decide +kernel
theorem dX6_gain_11 : decode cX6_gain 11 = .ok (.aload_n 0, 1) := by decide +kernel
theorem dX6_gain_12 : decode cX6_gain 12 = .ok (.getfield 35, 3) := by decide +kernel
theorem dX6_gain_15 : decode cX6_gain 15 = .ok (.iload_n 1, 1) := by decide +kernel
theorem dX6_gain_16 : decode cX6_gain 16 = .ok (.iaload, 1) := by decide +kernel
theorem dX6_gain_17 : decode cX6_gain 17 = .ok (.goto 10, 3) := by decide +kernel
theorem dX6_gain_20 : decode cX6_gain 20 = .ok (.aload_n 0, 1) := by decide +kernel
theorem dX6_gain_21 : decode cX6_gain 21 = .ok (.getfield 35, 3) := by decide +kernel
theorem dX6_gain_24 : decode cX6_gain 24 = .ok (.iload_n 1, 1) := by decide +kernel
theorem dX6_gain_25 : decode cX6_gain 25 = .ok (.iaload, 1) := by decide +kernel
theorem dX6_gain_26 : decode cX6_gain 26 = .ok (.ineg, 1) := by decide +kernel
theorem dX6_gain_27 : decode cX6_gain 27 = .ok (.ireturn, 1) := by decide +kernel
theorem dX6_leadOf_0 : decode cX6_leadOf 0 = .ok (.iload_n 1, 1) := by decide +kernel
theorem dX6_leadOf_1 : decode cX6_leadOf 1 = .ok (.iload_n 2, 1) := by decide +kernel
theorem dX6_leadOf_2 : decode cX6_leadOf 2 = .ok (.ior, 1) := by decide +kernel
theorem dX6_leadOf_3 : decode cX6_leadOf 3 = .ok (.iconst (-1), 1) := by decide +kernel
theorem dX6_leadOf_4 : decode cX6_leadOf 4 = .ok (.ixor, 1) := by decide +kernel
theorem dX6_leadOf_5 : decode cX6_leadOf 5 = .ok (.iconst 1, 1) := by decide +kernel
theorem dX6_leadOf_6 : decode cX6_leadOf 6 = .ok (.aload_n 0, 1) := by decide +kernel
theorem dX6_leadOf_7 : decode cX6_leadOf 7 = .ok (.getfield 18, 3) := by decide +kernel
theorem dX6_leadOf_10 : decode cX6_leadOf 10 = .ok (.ishl, 1) := by decide +kernel
theorem dX6_leadOf_11 : decode cX6_leadOf 11 = .ok (.iconst 1, 1) := by decide +kernel
theorem dX6_leadOf_12 : decode cX6_leadOf 12 = .ok (.isub, 1) := by decide +kernel
theorem dX6_leadOf_13 : decode cX6_leadOf 13 = .ok (.iand, 1) := by decide +kernel
theorem dX6_leadOf_14 : decode cX6_leadOf 14 = .ok (.istore 4, 2) := by decide +kernel
theorem dX6_leadOf_16 : decode cX6_leadOf 16 = .ok (.iload_n 3, 1) := by decide +kernel
theorem dX6_leadOf_17 : decode cX6_leadOf 17 = .ok (.ifCond .le 13, 3) := by decide +kernel
theorem dX6_leadOf_20 : decode cX6_leadOf 20 = .ok (.iload_n 3, 1) := by decide +kernel
theorem dX6_leadOf_21 : decode cX6_leadOf 21 = .ok (.iconst 5, 1) := by decide +kernel
theorem dX6_leadOf_22 : decode cX6_leadOf 22 = .ok (.if_icmp .gt 8, 3) := by decide +kernel
theorem dX6_leadOf_25 : decode cX6_leadOf 25 = .ok (.iload 4, 2) := by decide +kernel
theorem dX6_leadOf_27 : decode cX6_leadOf 27 = .ok (.ifCond .ne 5, 3) := by decide +kernel
theorem dX6_leadOf_30 : decode cX6_leadOf 30 = .ok (.iconst 0, 1) := by decide +kernel
theorem dX6_leadOf_31 : decode cX6_leadOf 31 = .ok (.ireturn, 1) := by decide +kernel
theorem dX6_leadOf_32 : decode cX6_leadOf 32 = .ok (.sipush (-999), 3) := by decide +kernel
theorem dX6_leadOf_35 : decode cX6_leadOf 35 = .ok (.istore 5, 2) := by decide +kernel
theorem dX6_leadOf_37 : decode cX6_leadOf 37 = .ok (.iconst 0, 1) := by decide +kernel
theorem dX6_leadOf_38 : decode cX6_leadOf 38 = .ok (.istore 6, 2) := by decide +kernel
theorem dX6_leadOf_40 : decode cX6_leadOf 40 = .ok (.iload 6, 2) := by decide +kernel
theorem dX6_leadOf_42 : decode cX6_leadOf 42 = .ok (.aload_n 0, 1) := by decide +kernel
theorem dX6_leadOf_43 : decode cX6_leadOf 43 = .ok (.getfield 18, 3) := by decide +kernel
theorem dX6_leadOf_46 : decode cX6_leadOf 46 = .ok (.if_icmp .ge 48, 3) := by decide +kernel
theorem dX6_leadOf_49 : decode cX6_leadOf 49 = .ok (.iload 4, 2) := by decide +kernel
theorem dX6_leadOf_51 : decode cX6_leadOf 51 = .ok (.iload 6, 2) := by decide +kernel
theorem dX6_leadOf_53 : decode cX6_leadOf 53 = .ok (.ishr, 1) := by decide +kernel
theorem dX6_leadOf_54 : decode cX6_leadOf 54 = .ok (.iconst 1, 1) := by decide +kernel
theorem dX6_leadOf_55 : decode cX6_leadOf 55 = .ok (.iand, 1) := by decide +kernel
theorem dX6_leadOf_56 : decode cX6_leadOf 56 = .ok (.ifCond .eq 32, 3) := by decide +kernel
theorem dX6_leadOf_59 : decode cX6_leadOf 59 = .ok (.iload 5, 2) := by decide +kernel
theorem dX6_leadOf_61 : decode cX6_leadOf 61 = .ok (.aload_n 0, 1) := by decide +kernel
theorem dX6_leadOf_62 : decode cX6_leadOf 62 = .ok (.iload 6, 2) := by decide +kernel
theorem dX6_leadOf_64 : decode cX6_leadOf 64 = .ok (.iload_n 1, 1) := by decide +kernel
theorem dX6_leadOf_65 : decode cX6_leadOf 65 = .ok (.invokestatic 24, 3) := by decide +kernel
theorem dX6_leadOf_68 : decode cX6_leadOf 68 = .ok (.aload_n 0, 1) := by decide +kernel
theorem dX6_leadOf_69 : decode cX6_leadOf 69 = .ok (.iload_n 2, 1) := by decide +kernel
theorem dX6_leadOf_70 : decode cX6_leadOf 70 = .ok (.iload_n 1, 1) := by decide +kernel
theorem dX6_leadOf_71 : decode cX6_leadOf 71 = .ok (.iconst 1, 1) := by decide +kernel
theorem dX6_leadOf_72 : decode cX6_leadOf 72 = .ok (.iload 6, 2) := by decide +kernel
theorem dX6_leadOf_74 : decode cX6_leadOf 74 = .ok (.ishl, 1) := by decide +kernel
theorem dX6_leadOf_75 : decode cX6_leadOf 75 = .ok (.ior, 1) := by decide +kernel
theorem dX6_leadOf_76 : decode cX6_leadOf 76 = .ok (.iload_n 3, 1) := by decide +kernel
theorem dX6_leadOf_77 : decode cX6_leadOf 77 = .ok (.iconst 1, 1) := by decide +kernel
theorem dX6_leadOf_78 : decode cX6_leadOf 78 = .ok (.isub, 1) := by decide +kernel
theorem dX6_leadOf_79 : decode cX6_leadOf 79 = .ok (.invokestatic 28, 3) := by decide +kernel
theorem dX6_leadOf_82 : decode cX6_leadOf 82 = .ok (.isub, 1) := by decide +kernel
theorem dX6_leadOf_83 : decode cX6_leadOf 83 = .ok (.invokestatic 38, 3) := by decide +kernel
theorem dX6_leadOf_86 : decode cX6_leadOf 86 = .ok (.istore 5, 2) := by decide +kernel
theorem dX6_leadOf_88 : decode cX6_leadOf 88 = .ok (.iinc 6 1, 3) := by decide +kernel
theorem dX6_leadOf_91 : decode cX6_leadOf 91 = .ok (.goto (-51), 3) := by decide +kernel
theorem dX6_leadOf_94 : decode cX6_leadOf 94 = .ok (.iload 5, 2) := by decide +kernel
theorem dX6_leadOf_96 : decode cX6_leadOf 96 = .ok (.ireturn, 1) := by decide +kernel
theorem dX6_tellOfPeople_0 : decode cX6_tellOfPeople 0 = .ok (.iload_n 1, 1) := by decide +kernel
theorem dX6_tellOfPeople_1 : decode cX6_tellOfPeople 1 = .ok (.iconst 5, 1) := by decide +kernel
theorem dX6_tellOfPeople_2 : decode cX6_tellOfPeople 2 = .ok (.if_icmp .ne 8, 3) := by decide +kernel
theorem dX6_tellOfPeople_5 : decode cX6_tellOfPeople 5 = .ok (.aload_n 0, 1) := by decide +kernel
theorem dX6_tellOfPeople_6 : decode cX6_tellOfPeople 6 = .ok (.invokestatic 44, 3) := by decide +kernel
theorem dX6_tellOfPeople_9 : decode cX6_tellOfPeople 9 = .ok (.ireturn, 1) := by decide +kernel
theorem dX6_tellOfPeople_10 : decode cX6_tellOfPeople 10 = .ok (.iload_n 1, 1) := by decide +kernel
theorem dX6_tellOfPeople_11 : decode cX6_tellOfPeople 11 = .ok (.bipush 6, 2) := by decide +kernel
theorem dX6_tellOfPeople_13 : decode cX6_tellOfPeople 13 = .ok (.if_icmp .ne 8, 3) := by decide +kernel
theorem dX6_tellOfPeople_16 : decode cX6_tellOfPeople 16 = .ok (.aload_n 0, 1) := by decide +kernel
theorem dX6_tellOfPeople_17 : decode cX6_tellOfPeople 17 = .ok (.invokestatic 48, 3) := by decide +kernel
theorem dX6_tellOfPeople_20 : decode cX6_tellOfPeople 20 = .ok (.ireturn, 1) := by decide +kernel
theorem dX6_tellOfPeople_21 : decode cX6_tellOfPeople 21 = .ok (.iload_n 1, 1) := by decide +kernel
theorem dX6_tellOfPeople_22 : decode cX6_tellOfPeople 22 = .ok (.bipush 10, 2) := by decide +kernel
theorem dX6_tellOfPeople_24 : decode cX6_tellOfPeople 24 = .ok (.if_icmp .lt 18, 3) := by decide +kernel
theorem dX6_tellOfPeople_27 : decode cX6_tellOfPeople 27 = .ok (.iload_n 1, 1) := by decide +kernel
theorem dX6_tellOfPeople_28 : decode cX6_tellOfPeople 28 = .ok (.bipush 20, 2) := by decide +kernel
theorem dX6_tellOfPeople_30 : decode cX6_tellOfPeople 30 = .ok (.if_icmp .ge 12, 3) := by decide +kernel
theorem dX6_tellOfPeople_33 : decode cX6_tellOfPeople 33 = .ok (.aload_n 0, 1) := by decide +kernel
theorem dX6_tellOfPeople_34 : decode cX6_tellOfPeople 34 = .ok (.iload_n 1, 1) := by decide +kernel
theorem dX6_tellOfPeople_35 : decode cX6_tellOfPeople 35 = .ok (.bipush 10, 2) := by decide +kernel
theorem dX6_tellOfPeople_37 : decode cX6_tellOfPeople 37 = .ok (.isub, 1) := by decide +kernel
theorem dX6_tellOfPeople_38 : decode cX6_tellOfPeople 38 = .ok (.invokestatic 51, 3) := by decide +kernel
theorem dX6_tellOfPeople_41 : decode cX6_tellOfPeople 41 = .ok (.ireturn, 1) := by decide +kernel
theorem dX6_tellOfPeople_42 : decode cX6_tellOfPeople 42 = .ok (.iload_n 1, 1) := by decide +kernel
theorem dX6_tellOfPeople_43 : decode cX6_tellOfPeople 43 = .ok (.bipush 20, 2) := by decide +kernel
theorem dX6_tellOfPeople_45 : decode cX6_tellOfPeople 45 = .ok (.if_icmp .lt 31, 3) := by decide +kernel
theorem dX6_tellOfPeople_48 : decode cX6_tellOfPeople 48 = .ok (.iload_n 1, 1) := by decide +kernel
theorem dX6_tellOfPeople_49 : decode cX6_tellOfPeople 49 = .ok (.bipush 30, 2) := by decide +kernel
theorem dX6_tellOfPeople_51 : decode cX6_tellOfPeople 51 = .ok (.if_icmp .ge 25, 3) := by decide +kernel
theorem dX6_tellOfPeople_54 : decode cX6_tellOfPeople 54 = .ok (.aload_n 0, 1) := by decide +kernel
theorem dX6_tellOfPeople_55 : decode cX6_tellOfPeople 55 = .ok (.iload_n 1, 1) := by decide +kernel
theorem dX6_tellOfPeople_56 : decode cX6_tellOfPeople 56 = .ok (.bipush 20, 2) := by decide +kernel
theorem dX6_tellOfPeople_58 : decode cX6_tellOfPeople 58 = .ok (.isub, 1) := by decide +kernel
theorem dX6_tellOfPeople_59 : decode cX6_tellOfPeople 59 = .ok (.invokevirtual 55, 3) := by decide +kernel
theorem dX6_tellOfPeople_62 : decode cX6_tellOfPeople 62 = .ok (.ifCond .eq 14, 3) := by decide +kernel
theorem dX6_tellOfPeople_65 : decode cX6_tellOfPeople 65 = .ok (.aload_n 0, 1) := by decide +kernel
theorem dX6_tellOfPeople_66 : decode cX6_tellOfPeople 66 = .ok (.iload_n 1, 1) := by decide +kernel
theorem dX6_tellOfPeople_67 : decode cX6_tellOfPeople 67 = .ok (.bipush 20, 2) := by decide +kernel
theorem dX6_tellOfPeople_69 : decode cX6_tellOfPeople 69 = .ok (.isub, 1) := by decide +kernel
theorem dX6_tellOfPeople_70 : decode cX6_tellOfPeople 70 = .ok (.invokestatic 59, 3) := by decide +kernel
theorem dX6_tellOfPeople_73 : decode cX6_tellOfPeople 73 = .ok (.goto 5, 3) := by decide +kernel
theorem dX6_tellOfPeople_76 : decode cX6_tellOfPeople 76 = .ok (.bipush (-2), 2) := by decide +kernel
theorem dX6_tellOfPeople_78 : decode cX6_tellOfPeople 78 = .ok (.ireturn, 1) := by decide +kernel
theorem dX6_feudOf_0 : decode cX6_feudOf 0 = .ok (.iconst 1, 1) := by decide +kernel
theorem dX6_feudOf_1 : decode cX6_feudOf 1 = .ok (.iload_n 1, 1) := by decide +kernel
theorem dX6_feudOf_2 : decode cX6_feudOf 2 = .ok (.ishl, 1) := by decide +kernel
theorem dX6_feudOf_3 : decode cX6_feudOf 3 = .ok (.istore_n 2, 1) := by decide +kernel
theorem dX6_feudOf_4 : decode cX6_feudOf 4 = .ok (.iconst 0, 1) := by decide +kernel
theorem dX6_feudOf_5 : decode cX6_feudOf 5 = .ok (.istore_n 3, 1) := by decide +kernel
theorem dX6_feudOf_6 : decode cX6_feudOf 6 = .ok (.iload_n 3, 1) := by decide +kernel
theorem dX6_feudOf_7 : decode cX6_feudOf 7 = .ok (.aload_n 0, 1) := by decide +kernel
theorem dX6_feudOf_8 : decode cX6_feudOf 8 = .ok (.getfield 18, 3) := by decide +kernel
theorem dX6_feudOf_11 : decode cX6_feudOf 11 = .ok (.if_icmp .ge 46, 3) := by decide +kernel
theorem dX6_feudOf_14 : decode cX6_feudOf 14 = .ok (.iconst 0, 1) := by decide +kernel
theorem dX6_feudOf_15 : decode cX6_feudOf 15 = .ok (.istore 4, 2) := by decide +kernel
theorem dX6_feudOf_17 : decode cX6_feudOf 17 = .ok (.iload 4, 2) := by decide +kernel
theorem dX6_feudOf_19 : decode cX6_feudOf 19 = .ok (.aload_n 0, 1) := by decide +kernel
theorem dX6_feudOf_20 : decode cX6_feudOf 20 = .ok (.getfield 18, 3) := by decide +kernel
theorem dX6_feudOf_23 : decode cX6_feudOf 23 = .ok (.if_icmp .ge 28, 3) := by decide +kernel
theorem dX6_feudOf_26 : decode cX6_feudOf 26 = .ok (.iload_n 2, 1) := by decide +kernel
theorem dX6_feudOf_27 : decode cX6_feudOf 27 = .ok (.iload 4, 2) := by decide +kernel
theorem dX6_feudOf_29 : decode cX6_feudOf 29 = .ok (.ishr, 1) := by decide +kernel
theorem dX6_feudOf_30 : decode cX6_feudOf 30 = .ok (.iconst 1, 1) := by decide +kernel
theorem dX6_feudOf_31 : decode cX6_feudOf 31 = .ok (.iand, 1) := by decide +kernel
theorem dX6_feudOf_32 : decode cX6_feudOf 32 = .ok (.ifCond .eq 13, 3) := by decide +kernel
theorem dX6_feudOf_35 : decode cX6_feudOf 35 = .ok (.iload_n 2, 1) := by decide +kernel
theorem dX6_feudOf_36 : decode cX6_feudOf 36 = .ok (.aload_n 0, 1) := by decide +kernel
theorem dX6_feudOf_37 : decode cX6_feudOf 37 = .ok (.getfield 32, 3) := by decide +kernel
theorem dX6_feudOf_40 : decode cX6_feudOf 40 = .ok (.iload 4, 2) := by decide +kernel
theorem dX6_feudOf_42 : decode cX6_feudOf 42 = .ok (.iaload, 1) := by decide +kernel
theorem dX6_feudOf_43 : decode cX6_feudOf 43 = .ok (.ior, 1) := by decide +kernel
theorem dX6_feudOf_44 : decode cX6_feudOf 44 = .ok (.istore_n 2, 1) := by decide +kernel
theorem dX6_feudOf_45 : decode cX6_feudOf 45 = .ok (.iinc 4 1, 3) := by decide +kernel
theorem dX6_feudOf_48 : decode cX6_feudOf 48 = .ok (.goto (-31), 3) := by decide +kernel
theorem dX6_feudOf_51 : decode cX6_feudOf 51 = .ok (.iinc 3 1, 3) := by decide +kernel
theorem dX6_feudOf_54 : decode cX6_feudOf 54 = .ok (.goto (-48), 3) := by decide +kernel
theorem dX6_feudOf_57 : decode cX6_feudOf 57 = .ok (.iload_n 2, 1) := by decide +kernel
theorem dX6_feudOf_58 : decode cX6_feudOf 58 = .ok (.ireturn, 1) := by decide +kernel
theorem dX6_feuds_0 : decode cX6_feuds 0 = .ok (.iconst 0, 1) := by decide +kernel
theorem dX6_feuds_1 : decode cX6_feuds 1 = .ok (.istore_n 1, 1) := by decide +kernel
theorem dX6_feuds_2 : decode cX6_feuds 2 = .ok (.iconst 0, 1) := by decide +kernel
theorem dX6_feuds_3 : decode cX6_feuds 3 = .ok (.istore_n 2, 1) := by decide +kernel
theorem dX6_feuds_4 : decode cX6_feuds 4 = .ok (.iconst 0, 1) := by decide +kernel
theorem dX6_feuds_5 : decode cX6_feuds 5 = .ok (.istore_n 3, 1) := by decide +kernel
theorem dX6_feuds_6 : decode cX6_feuds 6 = .ok (.iload_n 3, 1) := by decide +kernel
theorem dX6_feuds_7 : decode cX6_feuds 7 = .ok (.aload_n 0, 1) := by decide +kernel
theorem dX6_feuds_8 : decode cX6_feuds 8 = .ok (.getfield 18, 3) := by decide +kernel
theorem dX6_feuds_11 : decode cX6_feuds 11 = .ok (.if_icmp .ge 28, 3) := by decide +kernel
theorem dX6_feuds_14 : decode cX6_feuds 14 = .ok (.iload_n 1, 1) := by decide +kernel
theorem dX6_feuds_15 : decode cX6_feuds 15 = .ok (.iload_n 3, 1) := by decide +kernel
theorem dX6_feuds_16 : decode cX6_feuds 16 = .ok (.ishr, 1) := by decide +kernel
theorem dX6_feuds_17 : decode cX6_feuds 17 = .ok (.iconst 1, 1) := by decide +kernel
theorem dX6_feuds_18 : decode cX6_feuds 18 = .ok (.iand, 1) := by decide +kernel
theorem dX6_feuds_19 : decode cX6_feuds 19 = .ok (.ifCond .ne 14, 3) := by decide +kernel
theorem dX6_feuds_22 : decode cX6_feuds 22 = .ok (.iload_n 1, 1) := by decide +kernel
theorem dX6_feuds_23 : decode cX6_feuds 23 = .ok (.aload_n 0, 1) := by decide +kernel
theorem dX6_feuds_24 : decode cX6_feuds 24 = .ok (.iload_n 3, 1) := by decide +kernel
theorem dX6_feuds_25 : decode cX6_feuds 25 = .ok (.invokestatic 59, 3) := by decide +kernel
theorem dX6_feuds_28 : decode cX6_feuds 28 = .ok (.ior, 1) := by decide +kernel
theorem dX6_feuds_29 : decode cX6_feuds 29 = .ok (.istore_n 1, 1) := by decide +kernel
theorem dX6_feuds_30 : decode cX6_feuds 30 = .ok (.iinc 2 1, 3) := by decide +kernel
theorem dX6_feuds_33 : decode cX6_feuds 33 = .ok (.iinc 3 1, 3) := by decide +kernel
theorem dX6_feuds_36 : decode cX6_feuds 36 = .ok (.goto (-30), 3) := by decide +kernel
theorem dX6_feuds_39 : decode cX6_feuds 39 = .ok (.iload_n 2, 1) := by decide +kernel
theorem dX6_feuds_40 : decode cX6_feuds 40 = .ok (.ireturn, 1) := by decide +kernel
theorem dX6_loners_0 : decode cX6_loners 0 = .ok (.iconst 0, 1) := by decide +kernel
theorem dX6_loners_1 : decode cX6_loners 1 = .ok (.istore_n 1, 1) := by decide +kernel
theorem dX6_loners_2 : decode cX6_loners 2 = .ok (.iconst 0, 1) := by decide +kernel
theorem dX6_loners_3 : decode cX6_loners 3 = .ok (.istore_n 2, 1) := by decide +kernel
theorem dX6_loners_4 : decode cX6_loners 4 = .ok (.iload_n 2, 1) := by decide +kernel
theorem dX6_loners_5 : decode cX6_loners 5 = .ok (.aload_n 0, 1) := by decide +kernel
theorem dX6_loners_6 : decode cX6_loners 6 = .ok (.getfield 18, 3) := by decide +kernel
theorem dX6_loners_9 : decode cX6_loners 9 = .ok (.if_icmp .ge 31, 3) := by decide +kernel
theorem dX6_loners_12 : decode cX6_loners 12 = .ok (.aload_n 0, 1) := by decide +kernel
theorem dX6_loners_13 : decode cX6_loners 13 = .ok (.iload_n 2, 1) := by decide +kernel
theorem dX6_loners_14 : decode cX6_loners 14 = .ok (.invokevirtual 62, 3) := by decide +kernel
theorem dX6_loners_17 : decode cX6_loners 17 = .ok (.ifCond .ne 17, 3) := by decide +kernel
theorem dX6_loners_20 : decode cX6_loners 20 = .ok (.aload_n 0, 1) := by decide +kernel
theorem dX6_loners_21 : decode cX6_loners 21 = .ok (.iload_n 2, 1) := by decide +kernel
theorem dX6_loners_22 : decode cX6_loners 22 = .ok (.invokevirtual 66, 3) := by decide +kernel
theorem dX6_loners_25 : decode cX6_loners 25 = .ok (.ifCond .ne 9, 3) := by decide +kernel
theorem dX6_loners_28 : decode cX6_loners 28 = .ok (.iload_n 1, 1) := by decide +kernel
theorem dX6_loners_29 : decode cX6_loners 29 = .ok (.iconst 1, 1) := by decide +kernel
theorem dX6_loners_30 : decode cX6_loners 30 = .ok (.iload_n 2, 1) := by decide +kernel
theorem dX6_loners_31 : decode cX6_loners 31 = .ok (.ishl, 1) := by decide +kernel
theorem dX6_loners_32 : decode cX6_loners 32 = .ok (.ior, 1) := by decide +kernel
theorem dX6_loners_33 : decode cX6_loners 33 = .ok (.istore_n 1, 1) := by decide +kernel
theorem dX6_loners_34 : decode cX6_loners 34 = .ok (.iinc 2 1, 3) := by decide +kernel
theorem dX6_loners_37 : decode cX6_loners 37 = .ok (.goto (-33), 3) := by decide +kernel
theorem dX6_loners_40 : decode cX6_loners 40 = .ok (.iload_n 1, 1) := by decide +kernel
theorem dX6_loners_41 : decode cX6_loners 41 = .ok (.ireturn, 1) := by decide +kernel
theorem dX6_boreAt_0 : decode cX6_boreAt 0 = .ok (.iconst 0, 1) := by decide +kernel
theorem dX6_boreAt_1 : decode cX6_boreAt 1 = .ok (.istore_n 2, 1) := by decide +kernel
theorem dX6_boreAt_2 : decode cX6_boreAt 2 = .ok (.iload_n 2, 1) := by decide +kernel
theorem dX6_boreAt_3 : decode cX6_boreAt 3 = .ok (.aload_n 0, 1) := by decide +kernel
theorem dX6_boreAt_4 : decode cX6_boreAt 4 = .ok (.getfield 18, 3) := by decide +kernel
theorem dX6_boreAt_7 : decode cX6_boreAt 7 = .ok (.if_icmp .ge 77, 3) := by decide +kernel
theorem dX6_boreAt_10 : decode cX6_boreAt 10 = .ok (.iconst 0, 1) := by decide +kernel
theorem dX6_boreAt_11 : decode cX6_boreAt 11 = .ok (.istore_n 3, 1) := by decide +kernel
theorem dX6_boreAt_12 : decode cX6_boreAt 12 = .ok (.iconst 0, 1) := by decide +kernel
theorem dX6_boreAt_13 : decode cX6_boreAt 13 = .ok (.istore 4, 2) := by decide +kernel
theorem dX6_boreAt_15 : decode cX6_boreAt 15 = .ok (.iload 4, 2) := by decide +kernel
theorem dX6_boreAt_17 : decode cX6_boreAt 17 = .ok (.aload_n 0, 1) := by decide +kernel
theorem dX6_boreAt_18 : decode cX6_boreAt 18 = .ok (.getfield 18, 3) := by decide +kernel
theorem dX6_boreAt_21 : decode cX6_boreAt 21 = .ok (.if_icmp .ge 50, 3) := by decide +kernel
theorem dX6_boreAt_24 : decode cX6_boreAt 24 = .ok (.aload_n 0, 1) := by decide +kernel
theorem dX6_boreAt_25 : decode cX6_boreAt 25 = .ok (.getfield 35, 3) := by decide +kernel
theorem dX6_boreAt_28 : decode cX6_boreAt 28 = .ok (.iload 4, 2) := by decide +kernel
theorem dX6_boreAt_30 : decode cX6_boreAt 30 = .ok (.iaload, 1) := by decide +kernel
theorem dX6_boreAt_31 : decode cX6_boreAt 31 = .ok (.aload_n 0, 1) := by decide +kernel
theorem dX6_boreAt_32 : decode cX6_boreAt 32 = .ok (.getfield 35, 3) := by decide +kernel
theorem dX6_boreAt_35 : decode cX6_boreAt 35 = .ok (.iload_n 2, 1) := by decide +kernel
theorem dX6_boreAt_36 : decode cX6_boreAt 36 = .ok (.iaload, 1) := by decide +kernel
theorem dX6_boreAt_37 : decode cX6_boreAt 37 = .ok (.if_icmp .lt 25, 3) := by decide +kernel
theorem dX6_boreAt_40 : decode cX6_boreAt 40 = .ok (.aload_n 0, 1) := by decide +kernel
theorem dX6_boreAt_41 : decode cX6_boreAt 41 = .ok (.getfield 35, 3) := by decide +kernel
theorem dX6_boreAt_44 : decode cX6_boreAt 44 = .ok (.iload 4, 2) := by decide +kernel
theorem dX6_boreAt_46 : decode cX6_boreAt 46 = .ok (.iaload, 1) := by decide +kernel
theorem dX6_boreAt_47 : decode cX6_boreAt 47 = .ok (.aload_n 0, 1) := by decide +kernel
theorem dX6_boreAt_48 : decode cX6_boreAt 48 = .ok (.getfield 35, 3) := by decide +kernel
theorem dX6_boreAt_51 : decode cX6_boreAt 51 = .ok (.iload_n 2, 1) := by decide +kernel
theorem dX6_boreAt_52 : decode cX6_boreAt 52 = .ok (.iaload, 1) := by decide +kernel
theorem dX6_boreAt_53 : decode cX6_boreAt 53 = .ok (.if_icmp .ne 12, 3) := by decide +kernel
theorem dX6_boreAt_56 : decode cX6_boreAt 56 = .ok (.iload 4, 2) := by decide +kernel
theorem dX6_boreAt_58 : decode cX6_boreAt 58 = .ok (.iload_n 2, 1) := by decide +kernel
theorem dX6_boreAt_59 : decode cX6_boreAt 59 = .ok (.if_icmp .ge 6, 3) := by decide +kernel
theorem dX6_boreAt_62 : decode cX6_boreAt 62 = .ok (.iinc 3 1, 3) := by decide +kernel
theorem dX6_boreAt_65 : decode cX6_boreAt 65 = .ok (.iinc 4 1, 3) := by decide +kernel
theorem dX6_boreAt_68 : decode cX6_boreAt 68 = .ok (.goto (-53), 3) := by decide +kernel
theorem dX6_boreAt_71 : decode cX6_boreAt 71 = .ok (.iload_n 3, 1) := by decide +kernel
theorem dX6_boreAt_72 : decode cX6_boreAt 72 = .ok (.iload_n 1, 1) := by decide +kernel
theorem dX6_boreAt_73 : decode cX6_boreAt 73 = .ok (.if_icmp .ne 5, 3) := by decide +kernel
theorem dX6_boreAt_76 : decode cX6_boreAt 76 = .ok (.iload_n 2, 1) := by decide +kernel
theorem dX6_boreAt_77 : decode cX6_boreAt 77 = .ok (.ireturn, 1) := by decide +kernel
theorem dX6_boreAt_78 : decode cX6_boreAt 78 = .ok (.iinc 2 1, 3) := by decide +kernel
theorem dX6_boreAt_81 : decode cX6_boreAt 81 = .ok (.goto (-79), 3) := by decide +kernel
theorem dX6_boreAt_84 : decode cX6_boreAt 84 = .ok (.bipush (-2), 2) := by decide +kernel
theorem dX6_boreAt_86 : decode cX6_boreAt 86 = .ok (.ireturn, 1) := by decide +kernel
theorem dX6_wittiestParty_0 : decode cX6_wittiestParty 0 = .ok (.iconst (-1), 1) := by decide +kernel
theorem dX6_wittiestParty_1 : decode cX6_wittiestParty 1 = .ok (.istore_n 3, 1) := by decide +kernel
theorem dX6_wittiestParty_2 : decode cX6_wittiestParty 2 = .ok (.iconst (-1), 1) := by decide +kernel
theorem dX6_wittiestParty_3 : decode cX6_wittiestParty 3 = .ok (.istore 4, 2) := by decide +kernel
theorem dX6_wittiestParty_5 : decode cX6_wittiestParty 5 = .ok (.iconst 0, 1) := by decide +kernel
theorem dX6_wittiestParty_6 : decode cX6_wittiestParty 6 = .ok (.istore 5, 2) := by decide +kernel
theorem dX6_wittiestParty_8 : decode cX6_wittiestParty 8 = .ok (.iload 5, 2) := by decide +kernel
theorem dX6_wittiestParty_10 : decode cX6_wittiestParty 10 = .ok (.iconst 1, 1) := by decide +kernel
theorem dX6_wittiestParty_11 : decode cX6_wittiestParty 11 = .ok (.aload_n 0, 1) := by decide +kernel
theorem dX6_wittiestParty_12 : decode cX6_wittiestParty 12 = .ok (.getfield 18, 3) := by decide +kernel
theorem dX6_wittiestParty_15 : decode cX6_wittiestParty 15 = .ok (.ishl, 1) := by decide +kernel
theorem dX6_wittiestParty_16 : decode cX6_wittiestParty 16 = .ok (.if_icmp .ge 48, 3) := by decide +kernel
theorem dX6_wittiestParty_19 : decode cX6_wittiestParty 19 = .ok (.iload 5, 2) := by decide +kernel
theorem dX6_wittiestParty_21 : decode cX6_wittiestParty 21 = .ok (.invokestatic 69, 3) := by decide +kernel
theorem dX6_wittiestParty_24 : decode cX6_wittiestParty 24 = .ok (.iload_n 1, 1) := by decide +kernel
theorem dX6_wittiestParty_25 : decode cX6_wittiestParty 25 = .ok (.if_icmp .ne 33, 3) := by decide +kernel
theorem dX6_wittiestParty_28 : decode cX6_wittiestParty 28 = .ok (.aload_n 0, 1) := by decide +kernel
theorem dX6_wittiestParty_29 : decode cX6_wittiestParty 29 = .ok (.iload 5, 2) := by decide +kernel
theorem dX6_wittiestParty_31 : decode cX6_wittiestParty 31 = .ok (.invokevirtual 74, 3) := by decide +kernel
theorem dX6_wittiestParty_34 : decode cX6_wittiestParty 34 = .ok (.ifCond .eq 24, 3) := by decide +kernel
theorem dX6_wittiestParty_37 : decode cX6_wittiestParty 37 = .ok (.aload_n 0, 1) := by decide +kernel
theorem dX6_wittiestParty_38 : decode cX6_wittiestParty 38 = .ok (.iload 5, 2) := by decide +kernel
theorem dX6_wittiestParty_40 : decode cX6_wittiestParty 40 = .ok (.invokevirtual 77, 3) := by decide +kernel
theorem dX6_wittiestParty_43 : decode cX6_wittiestParty 43 = .ok (.iload_n 3, 1) := by decide +kernel
theorem dX6_wittiestParty_44 : decode cX6_wittiestParty 44 = .ok (.if_icmp .le 14, 3) := by decide +kernel
theorem dX6_wittiestParty_47 : decode cX6_wittiestParty 47 = .ok (.aload_n 0, 1) := by decide +kernel
theorem dX6_wittiestParty_48 : decode cX6_wittiestParty 48 = .ok (.iload 5, 2) := by decide +kernel
theorem dX6_wittiestParty_50 : decode cX6_wittiestParty 50 = .ok (.invokevirtual 77, 3) := by decide +kernel
theorem dX6_wittiestParty_53 : decode cX6_wittiestParty 53 = .ok (.istore_n 3, 1) := by decide +kernel
theorem dX6_wittiestParty_54 : decode cX6_wittiestParty 54 = .ok (.iload 5, 2) := by decide +kernel
theorem dX6_wittiestParty_56 : decode cX6_wittiestParty 56 = .ok (.istore 4, 2) := by decide +kernel
theorem dX6_wittiestParty_58 : decode cX6_wittiestParty 58 = .ok (.iinc 5 1, 3) := by decide +kernel
theorem dX6_wittiestParty_61 : decode cX6_wittiestParty 61 = .ok (.goto (-53), 3) := by decide +kernel
theorem dX6_wittiestParty_64 : decode cX6_wittiestParty 64 = .ok (.iload_n 2, 1) := by decide +kernel
theorem dX6_wittiestParty_65 : decode cX6_wittiestParty 65 = .ok (.ifCond .eq 8, 3) := by decide +kernel
theorem dX6_wittiestParty_68 : decode cX6_wittiestParty 68 = .ok (.iload 4, 2) := by decide +kernel
theorem dX6_wittiestParty_70 : decode cX6_wittiestParty 70 = .ok (.goto 4, 3) := by decide +kernel
theorem dX6_wittiestParty_73 : decode cX6_wittiestParty 73 = .ok (.iload_n 3, 1) := by decide +kernel
theorem dX6_wittiestParty_74 : decode cX6_wittiestParty 74 = .ok (.ireturn, 1) := by decide +kernel
theorem dX6_fewestTables_0 : decode cX6_fewestTables 0 = .ok (.iconst 0, 1) := by decide +kernel
theorem dX6_fewestTables_1 : decode cX6_fewestTables 1 = .ok (.istore_n 3, 1) := by decide +kernel
theorem dX6_fewestTables_2 : decode cX6_fewestTables 2 = .ok (.iload_n 3, 1) := by decide +kernel
theorem dX6_fewestTables_3 : decode cX6_fewestTables 3 = .ok (.aload_n 1, 1) := by decide +kernel
theorem dX6_fewestTables_4 : decode cX6_fewestTables 4 = .ok (.getfield 18, 3) := by decide +kernel
theorem dX6_fewestTables_7 : decode cX6_fewestTables 7 = .ok (.if_icmp .ge 23, 3) := by decide +kernel
theorem dX6_fewestTables_10 : decode cX6_fewestTables 10 = .ok (.aload_n 1, 1) := by decide +kernel
theorem dX6_fewestTables_11 : decode cX6_fewestTables 11 = .ok (.aload_n 0, 1) := by decide +kernel
theorem dX6_fewestTables_12 : decode cX6_fewestTables 12 = .ok (.getfield 9, 3) := by decide +kernel
theorem dX6_fewestTables_15 : decode cX6_fewestTables 15 = .ok (.iconst 0, 1) := by decide +kernel
theorem dX6_fewestTables_16 : decode cX6_fewestTables 16 = .ok (.iload_n 3, 1) := by decide +kernel
theorem dX6_fewestTables_17 : decode cX6_fewestTables 17 = .ok (.iconst 0, 1) := by decide +kernel
theorem dX6_fewestTables_18 : decode cX6_fewestTables 18 = .ok (.invokestatic 80, 3) := by decide +kernel
theorem dX6_fewestTables_21 : decode cX6_fewestTables 21 = .ok (.ifCond .ne 9, 3) := by decide +kernel
theorem dX6_fewestTables_24 : decode cX6_fewestTables 24 = .ok (.iinc 3 1, 3) := by decide +kernel
theorem dX6_fewestTables_27 : decode cX6_fewestTables 27 = .ok (.goto (-25), 3) := by decide +kernel
theorem dX6_fewestTables_30 : decode cX6_fewestTables 30 = .ok (.iload_n 3, 1) := by decide +kernel
theorem dX6_fewestTables_31 : decode cX6_fewestTables 31 = .ok (.aload_n 1, 1) := by decide +kernel
theorem dX6_fewestTables_32 : decode cX6_fewestTables 32 = .ok (.getfield 18, 3) := by decide +kernel
theorem dX6_fewestTables_35 : decode cX6_fewestTables 35 = .ok (.if_icmp .ne 15, 3) := by decide +kernel
theorem dX6_fewestTables_38 : decode cX6_fewestTables 38 = .ok (.aload_n 1, 1) := by decide +kernel
theorem dX6_fewestTables_39 : decode cX6_fewestTables 39 = .ok (.aload_n 0, 1) := by decide +kernel
theorem dX6_fewestTables_40 : decode cX6_fewestTables 40 = .ok (.getfield 9, 3) := by decide +kernel
theorem dX6_fewestTables_43 : decode cX6_fewestTables 43 = .ok (.iconst 0, 1) := by decide +kernel
theorem dX6_fewestTables_44 : decode cX6_fewestTables 44 = .ok (.iload_n 3, 1) := by decide +kernel
theorem dX6_fewestTables_45 : decode cX6_fewestTables 45 = .ok (.iconst 0, 1) := by decide +kernel
theorem dX6_fewestTables_46 : decode cX6_fewestTables 46 = .ok (.invokestatic 80, 3) := by decide +kernel
theorem dX6_fewestTables_49 : decode cX6_fewestTables 49 = .ok (.pop, 1) := by decide +kernel
theorem dX6_fewestTables_50 : decode cX6_fewestTables 50 = .ok (.iload_n 2, 1) := by decide +kernel
theorem dX6_fewestTables_51 : decode cX6_fewestTables 51 = .ok (.ifCond .lt 9, 3) := by decide +kernel
theorem dX6_fewestTables_54 : decode cX6_fewestTables 54 = .ok (.iload_n 2, 1) := by decide +kernel
theorem dX6_fewestTables_55 : decode cX6_fewestTables 55 = .ok (.bipush 6, 2) := by decide +kernel
theorem dX6_fewestTables_57 : decode cX6_fewestTables 57 = .ok (.if_icmp .lt 7, 3) := by decide +kernel
theorem dX6_fewestTables_60 : decode cX6_fewestTables 60 = .ok (.iload_n 3, 1) := by decide +kernel
theorem dX6_fewestTables_61 : decode cX6_fewestTables 61 = .ok (.goto 9, 3) := by decide +kernel
theorem dX6_fewestTables_64 : decode cX6_fewestTables 64 = .ok (.aload_n 0, 1) := by decide +kernel
theorem dX6_fewestTables_65 : decode cX6_fewestTables 65 = .ok (.getfield 9, 3) := by decide +kernel
theorem dX6_fewestTables_68 : decode cX6_fewestTables 68 = .ok (.iload_n 2, 1) := by decide +kernel
theorem dX6_fewestTables_69 : decode cX6_fewestTables 69 = .ok (.iaload, 1) := by decide +kernel
theorem dX6_fewestTables_70 : decode cX6_fewestTables 70 = .ok (.ireturn, 1) := by decide +kernel
theorem dX6_canSeat_0 : decode cX6_canSeat 0 = .ok (.iload_n 2, 1) := by decide +kernel
theorem dX6_canSeat_1 : decode cX6_canSeat 1 = .ok (.aload_n 0, 1) := by decide +kernel
theorem dX6_canSeat_2 : decode cX6_canSeat 2 = .ok (.getfield 18, 3) := by decide +kernel
theorem dX6_canSeat_5 : decode cX6_canSeat 5 = .ok (.if_icmp .ge 9, 3) := by decide +kernel
theorem dX6_canSeat_8 : decode cX6_canSeat 8 = .ok (.iload_n 2, 1) := by decide +kernel
theorem dX6_canSeat_9 : decode cX6_canSeat 9 = .ok (.aload_n 1, 1) := by decide +kernel
theorem dX6_canSeat_10 : decode cX6_canSeat 10 = .ok (.arraylength, 1) := by decide +kernel
theorem dX6_canSeat_11 : decode cX6_canSeat 11 = .ok (.if_icmp .lt 5, 3) := by decide +kernel
theorem dX6_canSeat_14 : decode cX6_canSeat 14 = .ok (.iconst 1, 1) := by decide +kernel
theorem dX6_canSeat_15 : decode cX6_canSeat 15 = .ok (.ireturn, 1) := by decide +kernel
theorem dX6_canSeat_16 : decode cX6_canSeat 16 = .ok (.iconst 0, 1) := by decide +kernel
theorem dX6_canSeat_17 : decode cX6_canSeat 17 = .ok (.istore 5, 2) := by decide +kernel
theorem dX6_canSeat_19 : decode cX6_canSeat 19 = .ok (.iload 5, 2) := by decide +kernel
theorem dX6_canSeat_21 : decode cX6_canSeat 21 = .ok (.iload_n 3, 1) := by decide +kernel
theorem dX6_canSeat_22 : decode cX6_canSeat 22 = .ok (.if_icmp .ge 55, 3) := by decide +kernel
theorem dX6_canSeat_25 : decode cX6_canSeat 25 = .ok (.iload 5, 2) := by decide +kernel
theorem dX6_canSeat_27 : decode cX6_canSeat 27 = .ok (.iload 4, 2) := by decide +kernel
theorem dX6_canSeat_29 : decode cX6_canSeat 29 = .ok (.if_icmp .gt 48, 3) := by decide +kernel
theorem dX6_canSeat_32 : decode cX6_canSeat 32 = .ok (.aload_n 0, 1) := by decide +kernel
theorem dX6_canSeat_33 : decode cX6_canSeat 33 = .ok (.aload_n 1, 1) := by decide +kernel
theorem dX6_canSeat_34 : decode cX6_canSeat 34 = .ok (.iload_n 2, 1) := by decide +kernel
theorem dX6_canSeat_35 : decode cX6_canSeat 35 = .ok (.iload 5, 2) := by decide +kernel
theorem dX6_canSeat_37 : decode cX6_canSeat 37 = .ok (.invokestatic 84, 3) := by decide +kernel
theorem dX6_canSeat_40 : decode cX6_canSeat 40 = .ok (.ifCond .eq 31, 3) := by decide +kernel
theorem dX6_canSeat_43 : decode cX6_canSeat 43 = .ok (.aload_n 1, 1) := by decide +kernel
theorem dX6_canSeat_44 : decode cX6_canSeat 44 = .ok (.iload_n 2, 1) := by decide +kernel
theorem dX6_canSeat_45 : decode cX6_canSeat 45 = .ok (.iload 5, 2) := by decide +kernel
theorem dX6_canSeat_47 : decode cX6_canSeat 47 = .ok (.iastore, 1) := by decide +kernel
theorem dX6_canSeat_48 : decode cX6_canSeat 48 = .ok (.aload_n 0, 1) := by decide +kernel
theorem dX6_canSeat_49 : decode cX6_canSeat 49 = .ok (.aload_n 1, 1) := by decide +kernel
theorem dX6_canSeat_50 : decode cX6_canSeat 50 = .ok (.iload_n 2, 1) := by decide +kernel
theorem dX6_canSeat_51 : decode cX6_canSeat 51 = .ok (.iconst 1, 1) := by decide +kernel
theorem dX6_canSeat_52 : decode cX6_canSeat 52 = .ok (.iadd, 1) := by decide +kernel
theorem dX6_canSeat_53 : decode cX6_canSeat 53 = .ok (.iload_n 3, 1) := by decide +kernel
theorem dX6_canSeat_54 : decode cX6_canSeat 54 = .ok (.iload 4, 2) := by decide +kernel
theorem dX6_canSeat_56 : decode cX6_canSeat 56 = .ok (.iload 5, 2) := by decide +kernel
theorem dX6_canSeat_58 : decode cX6_canSeat 58 = .ok (.iconst 1, 1) := by decide +kernel
theorem dX6_canSeat_59 : decode cX6_canSeat 59 = .ok (.iadd, 1) := by decide +kernel
theorem dX6_canSeat_60 : decode cX6_canSeat 60 = .ok (.invokestatic 38, 3) := by decide +kernel
theorem dX6_canSeat_63 : decode cX6_canSeat 63 = .ok (.invokestatic 80, 3) := by decide +kernel
theorem dX6_canSeat_66 : decode cX6_canSeat 66 = .ok (.ifCond .eq 5, 3) := by decide +kernel
theorem dX6_canSeat_69 : decode cX6_canSeat 69 = .ok (.iconst 1, 1) := by decide +kernel
theorem dX6_canSeat_70 : decode cX6_canSeat 70 = .ok (.ireturn, 1) := by decide +kernel
theorem dX6_canSeat_71 : decode cX6_canSeat 71 = .ok (.iinc 5 1, 3) := by decide +kernel
theorem dX6_canSeat_74 : decode cX6_canSeat 74 = .ok (.goto (-55), 3) := by decide +kernel
theorem dX6_canSeat_77 : decode cX6_canSeat 77 = .ok (.iconst 0, 1) := by decide +kernel
theorem dX6_canSeat_78 : decode cX6_canSeat 78 = .ok (.ireturn, 1) := by decide +kernel
theorem dX6_isFree_0 : decode cX6_isFree 0 = .ok (.iconst 0, 1) := by decide +kernel
theorem dX6_isFree_1 : decode cX6_isFree 1 = .ok (.istore 4, 2) := by decide +kernel
theorem dX6_isFree_3 : decode cX6_isFree 3 = .ok (.iload 4, 2) := by decide +kernel
theorem dX6_isFree_5 : decode cX6_isFree 5 = .ok (.iload_n 2, 1) := by decide +kernel
theorem dX6_isFree_6 : decode cX6_isFree 6 = .ok (.if_icmp .ge 29, 3) := by decide +kernel
theorem dX6_isFree_9 : decode cX6_isFree 9 = .ok (.aload_n 1, 1) := by decide +kernel
theorem dX6_isFree_10 : decode cX6_isFree 10 = .ok (.iload 4, 2) := by decide +kernel
theorem dX6_isFree_12 : decode cX6_isFree 12 = .ok (.iaload, 1) := by decide +kernel
theorem dX6_isFree_13 : decode cX6_isFree 13 = .ok (.iload_n 3, 1) := by decide +kernel
theorem dX6_isFree_14 : decode cX6_isFree 14 = .ok (.if_icmp .ne 15, 3) := by decide +kernel
theorem dX6_isFree_17 : decode cX6_isFree 17 = .ok (.aload_n 0, 1) := by decide +kernel
theorem dX6_isFree_18 : decode cX6_isFree 18 = .ok (.iload_n 2, 1) := by decide +kernel
theorem dX6_isFree_19 : decode cX6_isFree 19 = .ok (.iload 4, 2) := by decide +kernel
theorem dX6_isFree_21 : decode cX6_isFree 21 = .ok (.invokevirtual 88, 3) := by decide +kernel
theorem dX6_isFree_24 : decode cX6_isFree 24 = .ok (.ifCond .eq 5, 3) := by decide +kernel
theorem dX6_isFree_27 : decode cX6_isFree 27 = .ok (.iconst 0, 1) := by decide +kernel
theorem dX6_isFree_28 : decode cX6_isFree 28 = .ok (.ireturn, 1) := by decide +kernel
theorem dX6_isFree_29 : decode cX6_isFree 29 = .ok (.iinc 4 1, 3) := by decide +kernel
theorem dX6_isFree_32 : decode cX6_isFree 32 = .ok (.goto (-29), 3) := by decide +kernel
theorem dX6_isFree_35 : decode cX6_isFree 35 = .ok (.iconst 1, 1) := by decide +kernel
theorem dX6_isFree_36 : decode cX6_isFree 36 = .ok (.ireturn, 1) := by decide +kernel
theorem dX6_fullestHour_0 : decode cX6_fullestHour 0 = .ok (.iconst 0, 1) := by decide +kernel
theorem dX6_fullestHour_1 : decode cX6_fullestHour 1 = .ok (.istore_n 3, 1) := by decide +kernel
theorem dX6_fullestHour_2 : decode cX6_fullestHour 2 = .ok (.iconst 0, 1) := by decide +kernel
theorem dX6_fullestHour_3 : decode cX6_fullestHour 3 = .ok (.istore 4, 2) := by decide +kernel
theorem dX6_fullestHour_5 : decode cX6_fullestHour 5 = .ok (.iload 4, 2) := by decide +kernel
theorem dX6_fullestHour_7 : decode cX6_fullestHour 7 = .ok (.aload_n 1, 1) := by decide +kernel
theorem dX6_fullestHour_8 : decode cX6_fullestHour 8 = .ok (.getfield 18, 3) := by decide +kernel
theorem dX6_fullestHour_11 : decode cX6_fullestHour 11 = .ok (.if_icmp .ge 35, 3) := by decide +kernel
theorem dX6_fullestHour_14 : decode cX6_fullestHour 14 = .ok (.aload_n 0, 1) := by decide +kernel
theorem dX6_fullestHour_15 : decode cX6_fullestHour 15 = .ok (.getfield 15, 3) := by decide +kernel
theorem dX6_fullestHour_18 : decode cX6_fullestHour 18 = .ok (.iload 4, 2) := by decide +kernel
theorem dX6_fullestHour_20 : decode cX6_fullestHour 20 = .ok (.aload_n 1, 1) := by decide +kernel
theorem dX6_fullestHour_21 : decode cX6_fullestHour 21 = .ok (.iload 4, 2) := by decide +kernel
theorem dX6_fullestHour_23 : decode cX6_fullestHour 23 = .ok (.invokevirtual 66, 3) := by decide +kernel
theorem dX6_fullestHour_26 : decode cX6_fullestHour 26 = .ok (.iastore, 1) := by decide +kernel
theorem dX6_fullestHour_27 : decode cX6_fullestHour 27 = .ok (.aload_n 0, 1) := by decide +kernel
theorem dX6_fullestHour_28 : decode cX6_fullestHour 28 = .ok (.getfield 15, 3) := by decide +kernel
theorem dX6_fullestHour_31 : decode cX6_fullestHour 31 = .ok (.iload 4, 2) := by decide +kernel
theorem dX6_fullestHour_33 : decode cX6_fullestHour 33 = .ok (.iaload, 1) := by decide +kernel
theorem dX6_fullestHour_34 : decode cX6_fullestHour 34 = .ok (.ifCond .eq 6, 3) := by decide +kernel
theorem dX6_fullestHour_37 : decode cX6_fullestHour 37 = .ok (.iinc 3 1, 3) := by decide +kernel
theorem dX6_fullestHour_40 : decode cX6_fullestHour 40 = .ok (.iinc 4 1, 3) := by decide +kernel
theorem dX6_fullestHour_43 : decode cX6_fullestHour 43 = .ok (.goto (-38), 3) := by decide +kernel
theorem dX6_fullestHour_46 : decode cX6_fullestHour 46 = .ok (.iload_n 3, 1) := by decide +kernel
theorem dX6_fullestHour_47 : decode cX6_fullestHour 47 = .ok (.istore 4, 2) := by decide +kernel
theorem dX6_fullestHour_49 : decode cX6_fullestHour 49 = .ok (.iload 4, 2) := by decide +kernel
theorem dX6_fullestHour_51 : decode cX6_fullestHour 51 = .ok (.ifCond .le 29, 3) := by decide +kernel
theorem dX6_fullestHour_54 : decode cX6_fullestHour 54 = .ok (.aload_n 1, 1) := by decide +kernel
theorem dX6_fullestHour_55 : decode cX6_fullestHour 55 = .ok (.aload_n 0, 1) := by decide +kernel
theorem dX6_fullestHour_56 : decode cX6_fullestHour 56 = .ok (.getfield 15, 3) := by decide +kernel
theorem dX6_fullestHour_59 : decode cX6_fullestHour 59 = .ok (.aload_n 0, 1) := by decide +kernel
theorem dX6_fullestHour_60 : decode cX6_fullestHour 60 = .ok (.getfield 9, 3) := by decide +kernel
theorem dX6_fullestHour_63 : decode cX6_fullestHour 63 = .ok (.iconst 0, 1) := by decide +kernel
theorem dX6_fullestHour_64 : decode cX6_fullestHour 64 = .ok (.iload_n 3, 1) := by decide +kernel
theorem dX6_fullestHour_65 : decode cX6_fullestHour 65 = .ok (.iload 4, 2) := by decide +kernel
theorem dX6_fullestHour_67 : decode cX6_fullestHour 67 = .ok (.isub, 1) := by decide +kernel
theorem dX6_fullestHour_68 : decode cX6_fullestHour 68 = .ok (.invokestatic 92, 3) := by decide +kernel
theorem dX6_fullestHour_71 : decode cX6_fullestHour 71 = .ok (.ifCond .ne 9, 3) := by decide +kernel
theorem dX6_fullestHour_74 : decode cX6_fullestHour 74 = .ok (.iinc 4 (-1), 3) := by decide +kernel
theorem dX6_fullestHour_77 : decode cX6_fullestHour 77 = .ok (.goto (-28), 3) := by decide +kernel
theorem dX6_fullestHour_80 : decode cX6_fullestHour 80 = .ok (.iload 4, 2) := by decide +kernel
theorem dX6_fullestHour_82 : decode cX6_fullestHour 82 = .ok (.ifCond .ne 12, 3) := by decide +kernel
theorem dX6_fullestHour_85 : decode cX6_fullestHour 85 = .ok (.aload_n 0, 1) := by decide +kernel
theorem dX6_fullestHour_86 : decode cX6_fullestHour 86 = .ok (.getfield 9, 3) := by decide +kernel
theorem dX6_fullestHour_89 : decode cX6_fullestHour 89 = .ok (.bipush 6, 2) := by decide +kernel
theorem dX6_fullestHour_91 : decode cX6_fullestHour 91 = .ok (.invokestatic 96, 3) := by decide +kernel
theorem dX6_fullestHour_94 : decode cX6_fullestHour 94 = .ok (.iload_n 2, 1) := by decide +kernel
theorem dX6_fullestHour_95 : decode cX6_fullestHour 95 = .ok (.ifCond .lt 9, 3) := by decide +kernel
theorem dX6_fullestHour_98 : decode cX6_fullestHour 98 = .ok (.iload_n 2, 1) := by decide +kernel
theorem dX6_fullestHour_99 : decode cX6_fullestHour 99 = .ok (.bipush 6, 2) := by decide +kernel
theorem dX6_fullestHour_101 : decode cX6_fullestHour 101 = .ok (.if_icmp .lt 8, 3) := by decide +kernel
theorem dX6_fullestHour_104 : decode cX6_fullestHour 104 = .ok (.iload 4, 2) := by decide +kernel
theorem dX6_fullestHour_106 : decode cX6_fullestHour 106 = .ok (.goto 9, 3) := by decide +kernel
theorem dX6_fullestHour_109 : decode cX6_fullestHour 109 = .ok (.aload_n 0, 1) := by decide +kernel
theorem dX6_fullestHour_110 : decode cX6_fullestHour 110 = .ok (.getfield 9, 3) := by decide +kernel
theorem dX6_fullestHour_113 : decode cX6_fullestHour 113 = .ok (.iload_n 2, 1) := by decide +kernel
theorem dX6_fullestHour_114 : decode cX6_fullestHour 114 = .ok (.iaload, 1) := by decide +kernel
theorem dX6_fullestHour_115 : decode cX6_fullestHour 115 = .ok (.ireturn, 1) := by decide +kernel
theorem dX6_canSit_0 : decode cX6_canSit 0 = .ok (.iload_n 3, 1) := by decide +kernel
theorem dX6_canSit_1 : decode cX6_canSit 1 = .ok (.aload_n 0, 1) := by decide +kernel
theorem dX6_canSit_2 : decode cX6_canSit 2 = .ok (.getfield 18, 3) := by decide +kernel
theorem dX6_canSit_5 : decode cX6_canSit 5 = .ok (.if_icmp .ge 15, 3) := by decide +kernel
theorem dX6_canSit_8 : decode cX6_canSit 8 = .ok (.iload_n 3, 1) := by decide +kernel
theorem dX6_canSit_9 : decode cX6_canSit 9 = .ok (.aload_n 2, 1) := by decide +kernel
theorem dX6_canSit_10 : decode cX6_canSit 10 = .ok (.arraylength, 1) := by decide +kernel
theorem dX6_canSit_11 : decode cX6_canSit 11 = .ok (.if_icmp .ge 9, 3) := by decide +kernel
theorem dX6_canSit_14 : decode cX6_canSit 14 = .ok (.iload_n 3, 1) := by decide +kernel
theorem dX6_canSit_15 : decode cX6_canSit 15 = .ok (.aload_n 1, 1) := by decide +kernel
theorem dX6_canSit_16 : decode cX6_canSit 16 = .ok (.arraylength, 1) := by decide +kernel
theorem dX6_canSit_17 : decode cX6_canSit 17 = .ok (.if_icmp .lt 5, 3) := by decide +kernel
theorem dX6_canSit_20 : decode cX6_canSit 20 = .ok (.iconst 1, 1) := by decide +kernel
theorem dX6_canSit_21 : decode cX6_canSit 21 = .ok (.ireturn, 1) := by decide +kernel
theorem dX6_canSit_22 : decode cX6_canSit 22 = .ok (.iconst 0, 1) := by decide +kernel
theorem dX6_canSit_23 : decode cX6_canSit 23 = .ok (.istore 5, 2) := by decide +kernel
theorem dX6_canSit_25 : decode cX6_canSit 25 = .ok (.iload 5, 2) := by decide +kernel
theorem dX6_canSit_27 : decode cX6_canSit 27 = .ok (.aload_n 0, 1) := by decide +kernel
theorem dX6_canSit_28 : decode cX6_canSit 28 = .ok (.getfield 18, 3) := by decide +kernel
theorem dX6_canSit_31 : decode cX6_canSit 31 = .ok (.if_icmp .ge 52, 3) := by decide +kernel
theorem dX6_canSit_34 : decode cX6_canSit 34 = .ok (.aload_n 1, 1) := by decide +kernel
theorem dX6_canSit_35 : decode cX6_canSit 35 = .ok (.iload_n 3, 1) := by decide +kernel
theorem dX6_canSit_36 : decode cX6_canSit 36 = .ok (.iaload, 1) := by decide +kernel
theorem dX6_canSit_37 : decode cX6_canSit 37 = .ok (.iload 5, 2) := by decide +kernel
theorem dX6_canSit_39 : decode cX6_canSit 39 = .ok (.ishr, 1) := by decide +kernel
theorem dX6_canSit_40 : decode cX6_canSit 40 = .ok (.iconst 1, 1) := by decide +kernel
theorem dX6_canSit_41 : decode cX6_canSit 41 = .ok (.iand, 1) := by decide +kernel
theorem dX6_canSit_42 : decode cX6_canSit 42 = .ok (.ifCond .eq 35, 3) := by decide +kernel
theorem dX6_canSit_45 : decode cX6_canSit 45 = .ok (.aload_n 0, 1) := by decide +kernel
theorem dX6_canSit_46 : decode cX6_canSit 46 = .ok (.aload_n 2, 1) := by decide +kernel
theorem dX6_canSit_47 : decode cX6_canSit 47 = .ok (.iload_n 3, 1) := by decide +kernel
theorem dX6_canSit_48 : decode cX6_canSit 48 = .ok (.iload 5, 2) := by decide +kernel
theorem dX6_canSit_50 : decode cX6_canSit 50 = .ok (.invokestatic 84, 3) := by decide +kernel
theorem dX6_canSit_53 : decode cX6_canSit 53 = .ok (.ifCond .eq 24, 3) := by decide +kernel
theorem dX6_canSit_56 : decode cX6_canSit 56 = .ok (.aload_n 2, 1) := by decide +kernel
theorem dX6_canSit_57 : decode cX6_canSit 57 = .ok (.iload_n 3, 1) := by decide +kernel
theorem dX6_canSit_58 : decode cX6_canSit 58 = .ok (.iload 5, 2) := by decide +kernel
theorem dX6_canSit_60 : decode cX6_canSit 60 = .ok (.iastore, 1) := by decide +kernel
theorem dX6_canSit_61 : decode cX6_canSit 61 = .ok (.aload_n 0, 1) := by decide +kernel
theorem dX6_canSit_62 : decode cX6_canSit 62 = .ok (.aload_n 1, 1) := by decide +kernel
theorem dX6_canSit_63 : decode cX6_canSit 63 = .ok (.aload_n 2, 1) := by decide +kernel
theorem dX6_canSit_64 : decode cX6_canSit 64 = .ok (.iload_n 3, 1) := by decide +kernel
theorem dX6_canSit_65 : decode cX6_canSit 65 = .ok (.iconst 1, 1) := by decide +kernel
theorem dX6_canSit_66 : decode cX6_canSit 66 = .ok (.iadd, 1) := by decide +kernel
theorem dX6_canSit_67 : decode cX6_canSit 67 = .ok (.iload 4, 2) := by decide +kernel
theorem dX6_canSit_69 : decode cX6_canSit 69 = .ok (.invokestatic 92, 3) := by decide +kernel
theorem dX6_canSit_72 : decode cX6_canSit 72 = .ok (.ifCond .eq 5, 3) := by decide +kernel
theorem dX6_canSit_75 : decode cX6_canSit 75 = .ok (.iconst 1, 1) := by decide +kernel
theorem dX6_canSit_76 : decode cX6_canSit 76 = .ok (.ireturn, 1) := by decide +kernel
theorem dX6_canSit_77 : decode cX6_canSit 77 = .ok (.iinc 5 1, 3) := by decide +kernel
theorem dX6_canSit_80 : decode cX6_canSit 80 = .ok (.goto (-55), 3) := by decide +kernel
theorem dX6_canSit_83 : decode cX6_canSit 83 = .ok (.aload_n 2, 1) := by decide +kernel
theorem dX6_canSit_84 : decode cX6_canSit 84 = .ok (.iload_n 3, 1) := by decide +kernel
theorem dX6_canSit_85 : decode cX6_canSit 85 = .ok (.bipush 6, 2) := by decide +kernel
theorem dX6_canSit_87 : decode cX6_canSit 87 = .ok (.iastore, 1) := by decide +kernel
theorem dX6_canSit_88 : decode cX6_canSit 88 = .ok (.aload_n 1, 1) := by decide +kernel
theorem dX6_canSit_89 : decode cX6_canSit 89 = .ok (.iload_n 3, 1) := by decide +kernel
theorem dX6_canSit_90 : decode cX6_canSit 90 = .ok (.iaload, 1) := by decide +kernel
theorem dX6_canSit_91 : decode cX6_canSit 91 = .ok (.ifCond .ne 15, 3) := by decide +kernel
theorem dX6_canSit_94 : decode cX6_canSit 94 = .ok (.aload_n 0, 1) := by decide +kernel
theorem dX6_canSit_95 : decode cX6_canSit 95 = .ok (.aload_n 1, 1) := by decide +kernel
theorem dX6_canSit_96 : decode cX6_canSit 96 = .ok (.aload_n 2, 1) := by decide +kernel
theorem dX6_canSit_97 : decode cX6_canSit 97 = .ok (.iload_n 3, 1) := by decide +kernel
theorem dX6_canSit_98 : decode cX6_canSit 98 = .ok (.iconst 1, 1) := by decide +kernel
theorem dX6_canSit_99 : decode cX6_canSit 99 = .ok (.iadd, 1) := by decide +kernel
theorem dX6_canSit_100 : decode cX6_canSit 100 = .ok (.iload 4, 2) := by decide +kernel
theorem dX6_canSit_102 : decode cX6_canSit 102 = .ok (.invokestatic 92, 3) := by decide +kernel
theorem dX6_canSit_105 : decode cX6_canSit 105 = .ok (.ireturn, 1) := by decide +kernel
theorem dX6_canSit_106 : decode cX6_canSit 106 = .ok (.iload 4, 2) := by decide +kernel
theorem dX6_canSit_108 : decode cX6_canSit 108 = .ok (.ifCond .le 23, 3) := by decide +kernel
theorem dX6_canSit_111 : decode cX6_canSit 111 = .ok (.aload_n 0, 1) := by decide +kernel
theorem dX6_canSit_112 : decode cX6_canSit 112 = .ok (.aload_n 1, 1) := by decide +kernel
theorem dX6_canSit_113 : decode cX6_canSit 113 = .ok (.aload_n 2, 1) := by decide +kernel
theorem dX6_canSit_114 : decode cX6_canSit 114 = .ok (.iload_n 3, 1) := by decide +kernel
theorem dX6_canSit_115 : decode cX6_canSit 115 = .ok (.iconst 1, 1) := by decide +kernel
theorem dX6_canSit_116 : decode cX6_canSit 116 = .ok (.iadd, 1) := by decide +kernel
theorem dX6_canSit_117 : decode cX6_canSit 117 = .ok (.iload 4, 2) := by decide +kernel
theorem dX6_canSit_119 : decode cX6_canSit 119 = .ok (.iconst 1, 1) := by decide +kernel
theorem dX6_canSit_120 : decode cX6_canSit 120 = .ok (.isub, 1) := by decide +kernel
theorem dX6_canSit_121 : decode cX6_canSit 121 = .ok (.invokestatic 92, 3) := by decide +kernel
theorem dX6_canSit_124 : decode cX6_canSit 124 = .ok (.ifCond .eq 7, 3) := by decide +kernel
theorem dX6_canSit_127 : decode cX6_canSit 127 = .ok (.iconst 1, 1) := by decide +kernel
theorem dX6_canSit_128 : decode cX6_canSit 128 = .ok (.goto 4, 3) := by decide +kernel
theorem dX6_canSit_131 : decode cX6_canSit 131 = .ok (.iconst 0, 1) := by decide +kernel
theorem dX6_canSit_132 : decode cX6_canSit 132 = .ok (.ireturn, 1) := by decide +kernel
theorem dX7_init_0 : decode cX7_init 0 = .ok (.aload_n 0, 1) := by decide +kernel
theorem dX7_init_1 : decode cX7_init 1 = .ok (.invokespecial 3, 3) := by decide +kernel
theorem dX7_init_4 : decode cX7_init 4 = .ok (.aload_n 0, 1) := by decide +kernel
theorem dX7_init_5 : decode cX7_init 5 = .ok (.iconst 0, 1) := by decide +kernel
theorem dX7_init_6 : decode cX7_init 6 = .ok (.putfield 9, 3) := by decide +kernel
theorem dX7_init_9 : decode cX7_init 9 = .ok (.aload_n 0, 1) := by decide +kernel
theorem dX7_init_10 : decode cX7_init 10 = .ok (.iconst 0, 1) := by decide +kernel
theorem dX7_init_11 : decode cX7_init 11 = .ok (.putfield 15, 3) := by decide +kernel
theorem dX7_init_14 : decode cX7_init 14 = .ok (.aload_n 0, 1) := by decide +kernel
theorem dX7_init_15 : decode cX7_init 15 = .ok (.sipush 186, 3) := by decide +kernel
theorem dX7_init_18 : decode cX7_init 18 = .ok (.newarray .int, 2) := by decide +kernel
theorem dX7_init_20 : decode cX7_init 20 = .ok (.putfield 18, 3) := by decide +kernel
theorem dX7_init_23 : decode cX7_init 23 = .ok (.return_, 1) := by decide +kernel
theorem dX7_find_0 : decode cX7_find 0 = .ok (.aload_n 0, 1) := by decide +kernel
theorem dX7_find_1 : decode cX7_find 1 = .ok (.iconst 0, 1) := by decide +kernel
theorem dX7_find_2 : decode cX7_find 2 = .ok (.putfield 9, 3) := by decide +kernel
theorem dX7_find_5 : decode cX7_find 5 = .ok (.aload_n 1, 1) := by decide +kernel
theorem dX7_find_6 : decode cX7_find 6 = .ok (.ifnull 7, 3) := by decide +kernel
theorem dX7_find_9 : decode cX7_find 9 = .ok (.aload_n 2, 1) := by decide +kernel
theorem dX7_find_10 : decode cX7_find 10 = .ok (.ifnonnull 5, 3) := by decide +kernel
theorem dX7_find_13 : decode cX7_find 13 = .ok (.iconst 0, 1) := by decide +kernel
theorem dX7_find_14 : decode cX7_find 14 = .ok (.ireturn, 1) := by decide +kernel
theorem dX7_find_15 : decode cX7_find 15 = .ok (.aload_n 0, 1) := by decide +kernel
theorem dX7_find_16 : decode cX7_find 16 = .ok (.aload_n 1, 1) := by decide +kernel
theorem dX7_find_17 : decode cX7_find 17 = .ok (.getfield 22, 3) := by decide +kernel
theorem dX7_find_20 : decode cX7_find 20 = .ok (.putfield 15, 3) := by decide +kernel
theorem dX7_find_23 : decode cX7_find 23 = .ok (.aload_n 2, 1) := by decide +kernel
theorem dX7_find_24 : decode cX7_find 24 = .ok (.aload_n 1, 1) := by decide +kernel
theorem dX7_find_25 : decode cX7_find 25 = .ok (.invokevirtual 25, 3) := by decide +kernel
theorem dX7_find_28 : decode cX7_find 28 = .ok (.ifCond .ne 5, 3) := by decide +kernel
theorem dX7_find_31 : decode cX7_find 31 = .ok (.iconst 1, 1) := by decide +kernel
theorem dX7_find_32 : decode cX7_find 32 = .ok (.ireturn, 1) := by decide +kernel
theorem dX7_find_33 : decode cX7_find 33 = .ok (.iconst 0, 1) := by decide +kernel
theorem dX7_find_34 : decode cX7_find 34 = .ok (.istore_n 3, 1) := by decide +kernel
theorem dX7_find_35 : decode cX7_find 35 = .ok (.iload_n 3, 1) := by decide +kernel
theorem dX7_find_36 : decode cX7_find 36 = .ok (.aload_n 1, 1) := by decide +kernel
theorem dX7_find_37 : decode cX7_find 37 = .ok (.getfield 22, 3) := by decide +kernel
theorem dX7_find_40 : decode cX7_find 40 = .ok (.if_icmp .ge 71, 3) := by decide +kernel
theorem dX7_find_43 : decode cX7_find 43 = .ok (.iconst 1, 1) := by decide +kernel
theorem dX7_find_44 : decode cX7_find 44 = .ok (.istore 4, 2) := by decide +kernel
theorem dX7_find_46 : decode cX7_find 46 = .ok (.iload 4, 2) := by decide +kernel
theorem dX7_find_48 : decode cX7_find 48 = .ok (.iconst 1, 1) := by decide +kernel
theorem dX7_find_49 : decode cX7_find 49 = .ok (.aload_n 1, 1) := by decide +kernel
theorem dX7_find_50 : decode cX7_find 50 = .ok (.getfield 22, 3) := by decide +kernel
theorem dX7_find_53 : decode cX7_find 53 = .ok (.ishl, 1) := by decide +kernel
theorem dX7_find_54 : decode cX7_find 54 = .ok (.if_icmp .ge 51, 3) := by decide +kernel
theorem dX7_find_57 : decode cX7_find 57 = .ok (.iload 4, 2) := by decide +kernel
theorem dX7_find_59 : decode cX7_find 59 = .ok (.iload_n 3, 1) := by decide +kernel
theorem dX7_find_60 : decode cX7_find 60 = .ok (.ishr, 1) := by decide +kernel
theorem dX7_find_61 : decode cX7_find 61 = .ok (.iconst 1, 1) := by decide +kernel
theorem dX7_find_62 : decode cX7_find 62 = .ok (.iand, 1) := by decide +kernel
theorem dX7_find_63 : decode cX7_find 63 = .ok (.ifCond .ne 36, 3) := by decide +kernel
theorem dX7_find_66 : decode cX7_find 66 = .ok (.aload_n 2, 1) := by decide +kernel
theorem dX7_find_67 : decode cX7_find 67 = .ok (.iload 4, 2) := by decide +kernel
theorem dX7_find_69 : decode cX7_find 69 = .ok (.iconst 1, 1) := by decide +kernel
theorem dX7_find_70 : decode cX7_find 70 = .ok (.iload_n 3, 1) := by decide +kernel
theorem dX7_find_71 : decode cX7_find 71 = .ok (.ishl, 1) := by decide +kernel
theorem dX7_find_72 : decode cX7_find 72 = .ok (.ior, 1) := by decide +kernel
theorem dX7_find_73 : decode cX7_find 73 = .ok (.invokevirtual 31, 3) := by decide +kernel
theorem dX7_find_76 : decode cX7_find 76 = .ok (.ifCond .eq 23, 3) := by decide +kernel
theorem dX7_find_79 : decode cX7_find 79 = .ok (.aload_n 1, 1) := by decide +kernel
theorem dX7_find_80 : decode cX7_find 80 = .ok (.iload 4, 2) := by decide +kernel
theorem dX7_find_82 : decode cX7_find 82 = .ok (.invokevirtual 35, 3) := by decide +kernel
theorem dX7_find_85 : decode cX7_find 85 = .ok (.ifCond .eq 14, 3) := by decide +kernel
theorem dX7_find_88 : decode cX7_find 88 = .ok (.aload_n 0, 1) := by decide +kernel
theorem dX7_find_89 : decode cX7_find 89 = .ok (.bipush 100, 2) := by decide +kernel
theorem dX7_find_91 : decode cX7_find 91 = .ok (.iload_n 3, 1) := by decide +kernel
theorem dX7_find_92 : decode cX7_find 92 = .ok (.imul, 1) := by decide +kernel
theorem dX7_find_93 : decode cX7_find 93 = .ok (.iload 4, 2) := by decide +kernel
theorem dX7_find_95 : decode cX7_find 95 = .ok (.iadd, 1) := by decide +kernel
theorem dX7_find_96 : decode cX7_find 96 = .ok (.invokevirtual 38, 3) := by decide +kernel
theorem dX7_find_99 : decode cX7_find 99 = .ok (.iinc 4 1, 3) := by decide +kernel
theorem dX7_find_102 : decode cX7_find 102 = .ok (.goto (-56), 3) := by decide +kernel
theorem dX7_find_105 : decode cX7_find 105 = .ok (.iinc 3 1, 3) := by decide +kernel
theorem dX7_find_108 : decode cX7_find 108 = .ok (.goto (-73), 3) := by decide +kernel
theorem dX7_find_111 : decode cX7_find 111 = .ok (.iconst 1, 1) := by decide +kernel
theorem dX7_find_112 : decode cX7_find 112 = .ok (.ireturn, 1) := by decide +kernel
theorem dX7_add_0 : decode cX7_add 0 = .ok (.aload_n 0, 1) := by decide +kernel
theorem dX7_add_1 : decode cX7_add 1 = .ok (.getfield 9, 3) := by decide +kernel
theorem dX7_add_4 : decode cX7_add 4 = .ok (.aload_n 0, 1) := by decide +kernel
theorem dX7_add_5 : decode cX7_add 5 = .ok (.getfield 18, 3) := by decide +kernel
theorem dX7_add_8 : decode cX7_add 8 = .ok (.arraylength, 1) := by decide +kernel
theorem dX7_add_9 : decode cX7_add 9 = .ok (.if_icmp .ge 23, 3) := by decide +kernel
theorem dX7_add_12 : decode cX7_add 12 = .ok (.aload_n 0, 1) := by decide +kernel
theorem dX7_add_13 : decode cX7_add 13 = .ok (.getfield 18, 3) := by decide +kernel
theorem dX7_add_16 : decode cX7_add 16 = .ok (.aload_n 0, 1) := by decide +kernel
theorem dX7_add_17 : decode cX7_add 17 = .ok (.getfield 9, 3) := by decide +kernel
theorem dX7_add_20 : decode cX7_add 20 = .ok (.iload_n 1, 1) := by decide +kernel
theorem dX7_add_21 : decode cX7_add 21 = .ok (.iastore, 1) := by decide +kernel
theorem dX7_add_22 : decode cX7_add 22 = .ok (.aload_n 0, 1) := by decide +kernel
theorem dX7_add_23 : decode cX7_add 23 = .ok (.dup, 1) := by decide +kernel
theorem dX7_add_24 : decode cX7_add 24 = .ok (.getfield 9, 3) := by decide +kernel
theorem dX7_add_27 : decode cX7_add 27 = .ok (.iconst 1, 1) := by decide +kernel
theorem dX7_add_28 : decode cX7_add 28 = .ok (.iadd, 1) := by decide +kernel
theorem dX7_add_29 : decode cX7_add 29 = .ok (.putfield 9, 3) := by decide +kernel
theorem dX7_add_32 : decode cX7_add 32 = .ok (.return_, 1) := by decide +kernel
theorem dX7_together_0 : decode cX7_together 0 = .ok (.iconst 0, 1) := by decide +kernel
theorem dX7_together_1 : decode cX7_together 1 = .ok (.istore_n 3, 1) := by decide +kernel
theorem dX7_together_2 : decode cX7_together 2 = .ok (.iconst 0, 1) := by decide +kernel
theorem dX7_together_3 : decode cX7_together 3 = .ok (.istore 4, 2) := by decide +kernel
theorem dX7_together_5 : decode cX7_together 5 = .ok (.iload 4, 2) := by decide +kernel
theorem dX7_together_7 : decode cX7_together 7 = .ok (.aload_n 0, 1) := by decide +kernel
theorem dX7_together_8 : decode cX7_together 8 = .ok (.getfield 9, 3) := by decide +kernel
theorem dX7_together_11 : decode cX7_together 11 = .ok (.if_icmp .ge 48, 3) := by decide +kernel
theorem dX7_together_14 : decode cX7_together 14 = .ok (.aload_n 0, 1) := by decide +kernel
theorem dX7_together_15 : decode cX7_together 15 = .ok (.getfield 18, 3) := by decide +kernel
theorem dX7_together_18 : decode cX7_together 18 = .ok (.iload 4, 2) := by decide +kernel
theorem dX7_together_20 : decode cX7_together 20 = .ok (.iaload, 1) := by decide +kernel
theorem dX7_together_21 : decode cX7_together 21 = .ok (.bipush 100, 2) := by decide +kernel
theorem dX7_together_23 : decode cX7_together 23 = .ok (.irem, 1) := by decide +kernel
theorem dX7_together_24 : decode cX7_together 24 = .ok (.iconst 1, 1) := by decide +kernel
theorem dX7_together_25 : decode cX7_together 25 = .ok (.aload_n 0, 1) := by decide +kernel
theorem dX7_together_26 : decode cX7_together 26 = .ok (.getfield 18, 3) := by decide +kernel
theorem dX7_together_29 : decode cX7_together 29 = .ok (.iload 4, 2) := by decide +kernel
theorem dX7_together_31 : decode cX7_together 31 = .ok (.iaload, 1) := by decide +kernel
theorem dX7_together_32 : decode cX7_together 32 = .ok (.bipush 100, 2) := by decide +kernel
theorem dX7_together_34 : decode cX7_together 34 = .ok (.idiv, 1) := by decide +kernel
theorem dX7_together_35 : decode cX7_together 35 = .ok (.ishl, 1) := by decide +kernel
theorem dX7_together_36 : decode cX7_together 36 = .ok (.ior, 1) := by decide +kernel
theorem dX7_together_37 : decode cX7_together 37 = .ok (.istore 5, 2) := by decide +kernel
theorem dX7_together_39 : decode cX7_together 39 = .ok (.iload_n 3, 1) := by decide +kernel
theorem dX7_together_40 : decode cX7_together 40 = .ok (.iload 5, 2) := by decide +kernel
theorem dX7_together_42 : decode cX7_together 42 = .ok (.iload_n 1, 1) := by decide +kernel
theorem dX7_together_43 : decode cX7_together 43 = .ok (.ishr, 1) := by decide +kernel
theorem dX7_together_44 : decode cX7_together 44 = .ok (.iload 5, 2) := by decide +kernel
theorem dX7_together_46 : decode cX7_together 46 = .ok (.iload_n 2, 1) := by decide +kernel
theorem dX7_together_47 : decode cX7_together 47 = .ok (.ishr, 1) := by decide +kernel
theorem dX7_together_48 : decode cX7_together 48 = .ok (.iand, 1) := by decide +kernel
theorem dX7_together_49 : decode cX7_together 49 = .ok (.iconst 1, 1) := by decide +kernel
theorem dX7_together_50 : decode cX7_together 50 = .ok (.iand, 1) := by decide +kernel
theorem dX7_together_51 : decode cX7_together 51 = .ok (.iadd, 1) := by decide +kernel
theorem dX7_together_52 : decode cX7_together 52 = .ok (.istore_n 3, 1) := by decide +kernel
theorem dX7_together_53 : decode cX7_together 53 = .ok (.iinc 4 1, 3) := by decide +kernel
theorem dX7_together_56 : decode cX7_together 56 = .ok (.goto (-51), 3) := by decide +kernel
theorem dX7_together_59 : decode cX7_together 59 = .ok (.iload_n 3, 1) := by decide +kernel
theorem dX7_together_60 : decode cX7_together 60 = .ok (.ireturn, 1) := by decide +kernel
theorem dX7_tell_0 : decode cX7_tell 0 = .ok (.iload_n 1, 1) := by decide +kernel
theorem dX7_tell_1 : decode cX7_tell 1 = .ok (.ifCond .ne 8, 3) := by decide +kernel
theorem dX7_tell_4 : decode cX7_tell 4 = .ok (.aload_n 0, 1) := by decide +kernel
theorem dX7_tell_5 : decode cX7_tell 5 = .ok (.getfield 9, 3) := by decide +kernel
theorem dX7_tell_8 : decode cX7_tell 8 = .ok (.ireturn, 1) := by decide +kernel
theorem dX7_tell_9 : decode cX7_tell 9 = .ok (.iload_n 1, 1) := by decide +kernel
theorem dX7_tell_10 : decode cX7_tell 10 = .ok (.iconst 1, 1) := by decide +kernel
theorem dX7_tell_11 : decode cX7_tell 11 = .ok (.if_icmp .ne 8, 3) := by decide +kernel
theorem dX7_tell_14 : decode cX7_tell 14 = .ok (.aload_n 0, 1) := by decide +kernel
theorem dX7_tell_15 : decode cX7_tell 15 = .ok (.invokevirtual 42, 3) := by decide +kernel
theorem dX7_tell_18 : decode cX7_tell 18 = .ok (.ireturn, 1) := by decide +kernel
theorem dX7_tell_19 : decode cX7_tell 19 = .ok (.iload_n 1, 1) := by decide +kernel
theorem dX7_tell_20 : decode cX7_tell 20 = .ok (.iconst 2, 1) := by decide +kernel
theorem dX7_tell_21 : decode cX7_tell 21 = .ok (.if_icmp .ne 8, 3) := by decide +kernel
theorem dX7_tell_24 : decode cX7_tell 24 = .ok (.aload_n 0, 1) := by decide +kernel
theorem dX7_tell_25 : decode cX7_tell 25 = .ok (.invokevirtual 46, 3) := by decide +kernel
theorem dX7_tell_28 : decode cX7_tell 28 = .ok (.ireturn, 1) := by decide +kernel
theorem dX7_tell_29 : decode cX7_tell 29 = .ok (.iload_n 1, 1) := by decide +kernel
theorem dX7_tell_30 : decode cX7_tell 30 = .ok (.bipush 10, 2) := by decide +kernel
theorem dX7_tell_32 : decode cX7_tell 32 = .ok (.if_icmp .lt 26, 3) := by decide +kernel
theorem dX7_tell_35 : decode cX7_tell 35 = .ok (.iload_n 1, 1) := by decide +kernel
theorem dX7_tell_36 : decode cX7_tell 36 = .ok (.bipush 10, 2) := by decide +kernel
theorem dX7_tell_38 : decode cX7_tell 38 = .ok (.isub, 1) := by decide +kernel
theorem dX7_tell_39 : decode cX7_tell 39 = .ok (.aload_n 0, 1) := by decide +kernel
theorem dX7_tell_40 : decode cX7_tell 40 = .ok (.getfield 9, 3) := by decide +kernel
theorem dX7_tell_43 : decode cX7_tell 43 = .ok (.if_icmp .ge 15, 3) := by decide +kernel
theorem dX7_tell_46 : decode cX7_tell 46 = .ok (.aload_n 0, 1) := by decide +kernel
theorem dX7_tell_47 : decode cX7_tell 47 = .ok (.getfield 18, 3) := by decide +kernel
theorem dX7_tell_50 : decode cX7_tell 50 = .ok (.iload_n 1, 1) := by decide +kernel
theorem dX7_tell_51 : decode cX7_tell 51 = .ok (.bipush 10, 2) := by decide +kernel
theorem dX7_tell_53 : decode cX7_tell 53 = .ok (.isub, 1) := by decide +kernel
theorem dX7_tell_54 : decode cX7_tell 54 = .ok (.iaload, 1) := by decide +kernel
theorem dX7_tell_55 : decode cX7_tell 55 = .ok (.goto 5, 3) := by decide +kernel
theorem dX7_tell_58 : decode cX7_tell 58 = .ok (.bipush (-2), 2) := by decide +kernel
theorem dX7_tell_60 : decode cX7_tell 60 = .ok (.ireturn, 1) := by decide +kernel
theorem dX7_sure_0 : decode cX7_sure 0 = .ok (.aload_n 0, 1) := by decide +kernel
theorem dX7_sure_1 : decode cX7_sure 1 = .ok (.getfield 9, 3) := by decide +kernel
theorem dX7_sure_4 : decode cX7_sure 4 = .ok (.ifCond .le 41, 3) := by decide +kernel
theorem dX7_sure_7 : decode cX7_sure 7 = .ok (.aload_n 0, 1) := by decide +kernel
theorem dX7_sure_8 : decode cX7_sure 8 = .ok (.getfield 18, 3) := by decide +kernel
theorem dX7_sure_11 : decode cX7_sure 11 = .ok (.iconst 0, 1) := by decide +kernel
theorem dX7_sure_12 : decode cX7_sure 12 = .ok (.iaload, 1) := by decide +kernel
theorem dX7_sure_13 : decode cX7_sure 13 = .ok (.bipush 100, 2) := by decide +kernel
theorem dX7_sure_15 : decode cX7_sure 15 = .ok (.idiv, 1) := by decide +kernel
theorem dX7_sure_16 : decode cX7_sure 16 = .ok (.aload_n 0, 1) := by decide +kernel
theorem dX7_sure_17 : decode cX7_sure 17 = .ok (.getfield 18, 3) := by decide +kernel
theorem dX7_sure_20 : decode cX7_sure 20 = .ok (.aload_n 0, 1) := by decide +kernel
theorem dX7_sure_21 : decode cX7_sure 21 = .ok (.getfield 9, 3) := by decide +kernel
theorem dX7_sure_24 : decode cX7_sure 24 = .ok (.iconst 1, 1) := by decide +kernel
theorem dX7_sure_25 : decode cX7_sure 25 = .ok (.isub, 1) := by decide +kernel
theorem dX7_sure_26 : decode cX7_sure 26 = .ok (.iaload, 1) := by decide +kernel
theorem dX7_sure_27 : decode cX7_sure 27 = .ok (.bipush 100, 2) := by decide +kernel
theorem dX7_sure_29 : decode cX7_sure 29 = .ok (.idiv, 1) := by decide +kernel
theorem dX7_sure_30 : decode cX7_sure 30 = .ok (.if_icmp .ne 15, 3) := by decide +kernel
theorem dX7_sure_33 : decode cX7_sure 33 = .ok (.aload_n 0, 1) := by decide +kernel
theorem dX7_sure_34 : decode cX7_sure 34 = .ok (.getfield 18, 3) := by decide +kernel
theorem dX7_sure_37 : decode cX7_sure 37 = .ok (.iconst 0, 1) := by decide +kernel
theorem dX7_sure_38 : decode cX7_sure 38 = .ok (.iaload, 1) := by decide +kernel
theorem dX7_sure_39 : decode cX7_sure 39 = .ok (.bipush 100, 2) := by decide +kernel
theorem dX7_sure_41 : decode cX7_sure 41 = .ok (.idiv, 1) := by decide +kernel
theorem dX7_sure_42 : decode cX7_sure 42 = .ok (.goto 4, 3) := by decide +kernel
theorem dX7_sure_45 : decode cX7_sure 45 = .ok (.iconst (-1), 1) := by decide +kernel
theorem dX7_sure_46 : decode cX7_sure 46 = .ok (.ireturn, 1) := by decide +kernel
theorem dX7_watch_0 : decode cX7_watch 0 = .ok (.iconst (-1), 1) := by decide +kernel
theorem dX7_watch_1 : decode cX7_watch 1 = .ok (.istore_n 1, 1) := by decide +kernel
theorem dX7_watch_2 : decode cX7_watch 2 = .ok (.aload_n 0, 1) := by decide +kernel
theorem dX7_watch_3 : decode cX7_watch 3 = .ok (.getfield 9, 3) := by decide +kernel
theorem dX7_watch_6 : decode cX7_watch 6 = .ok (.iconst 1, 1) := by decide +kernel
theorem dX7_watch_7 : decode cX7_watch 7 = .ok (.iadd, 1) := by decide +kernel
theorem dX7_watch_8 : decode cX7_watch 8 = .ok (.istore_n 2, 1) := by decide +kernel
theorem dX7_watch_9 : decode cX7_watch 9 = .ok (.iconst 0, 1) := by decide +kernel
theorem dX7_watch_10 : decode cX7_watch 10 = .ok (.istore_n 3, 1) := by decide +kernel
theorem dX7_watch_11 : decode cX7_watch 11 = .ok (.iload_n 3, 1) := by decide +kernel
theorem dX7_watch_12 : decode cX7_watch 12 = .ok (.aload_n 0, 1) := by decide +kernel
theorem dX7_watch_13 : decode cX7_watch 13 = .ok (.getfield 15, 3) := by decide +kernel
theorem dX7_watch_16 : decode cX7_watch 16 = .ok (.if_icmp .ge 76, 3) := by decide +kernel
theorem dX7_watch_19 : decode cX7_watch 19 = .ok (.aload_n 0, 1) := by decide +kernel
theorem dX7_watch_20 : decode cX7_watch 20 = .ok (.getfield 9, 3) := by decide +kernel
theorem dX7_watch_23 : decode cX7_watch 23 = .ok (.ifCond .le 69, 3) := by decide +kernel
theorem dX7_watch_26 : decode cX7_watch 26 = .ok (.iload_n 3, 1) := by decide +kernel
theorem dX7_watch_27 : decode cX7_watch 27 = .ok (.iconst 1, 1) := by decide +kernel
theorem dX7_watch_28 : decode cX7_watch 28 = .ok (.iadd, 1) := by decide +kernel
theorem dX7_watch_29 : decode cX7_watch 29 = .ok (.istore 4, 2) := by decide +kernel
theorem dX7_watch_31 : decode cX7_watch 31 = .ok (.iload 4, 2) := by decide +kernel
theorem dX7_watch_33 : decode cX7_watch 33 = .ok (.aload_n 0, 1) := by decide +kernel
theorem dX7_watch_34 : decode cX7_watch 34 = .ok (.getfield 15, 3) := by decide +kernel
theorem dX7_watch_37 : decode cX7_watch 37 = .ok (.if_icmp .ge 49, 3) := by decide +kernel
theorem dX7_watch_40 : decode cX7_watch 40 = .ok (.aload_n 0, 1) := by decide +kernel
theorem dX7_watch_41 : decode cX7_watch 41 = .ok (.iload_n 3, 1) := by decide +kernel
theorem dX7_watch_42 : decode cX7_watch 42 = .ok (.iload 4, 2) := by decide +kernel
theorem dX7_watch_44 : decode cX7_watch 44 = .ok (.invokevirtual 49, 3) := by decide +kernel
theorem dX7_watch_47 : decode cX7_watch 47 = .ok (.istore 5, 2) := by decide +kernel
theorem dX7_watch_49 : decode cX7_watch 49 = .ok (.iload 5, 2) := by decide +kernel
theorem dX7_watch_51 : decode cX7_watch 51 = .ok (.aload_n 0, 1) := by decide +kernel
theorem dX7_watch_52 : decode cX7_watch 52 = .ok (.getfield 9, 3) := by decide +kernel
theorem dX7_watch_55 : decode cX7_watch 55 = .ok (.iload 5, 2) := by decide +kernel
theorem dX7_watch_57 : decode cX7_watch 57 = .ok (.isub, 1) := by decide +kernel
theorem dX7_watch_58 : decode cX7_watch 58 = .ok (.invokestatic 53, 3) := by decide +kernel
theorem dX7_watch_61 : decode cX7_watch 61 = .ok (.istore 6, 2) := by decide +kernel
theorem dX7_watch_63 : decode cX7_watch 63 = .ok (.iload 6, 2) := by decide +kernel
theorem dX7_watch_65 : decode cX7_watch 65 = .ok (.iload_n 2, 1) := by decide +kernel
theorem dX7_watch_66 : decode cX7_watch 66 = .ok (.if_icmp .ge 14, 3) := by decide +kernel
theorem dX7_watch_69 : decode cX7_watch 69 = .ok (.iload 6, 2) := by decide +kernel
theorem dX7_watch_71 : decode cX7_watch 71 = .ok (.istore_n 2, 1) := by decide +kernel
theorem dX7_watch_72 : decode cX7_watch 72 = .ok (.bipush 10, 2) := by decide +kernel
theorem dX7_watch_74 : decode cX7_watch 74 = .ok (.iload_n 3, 1) := by decide +kernel
theorem dX7_watch_75 : decode cX7_watch 75 = .ok (.imul, 1) := by decide +kernel
theorem dX7_watch_76 : decode cX7_watch 76 = .ok (.iload 4, 2) := by decide +kernel
theorem dX7_watch_78 : decode cX7_watch 78 = .ok (.iadd, 1) := by decide +kernel
theorem dX7_watch_79 : decode cX7_watch 79 = .ok (.istore_n 1, 1) := by decide +kernel
theorem dX7_watch_80 : decode cX7_watch 80 = .ok (.iinc 4 1, 3) := by decide +kernel
theorem dX7_watch_83 : decode cX7_watch 83 = .ok (.goto (-52), 3) := by decide +kernel
theorem dX7_watch_86 : decode cX7_watch 86 = .ok (.iinc 3 1, 3) := by decide +kernel
theorem dX7_watch_89 : decode cX7_watch 89 = .ok (.goto (-78), 3) := by decide +kernel
theorem dX7_watch_92 : decode cX7_watch 92 = .ok (.iload_n 1, 1) := by decide +kernel
theorem dX7_watch_93 : decode cX7_watch 93 = .ok (.ireturn, 1) := by decide +kernel
theorem dX7_company_0 : decode cX7_company 0 = .ok (.iconst (-1), 1) := by decide +kernel
theorem dX7_company_1 : decode cX7_company 1 = .ok (.istore_n 2, 1) := by decide +kernel
theorem dX7_company_2 : decode cX7_company 2 = .ok (.iconst 0, 1) := by decide +kernel
theorem dX7_company_3 : decode cX7_company 3 = .ok (.istore_n 3, 1) := by decide +kernel
theorem dX7_company_4 : decode cX7_company 4 = .ok (.iload_n 3, 1) := by decide +kernel
theorem dX7_company_5 : decode cX7_company 5 = .ok (.aload_n 0, 1) := by decide +kernel
theorem dX7_company_6 : decode cX7_company 6 = .ok (.getfield 9, 3) := by decide +kernel
theorem dX7_company_9 : decode cX7_company 9 = .ok (.if_icmp .ge 50, 3) := by decide +kernel
theorem dX7_company_12 : decode cX7_company 12 = .ok (.aload_n 0, 1) := by decide +kernel
theorem dX7_company_13 : decode cX7_company 13 = .ok (.getfield 18, 3) := by decide +kernel
theorem dX7_company_16 : decode cX7_company 16 = .ok (.iload_n 3, 1) := by decide +kernel
theorem dX7_company_17 : decode cX7_company 17 = .ok (.iaload, 1) := by decide +kernel
theorem dX7_company_18 : decode cX7_company 18 = .ok (.bipush 100, 2) := by decide +kernel
theorem dX7_company_20 : decode cX7_company 20 = .ok (.irem, 1) := by decide +kernel
theorem dX7_company_21 : decode cX7_company 21 = .ok (.invokestatic 58, 3) := by decide +kernel
theorem dX7_company_24 : decode cX7_company 24 = .ok (.istore 4, 2) := by decide +kernel
theorem dX7_company_26 : decode cX7_company 26 = .ok (.iload_n 2, 1) := by decide +kernel
theorem dX7_company_27 : decode cX7_company 27 = .ok (.iconst (-1), 1) := by decide +kernel
theorem dX7_company_28 : decode cX7_company 28 = .ok (.if_icmp .eq 22, 3) := by decide +kernel
theorem dX7_company_31 : decode cX7_company 31 = .ok (.iload_n 1, 1) := by decide +kernel
theorem dX7_company_32 : decode cX7_company 32 = .ok (.ifCond .eq 12, 3) := by decide +kernel
theorem dX7_company_35 : decode cX7_company 35 = .ok (.iload 4, 2) := by decide +kernel
theorem dX7_company_37 : decode cX7_company 37 = .ok (.iload_n 2, 1) := by decide +kernel
theorem dX7_company_38 : decode cX7_company 38 = .ok (.if_icmp .le 15, 3) := by decide +kernel
theorem dX7_company_41 : decode cX7_company 41 = .ok (.goto 9, 3) := by decide +kernel
theorem dX7_company_44 : decode cX7_company 44 = .ok (.iload 4, 2) := by decide +kernel
theorem dX7_company_46 : decode cX7_company 46 = .ok (.iload_n 2, 1) := by decide +kernel
theorem dX7_company_47 : decode cX7_company 47 = .ok (.if_icmp .ge 6, 3) := by decide +kernel
theorem dX7_company_50 : decode cX7_company 50 = .ok (.iload 4, 2) := by decide +kernel
theorem dX7_company_52 : decode cX7_company 52 = .ok (.istore_n 2, 1) := by decide +kernel
theorem dX7_company_53 : decode cX7_company 53 = .ok (.iinc 3 1, 3) := by decide +kernel
theorem dX7_company_56 : decode cX7_company 56 = .ok (.goto (-52), 3) := by decide +kernel
theorem dX7_company_59 : decode cX7_company 59 = .ok (.iload_n 2, 1) := by decide +kernel
theorem dX7_company_60 : decode cX7_company 60 = .ok (.ireturn, 1) := by decide +kernel
theorem dX8_init_0 : decode cX8_init 0 = .ok (.aload_n 0, 1) := by decide +kernel
theorem dX8_init_1 : decode cX8_init 1 = .ok (.invokespecial 3, 3) := by decide +kernel
theorem dX8_init_4 : decode cX8_init 4 = .ok (.aload_n 0, 1) := by decide +kernel
theorem dX8_init_5 : decode cX8_init 5 = .ok (.sipush 600, 3) := by decide +kernel
theorem dX8_init_8 : decode cX8_init 8 = .ok (.newarray .byte, 2) := by decide +kernel
theorem dX8_init_10 : decode cX8_init 10 = .ok (.putfield 9, 3) := by decide +kernel
theorem dX8_init_13 : decode cX8_init 13 = .ok (.aload_n 0, 1) := by decide +kernel
theorem dX8_init_14 : decode cX8_init 14 = .ok (.iconst 0, 1) := by decide +kernel
theorem dX8_init_15 : decode cX8_init 15 = .ok (.putfield 15, 3) := by decide +kernel
theorem dX8_init_18 : decode cX8_init 18 = .ok (.aload_n 0, 1) := by decide +kernel
theorem dX8_init_19 : decode cX8_init 19 = .ok (.iconst 0, 1) := by decide +kernel
theorem dX8_init_20 : decode cX8_init 20 = .ok (.putfield 19, 3) := by decide +kernel
theorem dX8_init_23 : decode cX8_init 23 = .ok (.aload_n 0, 1) := by decide +kernel
theorem dX8_init_24 : decode cX8_init 24 = .ok (.iconst (-1), 1) := by decide +kernel
theorem dX8_init_25 : decode cX8_init 25 = .ok (.putfield 22, 3) := by decide +kernel
theorem dX8_init_28 : decode cX8_init 28 = .ok (.aload_n 0, 1) := by decide +kernel
theorem dX8_init_29 : decode cX8_init 29 = .ok (.iconst 3, 1) := by decide +kernel
theorem dX8_init_30 : decode cX8_init 30 = .ok (.newarray .int, 2) := by decide +kernel
theorem dX8_init_32 : decode cX8_init 32 = .ok (.putfield 25, 3) := by decide +kernel
theorem dX8_init_35 : decode cX8_init 35 = .ok (.aload_n 0, 1) := by decide +kernel
theorem dX8_init_36 : decode cX8_init 36 = .ok (.iconst 2, 1) := by decide +kernel
theorem dX8_init_37 : decode cX8_init 37 = .ok (.anewarray 29, 3) := by decide +kernel
theorem dX8_init_40 : decode cX8_init 40 = .ok (.putfield 31, 3) := by decide +kernel
theorem dX8_init_43 : decode cX8_init 43 = .ok (.aload_n 0, 1) := by decide +kernel
theorem dX8_init_44 : decode cX8_init 44 = .ok (.iconst 2, 1) := by decide +kernel
theorem dX8_init_45 : decode cX8_init 45 = .ok (.anewarray 35, 3) := by decide +kernel
theorem dX8_init_48 : decode cX8_init 48 = .ok (.putfield 37, 3) := by decide +kernel
theorem dX8_init_51 : decode cX8_init 51 = .ok (.aload_n 0, 1) := by decide +kernel
theorem dX8_init_52 : decode cX8_init 52 = .ok (.iconst 2, 1) := by decide +kernel
theorem dX8_init_53 : decode cX8_init 53 = .ok (.anewarray 41, 3) := by decide +kernel
theorem dX8_init_56 : decode cX8_init 56 = .ok (.putfield 43, 3) := by decide +kernel
theorem dX8_init_59 : decode cX8_init 59 = .ok (.iconst 0, 1) := by decide +kernel
theorem dX8_init_60 : decode cX8_init 60 = .ok (.istore_n 1, 1) := by decide +kernel
theorem dX8_init_61 : decode cX8_init 61 = .ok (.iload_n 1, 1) := by decide +kernel
theorem dX8_init_62 : decode cX8_init 62 = .ok (.iconst 2, 1) := by decide +kernel
theorem dX8_init_63 : decode cX8_init 63 = .ok (.if_icmp .ge 48, 3) := by decide +kernel
theorem dX8_init_66 : decode cX8_init 66 = .ok (.aload_n 0, 1) := by decide +kernel
theorem dX8_init_67 : decode cX8_init 67 = .ok (.getfield 31, 3) := by decide +kernel
theorem dX8_init_70 : decode cX8_init 70 = .ok (.iload_n 1, 1) := by decide +kernel
theorem dX8_init_71 : decode cX8_init 71 = .ok (.new 29, 3) := by decide +kernel
theorem dX8_init_74 : decode cX8_init 74 = .ok (.dup, 1) := by decide +kernel
theorem dX8_init_75 : decode cX8_init 75 = .ok (.invokespecial 47, 3) := by decide +kernel
theorem dX8_init_78 : decode cX8_init 78 = .ok (.aastore, 1) := by decide +kernel
theorem dX8_init_79 : decode cX8_init 79 = .ok (.aload_n 0, 1) := by decide +kernel
theorem dX8_init_80 : decode cX8_init 80 = .ok (.getfield 37, 3) := by decide +kernel
theorem dX8_init_83 : decode cX8_init 83 = .ok (.iload_n 1, 1) := by decide +kernel
theorem dX8_init_84 : decode cX8_init 84 = .ok (.new 35, 3) := by decide +kernel
theorem dX8_init_87 : decode cX8_init 87 = .ok (.dup, 1) := by decide +kernel
theorem dX8_init_88 : decode cX8_init 88 = .ok (.invokespecial 48, 3) := by decide +kernel
theorem dX8_init_91 : decode cX8_init 91 = .ok (.aastore, 1) := by decide +kernel
theorem dX8_init_92 : decode cX8_init 92 = .ok (.aload_n 0, 1) := by decide +kernel
theorem dX8_init_93 : decode cX8_init 93 = .ok (.getfield 43, 3) := by decide +kernel
theorem dX8_init_96 : decode cX8_init 96 = .ok (.iload_n 1, 1) := by decide +kernel
theorem dX8_init_97 : decode cX8_init 97 = .ok (.new 41, 3) := by decide +kernel
theorem dX8_init_100 : decode cX8_init 100 = .ok (.dup, 1) := by decide +kernel
theorem dX8_init_101 : decode cX8_init 101 = .ok (.invokespecial 49, 3) := by decide +kernel
theorem dX8_init_104 : decode cX8_init 104 = .ok (.aastore, 1) := by decide +kernel
theorem dX8_init_105 : decode cX8_init 105 = .ok (.iinc 1 1, 3) := by decide +kernel
theorem dX8_init_108 : decode cX8_init 108 = .ok (.goto (-47), 3) := by decide +kernel
theorem dX8_init_111 : decode cX8_init 111 = .ok (.return_, 1) := by decide +kernel
theorem dX8_put_0 : decode cX8_put 0 = .ok (.bipush 24, 2) := by decide +kernel
theorem dX8_put_2 : decode cX8_put 2 = .ok (.istore_n 2, 1) := by decide +kernel
theorem dX8_put_3 : decode cX8_put 3 = .ok (.iload_n 2, 1) := by decide +kernel
theorem dX8_put_4 : decode cX8_put 4 = .ok (.ifCond .lt 42, 3) := by decide +kernel
theorem dX8_put_7 : decode cX8_put 7 = .ok (.aload_n 0, 1) := by decide +kernel
theorem dX8_put_8 : decode cX8_put 8 = .ok (.getfield 15, 3) := by decide +kernel
theorem dX8_put_11 : decode cX8_put 11 = .ok (.sipush 600, 3) := by decide +kernel
theorem dX8_put_14 : decode cX8_put 14 = .ok (.if_icmp .ge 32, 3) := by decide +kernel
theorem dX8_put_17 : decode cX8_put 17 = .ok (.aload_n 0, 1) := by decide +kernel
theorem dX8_put_18 : decode cX8_put 18 = .ok (.getfield 9, 3) := by decide +kernel
theorem dX8_put_21 : decode cX8_put 21 = .ok (.aload_n 0, 1) := by decide +kernel
theorem dX8_put_22 : decode cX8_put 22 = .ok (.getfield 15, 3) := by decide +kernel
theorem dX8_put_25 : decode cX8_put 25 = .ok (.iload_n 1, 1) := by decide +kernel
theorem dX8_put_26 : decode cX8_put 26 = .ok (.iload_n 2, 1) := by decide +kernel
theorem dX8_put_27 : decode cX8_put 27 = .ok (.ishr, 1) := by decide +kernel
theorem dX8_put_28 : decode cX8_put 28 = .ok (.i2b, 1) := by decide +kernel
theorem dX8_put_29 : decode cX8_put 29 = .ok (.bastore, 1) := by decide +kernel
theorem dX8_put_30 : decode cX8_put 30 = .ok (.aload_n 0, 1) := by decide +kernel
theorem dX8_put_31 : decode cX8_put 31 = .ok (.dup, 1) := by decide +kernel
theorem dX8_put_32 : decode cX8_put 32 = .ok (.getfield 15, 3) := by decide +kernel
theorem dX8_put_35 : decode cX8_put 35 = .ok (.iconst 1, 1) := by decide +kernel
theorem dX8_put_36 : decode cX8_put 36 = .ok (.iadd, 1) := by decide +kernel
theorem dX8_put_37 : decode cX8_put 37 = .ok (.putfield 15, 3) := by decide +kernel
theorem dX8_put_40 : decode cX8_put 40 = .ok (.iinc 2 (-8), 3) := by decide +kernel
theorem dX8_put_43 : decode cX8_put 43 = .ok (.goto (-40), 3) := by decide +kernel
theorem dX8_put_46 : decode cX8_put 46 = .ok (.return_, 1) := by decide +kernel
theorem dX8_countOf_0 : decode cX8_countOf 0 = .ok (.iload_n 1, 1) := by decide +kernel
theorem dX8_countOf_1 : decode cX8_countOf 1 = .ok (.ifCond .lt 8, 3) := by decide +kernel
theorem dX8_countOf_4 : decode cX8_countOf 4 = .ok (.iload_n 1, 1) := by decide +kernel
theorem dX8_countOf_5 : decode cX8_countOf 5 = .ok (.iconst 2, 1) := by decide +kernel
theorem dX8_countOf_6 : decode cX8_countOf 6 = .ok (.if_icmp .le 8, 3) := by decide +kernel
theorem dX8_countOf_9 : decode cX8_countOf 9 = .ok (.bipush (-2), 2) := by decide +kernel
theorem dX8_countOf_11 : decode cX8_countOf 11 = .ok (.goto 9, 3) := by decide +kernel
theorem dX8_countOf_14 : decode cX8_countOf 14 = .ok (.aload_n 0, 1) := by decide +kernel
theorem dX8_countOf_15 : decode cX8_countOf 15 = .ok (.getfield 25, 3) := by decide +kernel
theorem dX8_countOf_18 : decode cX8_countOf 18 = .ok (.iload_n 1, 1) := by decide +kernel
theorem dX8_countOf_19 : decode cX8_countOf 19 = .ok (.iaload, 1) := by decide +kernel
theorem dX8_countOf_20 : decode cX8_countOf 20 = .ok (.ireturn, 1) := by decide +kernel
theorem dX8_holds_0 : decode cX8_holds 0 = .ok (.iload_n 2, 1) := by decide +kernel
theorem dX8_holds_1 : decode cX8_holds 1 = .ok (.ifCond .lt 22, 3) := by decide +kernel
theorem dX8_holds_4 : decode cX8_holds 4 = .ok (.iload_n 2, 1) := by decide +kernel
theorem dX8_holds_5 : decode cX8_holds 5 = .ok (.iconst 2, 1) := by decide +kernel
theorem dX8_holds_6 : decode cX8_holds 6 = .ok (.if_icmp .ge 17, 3) := by decide +kernel
theorem dX8_holds_9 : decode cX8_holds 9 = .ok (.iload_n 2, 1) := by decide +kernel
theorem dX8_holds_10 : decode cX8_holds 10 = .ok (.aload_n 0, 1) := by decide +kernel
theorem dX8_holds_11 : decode cX8_holds 11 = .ok (.getfield 25, 3) := by decide +kernel
theorem dX8_holds_14 : decode cX8_holds 14 = .ok (.iload_n 1, 1) := by decide +kernel
theorem dX8_holds_15 : decode cX8_holds 15 = .ok (.iaload, 1) := by decide +kernel
theorem dX8_holds_16 : decode cX8_holds 16 = .ok (.if_icmp .ge 7, 3) := by decide +kernel
theorem dX8_holds_19 : decode cX8_holds 19 = .ok (.iconst 1, 1) := by decide +kernel
theorem dX8_holds_20 : decode cX8_holds 20 = .ok (.goto 4, 3) := by decide +kernel
theorem dX8_holds_23 : decode cX8_holds 23 = .ok (.iconst 0, 1) := by decide +kernel
theorem dX8_holds_24 : decode cX8_holds 24 = .ok (.ireturn, 1) := by decide +kernel
theorem dX8_townAt_0 : decode cX8_townAt 0 = .ok (.aload_n 0, 1) := by decide +kernel
theorem dX8_townAt_1 : decode cX8_townAt 1 = .ok (.iconst 0, 1) := by decide +kernel
theorem dX8_townAt_2 : decode cX8_townAt 2 = .ok (.iload_n 1, 1) := by decide +kernel
theorem dX8_townAt_3 : decode cX8_townAt 3 = .ok (.invokevirtual 50, 3) := by decide +kernel
theorem dX8_townAt_6 : decode cX8_townAt 6 = .ok (.ifCond .eq 12, 3) := by decide +kernel
theorem dX8_townAt_9 : decode cX8_townAt 9 = .ok (.aload_n 0, 1) := by decide +kernel
theorem dX8_townAt_10 : decode cX8_townAt 10 = .ok (.getfield 31, 3) := by decide +kernel
theorem dX8_townAt_13 : decode cX8_townAt 13 = .ok (.iload_n 1, 1) := by decide +kernel
theorem dX8_townAt_14 : decode cX8_townAt 14 = .ok (.aaload, 1) := by decide +kernel
theorem dX8_townAt_15 : decode cX8_townAt 15 = .ok (.goto 4, 3) := by decide +kernel
theorem dX8_townAt_18 : decode cX8_townAt 18 = .ok (.aconst_null, 1) := by decide +kernel
theorem dX8_townAt_19 : decode cX8_townAt 19 = .ok (.areturn, 1) := by decide +kernel
theorem dX8_weekAt_0 : decode cX8_weekAt 0 = .ok (.aload_n 0, 1) := by decide +kernel
theorem dX8_weekAt_1 : decode cX8_weekAt 1 = .ok (.iconst 1, 1) := by decide +kernel
theorem dX8_weekAt_2 : decode cX8_weekAt 2 = .ok (.iload_n 1, 1) := by decide +kernel
theorem dX8_weekAt_3 : decode cX8_weekAt 3 = .ok (.invokevirtual 50, 3) := by decide +kernel
theorem dX8_weekAt_6 : decode cX8_weekAt 6 = .ok (.ifCond .eq 12, 3) := by decide +kernel
theorem dX8_weekAt_9 : decode cX8_weekAt 9 = .ok (.aload_n 0, 1) := by decide +kernel
theorem dX8_weekAt_10 : decode cX8_weekAt 10 = .ok (.getfield 37, 3) := by decide +kernel
theorem dX8_weekAt_13 : decode cX8_weekAt 13 = .ok (.iload_n 1, 1) := by decide +kernel
theorem dX8_weekAt_14 : decode cX8_weekAt 14 = .ok (.aaload, 1) := by decide +kernel
theorem dX8_weekAt_15 : decode cX8_weekAt 15 = .ok (.goto 4, 3) := by decide +kernel
theorem dX8_weekAt_18 : decode cX8_weekAt 18 = .ok (.aconst_null, 1) := by decide +kernel
theorem dX8_weekAt_19 : decode cX8_weekAt 19 = .ok (.areturn, 1) := by decide +kernel
theorem dX8_logAt_0 : decode cX8_logAt 0 = .ok (.aload_n 0, 1) := by decide +kernel
theorem dX8_logAt_1 : decode cX8_logAt 1 = .ok (.iconst 2, 1) := by decide +kernel
theorem dX8_logAt_2 : decode cX8_logAt 2 = .ok (.iload_n 1, 1) := by decide +kernel
theorem dX8_logAt_3 : decode cX8_logAt 3 = .ok (.invokevirtual 50, 3) := by decide +kernel
theorem dX8_logAt_6 : decode cX8_logAt 6 = .ok (.ifCond .eq 12, 3) := by decide +kernel
theorem dX8_logAt_9 : decode cX8_logAt 9 = .ok (.aload_n 0, 1) := by decide +kernel
theorem dX8_logAt_10 : decode cX8_logAt 10 = .ok (.getfield 43, 3) := by decide +kernel
theorem dX8_logAt_13 : decode cX8_logAt 13 = .ok (.iload_n 1, 1) := by decide +kernel
theorem dX8_logAt_14 : decode cX8_logAt 14 = .ok (.aaload, 1) := by decide +kernel
theorem dX8_logAt_15 : decode cX8_logAt 15 = .ok (.goto 4, 3) := by decide +kernel
theorem dX8_logAt_18 : decode cX8_logAt 18 = .ok (.aconst_null, 1) := by decide +kernel
theorem dX8_logAt_19 : decode cX8_logAt 19 = .ok (.areturn, 1) := by decide +kernel
theorem dX8_hasPlaceFor_0 : decode cX8_hasPlaceFor 0 = .ok (.iload_n 1, 1) := by decide +kernel
theorem dX8_hasPlaceFor_1 : decode cX8_hasPlaceFor 1 = .ok (.ifCond .lt 8, 3) := by decide +kernel
theorem dX8_hasPlaceFor_4 : decode cX8_hasPlaceFor 4 = .ok (.iload_n 1, 1) := by decide +kernel
theorem dX8_hasPlaceFor_5 : decode cX8_hasPlaceFor 5 = .ok (.iconst 2, 1) := by decide +kernel
theorem dX8_hasPlaceFor_6 : decode cX8_hasPlaceFor 6 = .ok (.if_icmp .le 5, 3) := by decide +kernel
theorem dX8_hasPlaceFor_9 : decode cX8_hasPlaceFor 9 = .ok (.iconst 0, 1) := by decide +kernel
theorem dX8_hasPlaceFor_10 : decode cX8_hasPlaceFor 10 = .ok (.ireturn, 1) := by decide +kernel
theorem dX8_hasPlaceFor_11 : decode cX8_hasPlaceFor 11 = .ok (.iload_n 2, 1) := by decide +kernel
theorem dX8_hasPlaceFor_12 : decode cX8_hasPlaceFor 12 = .ok (.iconst (-1), 1) := by decide +kernel
theorem dX8_hasPlaceFor_13 : decode cX8_hasPlaceFor 13 = .ok (.if_icmp .ne 21, 3) := by decide +kernel
theorem dX8_hasPlaceFor_16 : decode cX8_hasPlaceFor 16 = .ok (.aload_n 0, 1) := by decide +kernel
theorem dX8_hasPlaceFor_17 : decode cX8_hasPlaceFor 17 = .ok (.getfield 25, 3) := by decide +kernel
theorem dX8_hasPlaceFor_20 : decode cX8_hasPlaceFor 20 = .ok (.iload_n 1, 1) := by decide +kernel
theorem dX8_hasPlaceFor_21 : decode cX8_hasPlaceFor 21 = .ok (.iaload, 1) := by decide +kernel
theorem dX8_hasPlaceFor_22 : decode cX8_hasPlaceFor 22 = .ok (.iconst 2, 1) := by decide +kernel
theorem dX8_hasPlaceFor_23 : decode cX8_hasPlaceFor 23 = .ok (.if_icmp .ge 7, 3) := by decide +kernel
theorem dX8_hasPlaceFor_26 : decode cX8_hasPlaceFor 26 = .ok (.iconst 1, 1) := by decide +kernel
theorem dX8_hasPlaceFor_27 : decode cX8_hasPlaceFor 27 = .ok (.goto 13, 3) := by decide +kernel
theorem dX8_hasPlaceFor_30 : decode cX8_hasPlaceFor 30 = .ok (.iconst 0, 1) := by decide +kernel
theorem dX8_hasPlaceFor_31 : decode cX8_hasPlaceFor 31 = .ok (.goto 9, 3) := by decide +kernel
theorem dX8_hasPlaceFor_34 : decode cX8_hasPlaceFor 34 = .ok (.aload_n 0, 1) := by decide +kernel
theorem dX8_hasPlaceFor_35 : decode cX8_hasPlaceFor 35 = .ok (.iload_n 1, 1) := by decide +kernel
theorem dX8_hasPlaceFor_36 : decode cX8_hasPlaceFor 36 = .ok (.iload_n 2, 1) := by decide +kernel
theorem dX8_hasPlaceFor_37 : decode cX8_hasPlaceFor 37 = .ok (.invokevirtual 50, 3) := by decide +kernel
theorem dX8_hasPlaceFor_40 : decode cX8_hasPlaceFor 40 = .ok (.ireturn, 1) := by decide +kernel
theorem dX8_take_0 : decode cX8_take 0 = .ok (.aload_n 0, 1) := by decide +kernel
theorem dX8_take_1 : decode cX8_take 1 = .ok (.iload_n 1, 1) := by decide +kernel
theorem dX8_take_2 : decode cX8_take 2 = .ok (.iload_n 2, 1) := by decide +kernel
theorem dX8_take_3 : decode cX8_take 3 = .ok (.invokevirtual 54, 3) := by decide +kernel
theorem dX8_take_6 : decode cX8_take 6 = .ok (.ifCond .ne 6, 3) := by decide +kernel
theorem dX8_take_9 : decode cX8_take 9 = .ok (.bipush (-2), 2) := by decide +kernel
theorem dX8_take_11 : decode cX8_take 11 = .ok (.ireturn, 1) := by decide +kernel
theorem dX8_take_12 : decode cX8_take 12 = .ok (.iload_n 2, 1) := by decide +kernel
theorem dX8_take_13 : decode cX8_take 13 = .ok (.istore 4, 2) := by decide +kernel
theorem dX8_take_15 : decode cX8_take 15 = .ok (.iload_n 2, 1) := by decide +kernel
theorem dX8_take_16 : decode cX8_take 16 = .ok (.iconst (-1), 1) := by decide +kernel
theorem dX8_take_17 : decode cX8_take 17 = .ok (.if_icmp .ne 21, 3) := by decide +kernel
theorem dX8_take_20 : decode cX8_take 20 = .ok (.aload_n 0, 1) := by decide +kernel
theorem dX8_take_21 : decode cX8_take 21 = .ok (.getfield 25, 3) := by decide +kernel
theorem dX8_take_24 : decode cX8_take 24 = .ok (.iload_n 1, 1) := by decide +kernel
theorem dX8_take_25 : decode cX8_take 25 = .ok (.iaload, 1) := by decide +kernel
theorem dX8_take_26 : decode cX8_take 26 = .ok (.istore 4, 2) := by decide +kernel
theorem dX8_take_28 : decode cX8_take 28 = .ok (.aload_n 0, 1) := by decide +kernel
theorem dX8_take_29 : decode cX8_take 29 = .ok (.getfield 25, 3) := by decide +kernel
theorem dX8_take_32 : decode cX8_take 32 = .ok (.iload_n 1, 1) := by decide +kernel
theorem dX8_take_33 : decode cX8_take 33 = .ok (.dup2, 1) := by decide +kernel
theorem dX8_take_34 : decode cX8_take 34 = .ok (.iaload, 1) := by decide +kernel
theorem dX8_take_35 : decode cX8_take 35 = .ok (.iconst 1, 1) := by decide +kernel
theorem dX8_take_36 : decode cX8_take 36 = .ok (.iadd, 1) := by decide +kernel
theorem dX8_take_37 : decode cX8_take 37 = .ok (.iastore, 1) := by decide +kernel
theorem dX8_take_38 : decode cX8_take 38 = .ok (.iload_n 1, 1) := by decide +kernel
theorem dX8_take_39 : decode cX8_take 39 = .ok (.ifCond .ne 20, 3) := by decide +kernel
theorem dX8_take_42 : decode cX8_take 42 = .ok (.aload_n 0, 1) := by decide +kernel
theorem dX8_take_43 : decode cX8_take 43 = .ok (.getfield 31, 3) := by decide +kernel
theorem dX8_take_46 : decode cX8_take 46 = .ok (.iload 4, 2) := by decide +kernel
theorem dX8_take_48 : decode cX8_take 48 = .ok (.aaload, 1) := by decide +kernel
theorem dX8_take_49 : decode cX8_take 49 = .ok (.aload_n 3, 1) := by decide +kernel
theorem dX8_take_50 : decode cX8_take 50 = .ok (.getfield 57, 3) := by decide +kernel
theorem dX8_take_53 : decode cX8_take 53 = .ok (.invokevirtual 63, 3) := by decide +kernel
theorem dX8_take_56 : decode cX8_take 56 = .ok (.goto 39, 3) := by decide +kernel
theorem dX8_take_59 : decode cX8_take 59 = .ok (.iload_n 1, 1) := by decide +kernel
theorem dX8_take_60 : decode cX8_take 60 = .ok (.iconst 1, 1) := by decide +kernel
theorem dX8_take_61 : decode cX8_take 61 = .ok (.if_icmp .ne 20, 3) := by decide +kernel
theorem dX8_take_64 : decode cX8_take 64 = .ok (.aload_n 0, 1) := by decide +kernel
theorem dX8_take_65 : decode cX8_take 65 = .ok (.getfield 37, 3) := by decide +kernel
theorem dX8_take_68 : decode cX8_take 68 = .ok (.iload 4, 2) := by decide +kernel
theorem dX8_take_70 : decode cX8_take 70 = .ok (.aaload, 1) := by decide +kernel
theorem dX8_take_71 : decode cX8_take 71 = .ok (.aload_n 3, 1) := by decide +kernel
theorem dX8_take_72 : decode cX8_take 72 = .ok (.getfield 67, 3) := by decide +kernel
theorem dX8_take_75 : decode cX8_take 75 = .ok (.invokevirtual 71, 3) := by decide +kernel
theorem dX8_take_78 : decode cX8_take 78 = .ok (.goto 17, 3) := by decide +kernel
theorem dX8_take_81 : decode cX8_take 81 = .ok (.aload_n 0, 1) := by decide +kernel
theorem dX8_take_82 : decode cX8_take 82 = .ok (.getfield 43, 3) := by decide +kernel
theorem dX8_take_85 : decode cX8_take 85 = .ok (.iload 4, 2) := by decide +kernel
theorem dX8_take_87 : decode cX8_take 87 = .ok (.aaload, 1) := by decide +kernel
theorem dX8_take_88 : decode cX8_take 88 = .ok (.aload_n 3, 1) := by decide +kernel
theorem dX8_take_89 : decode cX8_take 89 = .ok (.getfield 74, 3) := by decide +kernel
theorem dX8_take_92 : decode cX8_take 92 = .ok (.invokevirtual 78, 3) := by decide +kernel
theorem dX8_take_95 : decode cX8_take 95 = .ok (.iload 4, 2) := by decide +kernel
theorem dX8_take_97 : decode cX8_take 97 = .ok (.ireturn, 1) := by decide +kernel
theorem dX8_copy_0 : decode cX8_copy 0 = .ok (.aload_n 1, 1) := by decide +kernel
theorem dX8_copy_1 : decode cX8_copy 1 = .ok (.getfield 9, 3) := by decide +kernel
theorem dX8_copy_4 : decode cX8_copy 4 = .ok (.iconst 0, 1) := by decide +kernel
theorem dX8_copy_5 : decode cX8_copy 5 = .ok (.aload_n 0, 1) := by decide +kernel
theorem dX8_copy_6 : decode cX8_copy 6 = .ok (.getfield 9, 3) := by decide +kernel
theorem dX8_copy_9 : decode cX8_copy 9 = .ok (.iconst 0, 1) := by decide +kernel
theorem dX8_copy_10 : decode cX8_copy 10 = .ok (.aload_n 1, 1) := by decide +kernel
theorem dX8_copy_11 : decode cX8_copy 11 = .ok (.getfield 15, 3) := by decide +kernel
theorem dX8_copy_14 : decode cX8_copy 14 = .ok (.invokestatic 81, 3) := by decide +kernel
theorem dX8_copy_17 : decode cX8_copy 17 = .ok (.aload_n 0, 1) := by decide +kernel
theorem dX8_copy_18 : decode cX8_copy 18 = .ok (.aload_n 1, 1) := by decide +kernel
theorem dX8_copy_19 : decode cX8_copy 19 = .ok (.getfield 15, 3) := by decide +kernel
theorem dX8_copy_22 : decode cX8_copy 22 = .ok (.putfield 15, 3) := by decide +kernel
theorem dX8_copy_25 : decode cX8_copy 25 = .ok (.aload_n 0, 1) := by decide +kernel
theorem dX8_copy_26 : decode cX8_copy 26 = .ok (.aload_n 1, 1) := by decide +kernel
theorem dX8_copy_27 : decode cX8_copy 27 = .ok (.getfield 19, 3) := by decide +kernel
theorem dX8_copy_30 : decode cX8_copy 30 = .ok (.putfield 19, 3) := by decide +kernel
theorem dX8_copy_33 : decode cX8_copy 33 = .ok (.aload_n 0, 1) := by decide +kernel
theorem dX8_copy_34 : decode cX8_copy 34 = .ok (.aload_n 1, 1) := by decide +kernel
theorem dX8_copy_35 : decode cX8_copy 35 = .ok (.getfield 22, 3) := by decide +kernel
theorem dX8_copy_38 : decode cX8_copy 38 = .ok (.putfield 22, 3) := by decide +kernel
theorem dX8_copy_41 : decode cX8_copy 41 = .ok (.aload_n 1, 1) := by decide +kernel
theorem dX8_copy_42 : decode cX8_copy 42 = .ok (.getfield 25, 3) := by decide +kernel
theorem dX8_copy_45 : decode cX8_copy 45 = .ok (.iconst 0, 1) := by decide +kernel
theorem dX8_copy_46 : decode cX8_copy 46 = .ok (.aload_n 0, 1) := by decide +kernel
theorem dX8_copy_47 : decode cX8_copy 47 = .ok (.getfield 25, 3) := by decide +kernel
theorem dX8_copy_50 : decode cX8_copy 50 = .ok (.iconst 0, 1) := by decide +kernel
theorem dX8_copy_51 : decode cX8_copy 51 = .ok (.iconst 3, 1) := by decide +kernel
theorem dX8_copy_52 : decode cX8_copy 52 = .ok (.invokestatic 81, 3) := by decide +kernel
theorem dX8_copy_55 : decode cX8_copy 55 = .ok (.iconst 0, 1) := by decide +kernel
theorem dX8_copy_56 : decode cX8_copy 56 = .ok (.istore_n 2, 1) := by decide +kernel
theorem dX8_copy_57 : decode cX8_copy 57 = .ok (.iload_n 2, 1) := by decide +kernel
theorem dX8_copy_58 : decode cX8_copy 58 = .ok (.iconst 2, 1) := by decide +kernel
theorem dX8_copy_59 : decode cX8_copy 59 = .ok (.if_icmp .ge 54, 3) := by decide +kernel
theorem dX8_copy_62 : decode cX8_copy 62 = .ok (.aload_n 0, 1) := by decide +kernel
theorem dX8_copy_63 : decode cX8_copy 63 = .ok (.getfield 31, 3) := by decide +kernel
theorem dX8_copy_66 : decode cX8_copy 66 = .ok (.iload_n 2, 1) := by decide +kernel
theorem dX8_copy_67 : decode cX8_copy 67 = .ok (.aaload, 1) := by decide +kernel
theorem dX8_copy_68 : decode cX8_copy 68 = .ok (.aload_n 1, 1) := by decide +kernel
theorem dX8_copy_69 : decode cX8_copy 69 = .ok (.getfield 31, 3) := by decide +kernel
theorem dX8_copy_72 : decode cX8_copy 72 = .ok (.iload_n 2, 1) := by decide +kernel
theorem dX8_copy_73 : decode cX8_copy 73 = .ok (.aaload, 1) := by decide +kernel
theorem dX8_copy_74 : decode cX8_copy 74 = .ok (.invokevirtual 63, 3) := by decide +kernel
theorem dX8_copy_77 : decode cX8_copy 77 = .ok (.aload_n 0, 1) := by decide +kernel
theorem dX8_copy_78 : decode cX8_copy 78 = .ok (.getfield 37, 3) := by decide +kernel
theorem dX8_copy_81 : decode cX8_copy 81 = .ok (.iload_n 2, 1) := by decide +kernel
theorem dX8_copy_82 : decode cX8_copy 82 = .ok (.aaload, 1) := by decide +kernel
theorem dX8_copy_83 : decode cX8_copy 83 = .ok (.aload_n 1, 1) := by decide +kernel
theorem dX8_copy_84 : decode cX8_copy 84 = .ok (.getfield 37, 3) := by decide +kernel
theorem dX8_copy_87 : decode cX8_copy 87 = .ok (.iload_n 2, 1) := by decide +kernel
theorem dX8_copy_88 : decode cX8_copy 88 = .ok (.aaload, 1) := by decide +kernel
theorem dX8_copy_89 : decode cX8_copy 89 = .ok (.invokevirtual 71, 3) := by decide +kernel
theorem dX8_copy_92 : decode cX8_copy 92 = .ok (.aload_n 0, 1) := by decide +kernel
theorem dX8_copy_93 : decode cX8_copy 93 = .ok (.getfield 43, 3) := by decide +kernel
theorem dX8_copy_96 : decode cX8_copy 96 = .ok (.iload_n 2, 1) := by decide +kernel
theorem dX8_copy_97 : decode cX8_copy 97 = .ok (.aaload, 1) := by decide +kernel
theorem dX8_copy_98 : decode cX8_copy 98 = .ok (.aload_n 1, 1) := by decide +kernel
theorem dX8_copy_99 : decode cX8_copy 99 = .ok (.getfield 43, 3) := by decide +kernel
theorem dX8_copy_102 : decode cX8_copy 102 = .ok (.iload_n 2, 1) := by decide +kernel
theorem dX8_copy_103 : decode cX8_copy 103 = .ok (.aaload, 1) := by decide +kernel
theorem dX8_copy_104 : decode cX8_copy 104 = .ok (.invokevirtual 78, 3) := by decide +kernel
theorem dX8_copy_107 : decode cX8_copy 107 = .ok (.iinc 2 1, 3) := by decide +kernel
theorem dX8_copy_110 : decode cX8_copy 110 = .ok (.goto (-53), 3) := by decide +kernel
theorem dX8_copy_113 : decode cX8_copy 113 = .ok (.return_, 1) := by decide +kernel
