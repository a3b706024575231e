theorem dX12_lends_33 : decode cX12_lends 33 = .ok (.iload_n 1, 1) := by decide +kernel
theorem dX12_lends_34 : decode cX12_lends 34 = .ok (.iadd, 1) := by decide +kernel
theorem dX12_lends_35 : decode cX12_lends 35 = .ok (.dup2, 1) := by decide +kernel
theorem dX12_lends_36 : decode cX12_lends 36 = .ok (.iaload, 1) := by decide +kernel
theorem dX12_lends_37 : decode cX12_lends 37 = .ok (.iload_n 3, 1) := by decide +kernel
theorem dX12_lends_38 : decode cX12_lends 38 = .ok (.iadd, 1) := by decide +kernel
theorem dX12_lends_39 : decode cX12_lends 39 = .ok (.iastore, 1) := by decide +kernel
theorem dX12_lends_40 : decode cX12_lends 40 = .ok (.aload_n 0, 1) := by decide +kernel
theorem dX12_lends_41 : decode cX12_lends 41 = .ok (.dup, 1) := by decide +kernel
theorem dX12_lends_42 : decode cX12_lends 42 = .ok (.getfield 245, 3) := by decide +kernel
theorem dX12_lends_45 : decode cX12_lends 45 = .ok (.iload_n 3, 1) := by decide +kernel
theorem dX12_lends_46 : decode cX12_lends 46 = .ok (.iadd, 1) := by decide +kernel
theorem dX12_lends_47 : decode cX12_lends 47 = .ok (.putfield 245, 3) := by decide +kernel
theorem dX12_lends_50 : decode cX12_lends 50 = .ok (.iconst 1, 1) := by decide +kernel
theorem dX12_lends_51 : decode cX12_lends 51 = .ok (.ireturn, 1) := by decide +kernel
theorem dX12_pays_0 : decode cX12_pays 0 = .ok (.aload_n 0, 1) := by decide +kernel
theorem dX12_pays_1 : decode cX12_pays 1 = .ok (.iload_n 1, 1) := by decide +kernel
theorem dX12_pays_2 : decode cX12_pays 2 = .ok (.iload_n 2, 1) := by decide +kernel
theorem dX12_pays_3 : decode cX12_pays 3 = .ok (.invokevirtual 254, 3) := by decide +kernel
theorem dX12_pays_6 : decode cX12_pays 6 = .ok (.iload_n 3, 1) := by decide +kernel
theorem dX12_pays_7 : decode cX12_pays 7 = .ok (.if_icmp .lt 13, 3) := by decide +kernel
theorem dX12_pays_10 : decode cX12_pays 10 = .ok (.aload_n 0, 1) := by decide +kernel
theorem dX12_pays_11 : decode cX12_pays 11 = .ok (.iload_n 1, 1) := by decide +kernel
theorem dX12_pays_12 : decode cX12_pays 12 = .ok (.iload_n 2, 1) := by decide +kernel
theorem dX12_pays_13 : decode cX12_pays 13 = .ok (.iload_n 3, 1) := by decide +kernel
theorem dX12_pays_14 : decode cX12_pays 14 = .ok (.invokevirtual 278, 3) := by decide +kernel
theorem dX12_pays_17 : decode cX12_pays 17 = .ok (.ifCond .ne 5, 3) := by decide +kernel
theorem dX12_pays_20 : decode cX12_pays 20 = .ok (.iconst 0, 1) := by decide +kernel
theorem dX12_pays_21 : decode cX12_pays 21 = .ok (.ireturn, 1) := by decide +kernel
theorem dX12_pays_22 : decode cX12_pays 22 = .ok (.aload_n 0, 1) := by decide +kernel
theorem dX12_pays_23 : decode cX12_pays 23 = .ok (.getfield 47, 3) := by decide +kernel
theorem dX12_pays_26 : decode cX12_pays 26 = .ok (.bipush 6, 2) := by decide +kernel
theorem dX12_pays_28 : decode cX12_pays 28 = .ok (.iload_n 1, 1) := by decide +kernel
theorem dX12_pays_29 : decode cX12_pays 29 = .ok (.imul, 1) := by decide +kernel
theorem dX12_pays_30 : decode cX12_pays 30 = .ok (.iload_n 2, 1) := by decide +kernel
theorem dX12_pays_31 : decode cX12_pays 31 = .ok (.iadd, 1) := by decide +kernel
theorem dX12_pays_32 : decode cX12_pays 32 = .ok (.dup2, 1) := by decide +kernel
theorem dX12_pays_33 : decode cX12_pays 33 = .ok (.iaload, 1) := by decide +kernel
theorem dX12_pays_34 : decode cX12_pays 34 = .ok (.iload_n 3, 1) := by decide +kernel
theorem dX12_pays_35 : decode cX12_pays 35 = .ok (.isub, 1) := by decide +kernel
theorem dX12_pays_36 : decode cX12_pays 36 = .ok (.iastore, 1) := by decide +kernel
theorem dX12_pays_37 : decode cX12_pays 37 = .ok (.iconst 1, 1) := by decide +kernel
theorem dX12_pays_38 : decode cX12_pays 38 = .ok (.ireturn, 1) := by decide +kernel
theorem dX12_forgives_0 : decode cX12_forgives 0 = .ok (.aload_n 0, 1) := by decide +kernel
theorem dX12_forgives_1 : decode cX12_forgives 1 = .ok (.iload_n 2, 1) := by decide +kernel
theorem dX12_forgives_2 : decode cX12_forgives 2 = .ok (.iload_n 1, 1) := by decide +kernel
theorem dX12_forgives_3 : decode cX12_forgives 3 = .ok (.invokevirtual 254, 3) := by decide +kernel
theorem dX12_forgives_6 : decode cX12_forgives 6 = .ok (.iload_n 3, 1) := by decide +kernel
theorem dX12_forgives_7 : decode cX12_forgives 7 = .ok (.if_icmp .ge 5, 3) := by decide +kernel
theorem dX12_forgives_10 : decode cX12_forgives 10 = .ok (.iconst 0, 1) := by decide +kernel
theorem dX12_forgives_11 : decode cX12_forgives 11 = .ok (.ireturn, 1) := by decide +kernel
theorem dX12_forgives_12 : decode cX12_forgives 12 = .ok (.aload_n 0, 1) := by decide +kernel
theorem dX12_forgives_13 : decode cX12_forgives 13 = .ok (.getfield 47, 3) := by decide +kernel
theorem dX12_forgives_16 : decode cX12_forgives 16 = .ok (.bipush 6, 2) := by decide +kernel
theorem dX12_forgives_18 : decode cX12_forgives 18 = .ok (.iload_n 2, 1) := by decide +kernel
theorem dX12_forgives_19 : decode cX12_forgives 19 = .ok (.imul, 1) := by decide +kernel
theorem dX12_forgives_20 : decode cX12_forgives 20 = .ok (.iload_n 1, 1) := by decide +kernel
theorem dX12_forgives_21 : decode cX12_forgives 21 = .ok (.iadd, 1) := by decide +kernel
theorem dX12_forgives_22 : decode cX12_forgives 22 = .ok (.dup2, 1) := by decide +kernel
theorem dX12_forgives_23 : decode cX12_forgives 23 = .ok (.iaload, 1) := by decide +kernel
theorem dX12_forgives_24 : decode cX12_forgives 24 = .ok (.iload_n 3, 1) := by decide +kernel
theorem dX12_forgives_25 : decode cX12_forgives 25 = .ok (.isub, 1) := by decide +kernel
theorem dX12_forgives_26 : decode cX12_forgives 26 = .ok (.iastore, 1) := by decide +kernel
theorem dX12_forgives_27 : decode cX12_forgives 27 = .ok (.aload_n 0, 1) := by decide +kernel
theorem dX12_forgives_28 : decode cX12_forgives 28 = .ok (.dup, 1) := by decide +kernel
theorem dX12_forgives_29 : decode cX12_forgives 29 = .ok (.getfield 248, 3) := by decide +kernel
theorem dX12_forgives_32 : decode cX12_forgives 32 = .ok (.iload_n 3, 1) := by decide +kernel
theorem dX12_forgives_33 : decode cX12_forgives 33 = .ok (.iadd, 1) := by decide +kernel
theorem dX12_forgives_34 : decode cX12_forgives 34 = .ok (.putfield 248, 3) := by decide +kernel
theorem dX12_forgives_37 : decode cX12_forgives 37 = .ok (.iconst 1, 1) := by decide +kernel
theorem dX12_forgives_38 : decode cX12_forgives 38 = .ok (.ireturn, 1) := by decide +kernel
theorem dX12_goesOn_0 : decode cX12_goesOn 0 = .ok (.aload_n 0, 1) := by decide +kernel
theorem dX12_goesOn_1 : decode cX12_goesOn 1 = .ok (.dup, 1) := by decide +kernel
theorem dX12_goesOn_2 : decode cX12_goesOn 2 = .ok (.getfield 233, 3) := by decide +kernel
theorem dX12_goesOn_5 : decode cX12_goesOn 5 = .ok (.iconst 1, 1) := by decide +kernel
theorem dX12_goesOn_6 : decode cX12_goesOn 6 = .ok (.iadd, 1) := by decide +kernel
theorem dX12_goesOn_7 : decode cX12_goesOn 7 = .ok (.putfield 233, 3) := by decide +kernel
theorem dX12_goesOn_10 : decode cX12_goesOn 10 = .ok (.iconst 0, 1) := by decide +kernel
theorem dX12_goesOn_11 : decode cX12_goesOn 11 = .ok (.istore_n 1, 1) := by decide +kernel
theorem dX12_goesOn_12 : decode cX12_goesOn 12 = .ok (.iload_n 1, 1) := by decide +kernel
theorem dX12_goesOn_13 : decode cX12_goesOn 13 = .ok (.bipush 6, 2) := by decide +kernel
theorem dX12_goesOn_15 : decode cX12_goesOn 15 = .ok (.if_icmp .ge 17, 3) := by decide +kernel
theorem dX12_goesOn_18 : decode cX12_goesOn 18 = .ok (.aload_n 0, 1) := by decide +kernel
theorem dX12_goesOn_19 : decode cX12_goesOn 19 = .ok (.getfield 44, 3) := by decide +kernel
theorem dX12_goesOn_22 : decode cX12_goesOn 22 = .ok (.iload_n 1, 1) := by decide +kernel
theorem dX12_goesOn_23 : decode cX12_goesOn 23 = .ok (.bipush 6, 2) := by decide +kernel
theorem dX12_goesOn_25 : decode cX12_goesOn 25 = .ok (.iastore, 1) := by decide +kernel
theorem dX12_goesOn_26 : decode cX12_goesOn 26 = .ok (.iinc 1 1, 3) := by decide +kernel
theorem dX12_goesOn_29 : decode cX12_goesOn 29 = .ok (.goto (-17), 3) := by decide +kernel
theorem dX12_goesOn_32 : decode cX12_goesOn 32 = .ok (.aload_n 0, 1) := by decide +kernel
theorem dX12_goesOn_33 : decode cX12_goesOn 33 = .ok (.getfield 233, 3) := by decide +kernel
theorem dX12_goesOn_36 : decode cX12_goesOn 36 = .ok (.bipush 10, 2) := by decide +kernel
theorem dX12_goesOn_38 : decode cX12_goesOn 38 = .ok (.irem, 1) := by decide +kernel
theorem dX12_goesOn_39 : decode cX12_goesOn 39 = .ok (.ifCond .ne 59, 3) := by decide +kernel
theorem dX12_goesOn_42 : decode cX12_goesOn 42 = .ok (.aload_n 0, 1) := by decide +kernel
theorem dX12_goesOn_43 : decode cX12_goesOn 43 = .ok (.dup, 1) := by decide +kernel
theorem dX12_goesOn_44 : decode cX12_goesOn 44 = .ok (.getfield 251, 3) := by decide +kernel
theorem dX12_goesOn_47 : decode cX12_goesOn 47 = .ok (.iconst 1, 1) := by decide +kernel
theorem dX12_goesOn_48 : decode cX12_goesOn 48 = .ok (.iadd, 1) := by decide +kernel
theorem dX12_goesOn_49 : decode cX12_goesOn 49 = .ok (.putfield 251, 3) := by decide +kernel
theorem dX12_goesOn_52 : decode cX12_goesOn 52 = .ok (.iconst 0, 1) := by decide +kernel
theorem dX12_goesOn_53 : decode cX12_goesOn 53 = .ok (.istore_n 1, 1) := by decide +kernel
theorem dX12_goesOn_54 : decode cX12_goesOn 54 = .ok (.iload_n 1, 1) := by decide +kernel
theorem dX12_goesOn_55 : decode cX12_goesOn 55 = .ok (.bipush 36, 2) := by decide +kernel
theorem dX12_goesOn_57 : decode cX12_goesOn 57 = .ok (.if_icmp .ge 41, 3) := by decide +kernel
theorem dX12_goesOn_60 : decode cX12_goesOn 60 = .ok (.aload_n 0, 1) := by decide +kernel
theorem dX12_goesOn_61 : decode cX12_goesOn 61 = .ok (.getfield 47, 3) := by decide +kernel
theorem dX12_goesOn_64 : decode cX12_goesOn 64 = .ok (.iload_n 1, 1) := by decide +kernel
theorem dX12_goesOn_65 : decode cX12_goesOn 65 = .ok (.aload_n 0, 1) := by decide +kernel
theorem dX12_goesOn_66 : decode cX12_goesOn 66 = .ok (.getfield 47, 3) := by decide +kernel
theorem dX12_goesOn_69 : decode cX12_goesOn 69 = .ok (.iload_n 1, 1) := by decide +kernel
theorem dX12_goesOn_70 : decode cX12_goesOn 70 = .ok (.iaload, 1) := by decide +kernel
theorem dX12_goesOn_71 : decode cX12_goesOn 71 = .ok (.ifCond .le 19, 3) := by decide +kernel
theorem dX12_goesOn_74 : decode cX12_goesOn 74 = .ok (.bipush 99, 2) := by decide +kernel
theorem dX12_goesOn_76 : decode cX12_goesOn 76 = .ok (.aload_n 0, 1) := by decide +kernel
theorem dX12_goesOn_77 : decode cX12_goesOn 77 = .ok (.getfield 47, 3) := by decide +kernel
theorem dX12_goesOn_80 : decode cX12_goesOn 80 = .ok (.iload_n 1, 1) := by decide +kernel
theorem dX12_goesOn_81 : decode cX12_goesOn 81 = .ok (.iaload, 1) := by decide +kernel
theorem dX12_goesOn_82 : decode cX12_goesOn 82 = .ok (.iconst 1, 1) := by decide +kernel
theorem dX12_goesOn_83 : decode cX12_goesOn 83 = .ok (.iadd, 1) := by decide +kernel
theorem dX12_goesOn_84 : decode cX12_goesOn 84 = .ok (.invokestatic 281, 3) := by decide +kernel
theorem dX12_goesOn_87 : decode cX12_goesOn 87 = .ok (.goto 4, 3) := by decide +kernel
theorem dX12_goesOn_90 : decode cX12_goesOn 90 = .ok (.iconst 0, 1) := by decide +kernel
theorem dX12_goesOn_91 : decode cX12_goesOn 91 = .ok (.iastore, 1) := by decide +kernel
theorem dX12_goesOn_92 : decode cX12_goesOn 92 = .ok (.iinc 1 1, 3) := by decide +kernel
theorem dX12_goesOn_95 : decode cX12_goesOn 95 = .ok (.goto (-41), 3) := by decide +kernel
theorem dX12_goesOn_98 : decode cX12_goesOn 98 = .ok (.return_, 1) := by decide +kernel
theorem dX12_does_0 : decode cX12_does 0 = .ok (.iload_n 1, 1) := by decide +kernel
theorem dX12_does_1 : decode cX12_does 1 = .ok (.bipush 6, 2) := by decide +kernel
theorem dX12_does_3 : decode cX12_does 3 = .ok (.if_icmp .ne 9, 3) := by decide +kernel
theorem dX12_does_6 : decode cX12_does 6 = .ok (.aload_n 0, 1) := by decide +kernel
theorem dX12_does_7 : decode cX12_does 7 = .ok (.invokevirtual 284, 3) := by decide +kernel
theorem dX12_does_10 : decode cX12_does 10 = .ok (.iconst 1, 1) := by decide +kernel
theorem dX12_does_11 : decode cX12_does 11 = .ok (.ireturn, 1) := by decide +kernel
theorem dX12_does_12 : decode cX12_does 12 = .ok (.aload_n 0, 1) := by decide +kernel
theorem dX12_does_13 : decode cX12_does 13 = .ok (.iload_n 2, 1) := by decide +kernel
theorem dX12_does_14 : decode cX12_does 14 = .ok (.invokevirtual 260, 3) := by decide +kernel
theorem dX12_does_17 : decode cX12_does 17 = .ok (.ifCond .eq 16, 3) := by decide +kernel
theorem dX12_does_20 : decode cX12_does 20 = .ok (.iload_n 1, 1) := by decide +kernel
theorem dX12_does_21 : decode cX12_does 21 = .ok (.iconst 4, 1) := by decide +kernel
theorem dX12_does_22 : decode cX12_does 22 = .ok (.if_icmp .ge 13, 3) := by decide +kernel
theorem dX12_does_25 : decode cX12_does 25 = .ok (.aload_n 0, 1) := by decide +kernel
theorem dX12_does_26 : decode cX12_does 26 = .ok (.iload_n 3, 1) := by decide +kernel
theorem dX12_does_27 : decode cX12_does 27 = .ok (.invokevirtual 260, 3) := by decide +kernel
theorem dX12_does_30 : decode cX12_does 30 = .ok (.ifCond .ne 5, 3) := by decide +kernel
theorem dX12_does_33 : decode cX12_does 33 = .ok (.iconst 0, 1) := by decide +kernel
theorem dX12_does_34 : decode cX12_does 34 = .ok (.ireturn, 1) := by decide +kernel
theorem dX12_does_35 : decode cX12_does 35 = .ok (.iload_n 1, 1) := by decide +kernel
theorem dX12_does_36 : decode cX12_does 36 = .ok (.tableswitch 84 0 4 #[36, 43, 52, 61, 70], 36) := by decide +kernel
theorem dX12_does_72 : decode cX12_does 72 = .ok (.aload_n 0, 1) := by decide +kernel
theorem dX12_does_73 : decode cX12_does 73 = .ok (.iload_n 2, 1) := by decide +kernel
theorem dX12_does_74 : decode cX12_does 74 = .ok (.iload_n 3, 1) := by decide +kernel
theorem dX12_does_75 : decode cX12_does 75 = .ok (.invokevirtual 287, 3) := by decide +kernel
theorem dX12_does_78 : decode cX12_does 78 = .ok (.ireturn, 1) := by decide +kernel
theorem dX12_does_79 : decode cX12_does 79 = .ok (.aload_n 0, 1) := by decide +kernel
theorem dX12_does_80 : decode cX12_does 80 = .ok (.iload_n 2, 1) := by decide +kernel
theorem dX12_does_81 : decode cX12_does 81 = .ok (.iload_n 3, 1) := by decide +kernel
theorem dX12_does_82 : decode cX12_does 82 = .ok (.iload 4, 2) := by decide +kernel
theorem dX12_does_84 : decode cX12_does 84 = .ok (.invokevirtual 290, 3) := by decide +kernel
theorem dX12_does_87 : decode cX12_does 87 = .ok (.ireturn, 1) := by decide +kernel
theorem dX12_does_88 : decode cX12_does 88 = .ok (.aload_n 0, 1) := by decide +kernel
theorem dX12_does_89 : decode cX12_does 89 = .ok (.iload_n 2, 1) := by decide +kernel
theorem dX12_does_90 : decode cX12_does 90 = .ok (.iload_n 3, 1) := by decide +kernel
theorem dX12_does_91 : decode cX12_does 91 = .ok (.iload 4, 2) := by decide +kernel
theorem dX12_does_93 : decode cX12_does 93 = .ok (.invokevirtual 293, 3) := by decide +kernel
theorem dX12_does_96 : decode cX12_does 96 = .ok (.ireturn, 1) := by decide +kernel
theorem dX12_does_97 : decode cX12_does 97 = .ok (.aload_n 0, 1) := by decide +kernel
theorem dX12_does_98 : decode cX12_does 98 = .ok (.iload_n 2, 1) := by decide +kernel
theorem dX12_does_99 : decode cX12_does 99 = .ok (.iload_n 3, 1) := by decide +kernel
theorem dX12_does_100 : decode cX12_does 100 = .ok (.iload 4, 2) := by decide +kernel
theorem dX12_does_102 : decode cX12_does 102 = .ok (.invokevirtual 296, 3) := by decide +kernel
theorem dX12_does_105 : decode cX12_does 105 = .ok (.ireturn, 1) := by decide +kernel
theorem dX12_does_106 : decode cX12_does 106 = .ok (.aload_n 0, 1) := by decide +kernel
theorem dX12_does_107 : decode cX12_does 107 = .ok (.dup, 1) := by decide +kernel
theorem dX12_does_108 : decode cX12_does 108 = .ok (.getfield 239, 3) := by decide +kernel
theorem dX12_does_111 : decode cX12_does 111 = .ok (.iconst 1, 1) := by decide +kernel
theorem dX12_does_112 : decode cX12_does 112 = .ok (.iload_n 2, 1) := by decide +kernel
theorem dX12_does_113 : decode cX12_does 113 = .ok (.ishl, 1) := by decide +kernel
theorem dX12_does_114 : decode cX12_does 114 = .ok (.ior, 1) := by decide +kernel
theorem dX12_does_115 : decode cX12_does 115 = .ok (.putfield 239, 3) := by decide +kernel
theorem dX12_does_118 : decode cX12_does 118 = .ok (.iconst 1, 1) := by decide +kernel
theorem dX12_does_119 : decode cX12_does 119 = .ok (.ireturn, 1) := by decide +kernel
theorem dX12_does_120 : decode cX12_does 120 = .ok (.aload_n 0, 1) := by decide +kernel
theorem dX12_does_121 : decode cX12_does 121 = .ok (.dup, 1) := by decide +kernel
theorem dX12_does_122 : decode cX12_does 122 = .ok (.getfield 239, 3) := by decide +kernel
theorem dX12_does_125 : decode cX12_does 125 = .ok (.iconst 1, 1) := by decide +kernel
theorem dX12_does_126 : decode cX12_does 126 = .ok (.iload_n 2, 1) := by decide +kernel
theorem dX12_does_127 : decode cX12_does 127 = .ok (.ishl, 1) := by decide +kernel
theorem dX12_does_128 : decode cX12_does 128 = .ok (.iconst (-1), 1) := by decide +kernel
theorem dX12_does_129 : decode cX12_does 129 = .ok (.ixor, 1) := by decide +kernel
theorem dX12_does_130 : decode cX12_does 130 = .ok (.iand, 1) := by decide +kernel
theorem dX12_does_131 : decode cX12_does 131 = .ok (.putfield 239, 3) := by decide +kernel
theorem dX12_does_134 : decode cX12_does 134 = .ok (.iconst 1, 1) := by decide +kernel
theorem dX12_does_135 : decode cX12_does 135 = .ok (.ireturn, 1) := by decide +kernel
theorem dX12_doesDeed_0 : decode cX12_doesDeed 0 = .ok (.aload_n 0, 1) := by decide +kernel
theorem dX12_doesDeed_1 : decode cX12_doesDeed 1 = .ok (.aload_n 0, 1) := by decide +kernel
theorem dX12_doesDeed_2 : decode cX12_doesDeed 2 = .ok (.iload_n 1, 1) := by decide +kernel
theorem dX12_doesDeed_3 : decode cX12_doesDeed 3 = .ok (.iconst 0, 1) := by decide +kernel
theorem dX12_doesDeed_4 : decode cX12_doesDeed 4 = .ok (.invokevirtual 272, 3) := by decide +kernel
theorem dX12_doesDeed_7 : decode cX12_doesDeed 7 = .ok (.aload_n 0, 1) := by decide +kernel
theorem dX12_doesDeed_8 : decode cX12_doesDeed 8 = .ok (.iload_n 1, 1) := by decide +kernel
theorem dX12_doesDeed_9 : decode cX12_doesDeed 9 = .ok (.iconst 1, 1) := by decide +kernel
theorem dX12_doesDeed_10 : decode cX12_doesDeed 10 = .ok (.invokevirtual 272, 3) := by decide +kernel
theorem dX12_doesDeed_13 : decode cX12_doesDeed 13 = .ok (.aload_n 0, 1) := by decide +kernel
theorem dX12_doesDeed_14 : decode cX12_doesDeed 14 = .ok (.iload_n 1, 1) := by decide +kernel
theorem dX12_doesDeed_15 : decode cX12_doesDeed 15 = .ok (.iconst 2, 1) := by decide +kernel
theorem dX12_doesDeed_16 : decode cX12_doesDeed 16 = .ok (.invokevirtual 272, 3) := by decide +kernel
theorem dX12_doesDeed_19 : decode cX12_doesDeed 19 = .ok (.aload_n 0, 1) := by decide +kernel
theorem dX12_doesDeed_20 : decode cX12_doesDeed 20 = .ok (.iload_n 1, 1) := by decide +kernel
theorem dX12_doesDeed_21 : decode cX12_doesDeed 21 = .ok (.iconst 3, 1) := by decide +kernel
theorem dX12_doesDeed_22 : decode cX12_doesDeed 22 = .ok (.invokevirtual 272, 3) := by decide +kernel
theorem dX12_doesDeed_25 : decode cX12_doesDeed 25 = .ok (.invokevirtual 299, 3) := by decide +kernel
theorem dX12_doesDeed_28 : decode cX12_doesDeed 28 = .ok (.ireturn, 1) := by decide +kernel
theorem dX12_play_0 : decode cX12_play 0 = .ok (.iconst 0, 1) := by decide +kernel
theorem dX12_play_1 : decode cX12_play 1 = .ok (.istore_n 2, 1) := by decide +kernel
theorem dX12_play_2 : decode cX12_play 2 = .ok (.iload_n 2, 1) := by decide +kernel
theorem dX12_play_3 : decode cX12_play 3 = .ok (.iload_n 1, 1) := by decide +kernel
theorem dX12_play_4 : decode cX12_play 4 = .ok (.if_icmp .ge 17, 3) := by decide +kernel
theorem dX12_play_7 : decode cX12_play 7 = .ok (.aload_n 0, 1) := by decide +kernel
theorem dX12_play_8 : decode cX12_play 8 = .ok (.iload_n 2, 1) := by decide +kernel
theorem dX12_play_9 : decode cX12_play 9 = .ok (.invokevirtual 302, 3) := by decide +kernel
theorem dX12_play_12 : decode cX12_play 12 = .ok (.ifCond .eq 9, 3) := by decide +kernel
theorem dX12_play_15 : decode cX12_play 15 = .ok (.iinc 2 1, 3) := by decide +kernel
theorem dX12_play_18 : decode cX12_play 18 = .ok (.goto (-16), 3) := by decide +kernel
theorem dX12_play_21 : decode cX12_play 21 = .ok (.iload_n 2, 1) := by decide +kernel
theorem dX12_play_22 : decode cX12_play 22 = .ok (.ireturn, 1) := by decide +kernel
theorem dX12_layAll_0 : decode cX12_layAll 0 = .ok (.aload_n 0, 1) := by decide +kernel
theorem dX12_layAll_1 : decode cX12_layAll 1 = .ok (.iload_n 2, 1) := by decide +kernel
theorem dX12_layAll_2 : decode cX12_layAll 2 = .ok (.invokevirtual 266, 3) := by decide +kernel
theorem dX12_layAll_5 : decode cX12_layAll 5 = .ok (.ifCond .eq 15, 3) := by decide +kernel
theorem dX12_layAll_8 : decode cX12_layAll 8 = .ok (.aload_n 0, 1) := by decide +kernel
theorem dX12_layAll_9 : decode cX12_layAll 9 = .ok (.iload_n 1, 1) := by decide +kernel
theorem dX12_layAll_10 : decode cX12_layAll 10 = .ok (.invokevirtual 257, 3) := by decide +kernel
theorem dX12_layAll_13 : decode cX12_layAll 13 = .ok (.ifCond .eq 7, 3) := by decide +kernel
theorem dX12_layAll_16 : decode cX12_layAll 16 = .ok (.iconst 1, 1) := by decide +kernel
theorem dX12_layAll_17 : decode cX12_layAll 17 = .ok (.goto 4, 3) := by decide +kernel
theorem dX12_layAll_20 : decode cX12_layAll 20 = .ok (.iconst 0, 1) := by decide +kernel
theorem dX12_layAll_21 : decode cX12_layAll 21 = .ok (.ireturn, 1) := by decide +kernel
theorem dX12_till_0 : decode cX12_till 0 = .ok (.aload_n 0, 1) := by decide +kernel
theorem dX12_till_1 : decode cX12_till 1 = .ok (.iconst 0, 1) := by decide +kernel
theorem dX12_till_2 : decode cX12_till 2 = .ok (.putfield 78, 3) := by decide +kernel
theorem dX12_till_5 : decode cX12_till 5 = .ok (.aload_n 0, 1) := by decide +kernel
theorem dX12_till_6 : decode cX12_till 6 = .ok (.iload_n 1, 1) := by decide +kernel
theorem dX12_till_7 : decode cX12_till 7 = .ok (.iload_n 2, 1) := by decide +kernel
theorem dX12_till_8 : decode cX12_till 8 = .ok (.invokevirtual 305, 3) := by decide +kernel
theorem dX12_till_11 : decode cX12_till 11 = .ok (.ifCond .eq 14, 3) := by decide +kernel
theorem dX12_till_14 : decode cX12_till 14 = .ok (.aload_n 0, 1) := by decide +kernel
theorem dX12_till_15 : decode cX12_till 15 = .ok (.aload_n 0, 1) := by decide +kernel
theorem dX12_till_16 : decode cX12_till 16 = .ok (.invokevirtual 269, 3) := by decide +kernel
theorem dX12_till_19 : decode cX12_till 19 = .ok (.invokevirtual 308, 3) := by decide +kernel
theorem dX12_till_22 : decode cX12_till 22 = .ok (.goto 4, 3) := by decide +kernel
theorem dX12_till_25 : decode cX12_till 25 = .ok (.iconst (-1), 1) := by decide +kernel
theorem dX12_till_26 : decode cX12_till 26 = .ok (.ireturn, 1) := by decide +kernel
theorem dX12_allOwed_0 : decode cX12_allOwed 0 = .ok (.iconst 0, 1) := by decide +kernel
theorem dX12_allOwed_1 : decode cX12_allOwed 1 = .ok (.istore_n 1, 1) := by decide +kernel
theorem dX12_allOwed_2 : decode cX12_allOwed 2 = .ok (.iconst 0, 1) := by decide +kernel
theorem dX12_allOwed_3 : decode cX12_allOwed 3 = .ok (.istore_n 2, 1) := by decide +kernel
theorem dX12_allOwed_4 : decode cX12_allOwed 4 = .ok (.iload_n 2, 1) := by decide +kernel
theorem dX12_allOwed_5 : decode cX12_allOwed 5 = .ok (.aload_n 0, 1) := by decide +kernel
theorem dX12_allOwed_6 : decode cX12_allOwed 6 = .ok (.getfield 230, 3) := by decide +kernel
theorem dX12_allOwed_9 : decode cX12_allOwed 9 = .ok (.if_icmp .ge 17, 3) := by decide +kernel
theorem dX12_allOwed_12 : decode cX12_allOwed 12 = .ok (.iload_n 1, 1) := by decide +kernel
theorem dX12_allOwed_13 : decode cX12_allOwed 13 = .ok (.aload_n 0, 1) := by decide +kernel
theorem dX12_allOwed_14 : decode cX12_allOwed 14 = .ok (.iload_n 2, 1) := by decide +kernel
theorem dX12_allOwed_15 : decode cX12_allOwed 15 = .ok (.invokevirtual 311, 3) := by decide +kernel
theorem dX12_allOwed_18 : decode cX12_allOwed 18 = .ok (.iadd, 1) := by decide +kernel
theorem dX12_allOwed_19 : decode cX12_allOwed 19 = .ok (.istore_n 1, 1) := by decide +kernel
theorem dX12_allOwed_20 : decode cX12_allOwed 20 = .ok (.iinc 2 1, 3) := by decide +kernel
theorem dX12_allOwed_23 : decode cX12_allOwed 23 = .ok (.goto (-19), 3) := by decide +kernel
theorem dX12_allOwed_26 : decode cX12_allOwed 26 = .ok (.iload_n 1, 1) := by decide +kernel
theorem dX12_allOwed_27 : decode cX12_allOwed 27 = .ok (.ireturn, 1) := by decide +kernel
theorem dX12_sitters_0 : decode cX12_sitters 0 = .ok (.iconst 0, 1) := by decide +kernel
theorem dX12_sitters_1 : decode cX12_sitters 1 = .ok (.istore_n 1, 1) := by decide +kernel
theorem dX12_sitters_2 : decode cX12_sitters 2 = .ok (.iconst 0, 1) := by decide +kernel
theorem dX12_sitters_3 : decode cX12_sitters 3 = .ok (.istore_n 2, 1) := by decide +kernel
theorem dX12_sitters_4 : decode cX12_sitters 4 = .ok (.iload_n 2, 1) := by decide +kernel
theorem dX12_sitters_5 : decode cX12_sitters 5 = .ok (.aload_n 0, 1) := by decide +kernel
theorem dX12_sitters_6 : decode cX12_sitters 6 = .ok (.getfield 230, 3) := by decide +kernel
theorem dX12_sitters_9 : decode cX12_sitters 9 = .ok (.if_icmp .ge 30, 3) := by decide +kernel
theorem dX12_sitters_12 : decode cX12_sitters 12 = .ok (.iload_n 1, 1) := by decide +kernel
theorem dX12_sitters_13 : decode cX12_sitters 13 = .ok (.aload_n 0, 1) := by decide +kernel
theorem dX12_sitters_14 : decode cX12_sitters 14 = .ok (.getfield 44, 3) := by decide +kernel
theorem dX12_sitters_17 : decode cX12_sitters 17 = .ok (.iload_n 2, 1) := by decide +kernel
theorem dX12_sitters_18 : decode cX12_sitters 18 = .ok (.iaload, 1) := by decide +kernel
theorem dX12_sitters_19 : decode cX12_sitters 19 = .ok (.bipush 6, 2) := by decide +kernel
theorem dX12_sitters_21 : decode cX12_sitters 21 = .ok (.if_icmp .ge 9, 3) := by decide +kernel
theorem dX12_sitters_24 : decode cX12_sitters 24 = .ok (.iconst 1, 1) := by decide +kernel
theorem dX12_sitters_25 : decode cX12_sitters 25 = .ok (.iload_n 2, 1) := by decide +kernel
theorem dX12_sitters_26 : decode cX12_sitters 26 = .ok (.ishl, 1) := by decide +kernel
theorem dX12_sitters_27 : decode cX12_sitters 27 = .ok (.goto 4, 3) := by decide +kernel
theorem dX12_sitters_30 : decode cX12_sitters 30 = .ok (.iconst 0, 1) := by decide +kernel
theorem dX12_sitters_31 : decode cX12_sitters 31 = .ok (.ior, 1) := by decide +kernel
theorem dX12_sitters_32 : decode cX12_sitters 32 = .ok (.istore_n 1, 1) := by decide +kernel
theorem dX12_sitters_33 : decode cX12_sitters 33 = .ok (.iinc 2 1, 3) := by decide +kernel
theorem dX12_sitters_36 : decode cX12_sitters 36 = .ok (.goto (-32), 3) := by decide +kernel
theorem dX12_sitters_39 : decode cX12_sitters 39 = .ok (.iload_n 1, 1) := by decide +kernel
theorem dX12_sitters_40 : decode cX12_sitters 40 = .ok (.ireturn, 1) := by decide +kernel
theorem dX12_ofState_0 : decode cX12_ofState 0 = .ok (.iload_n 1, 1) := by decide +kernel
theorem dX12_ofState_1 : decode cX12_ofState 1 = .ok (.bipush 10, 2) := by decide +kernel
theorem dX12_ofState_3 : decode cX12_ofState 3 = .ok (.irem, 1) := by decide +kernel
theorem dX12_ofState_4 : decode cX12_ofState 4 = .ok (.istore_n 2, 1) := by decide +kernel
theorem dX12_ofState_5 : decode cX12_ofState 5 = .ok (.iload_n 1, 1) := by decide +kernel
theorem dX12_ofState_6 : decode cX12_ofState 6 = .ok (.bipush 100, 2) := by decide +kernel
theorem dX12_ofState_8 : decode cX12_ofState 8 = .ok (.if_icmp .lt 49, 3) := by decide +kernel
theorem dX12_ofState_11 : decode cX12_ofState 11 = .ok (.iload_n 1, 1) := by decide +kernel
theorem dX12_ofState_12 : decode cX12_ofState 12 = .ok (.sipush 160, 3) := by decide +kernel
theorem dX12_ofState_15 : decode cX12_ofState 15 = .ok (.if_icmp .ge 40, 3) := by decide +kernel
theorem dX12_ofState_18 : decode cX12_ofState 18 = .ok (.aload_n 0, 1) := by decide +kernel
theorem dX12_ofState_19 : decode cX12_ofState 19 = .ok (.iload_n 1, 1) := by decide +kernel
theorem dX12_ofState_20 : decode cX12_ofState 20 = .ok (.bipush 100, 2) := by decide +kernel
theorem dX12_ofState_22 : decode cX12_ofState 22 = .ok (.isub, 1) := by decide +kernel
theorem dX12_ofState_23 : decode cX12_ofState 23 = .ok (.bipush 10, 2) := by decide +kernel
theorem dX12_ofState_25 : decode cX12_ofState 25 = .ok (.idiv, 1) := by decide +kernel
theorem dX12_ofState_26 : decode cX12_ofState 26 = .ok (.invokevirtual 260, 3) := by decide +kernel
theorem dX12_ofState_29 : decode cX12_ofState 29 = .ok (.ifCond .eq 26, 3) := by decide +kernel
theorem dX12_ofState_32 : decode cX12_ofState 32 = .ok (.aload_n 0, 1) := by decide +kernel
theorem dX12_ofState_33 : decode cX12_ofState 33 = .ok (.iload_n 2, 1) := by decide +kernel
theorem dX12_ofState_34 : decode cX12_ofState 34 = .ok (.invokevirtual 260, 3) := by decide +kernel
theorem dX12_ofState_37 : decode cX12_ofState 37 = .ok (.ifCond .eq 18, 3) := by decide +kernel
theorem dX12_ofState_40 : decode cX12_ofState 40 = .ok (.aload_n 0, 1) := by decide +kernel
theorem dX12_ofState_41 : decode cX12_ofState 41 = .ok (.iload_n 1, 1) := by decide +kernel
theorem dX12_ofState_42 : decode cX12_ofState 42 = .ok (.bipush 100, 2) := by decide +kernel
theorem dX12_ofState_44 : decode cX12_ofState 44 = .ok (.isub, 1) := by decide +kernel
theorem dX12_ofState_45 : decode cX12_ofState 45 = .ok (.bipush 10, 2) := by decide +kernel
theorem dX12_ofState_47 : decode cX12_ofState 47 = .ok (.idiv, 1) := by decide +kernel
theorem dX12_ofState_48 : decode cX12_ofState 48 = .ok (.iload_n 2, 1) := by decide +kernel
theorem dX12_ofState_49 : decode cX12_ofState 49 = .ok (.invokevirtual 254, 3) := by decide +kernel
theorem dX12_ofState_52 : decode cX12_ofState 52 = .ok (.goto 4, 3) := by decide +kernel
theorem dX12_ofState_55 : decode cX12_ofState 55 = .ok (.iconst (-1), 1) := by decide +kernel
theorem dX12_ofState_56 : decode cX12_ofState 56 = .ok (.ireturn, 1) := by decide +kernel
theorem dX12_ofState_57 : decode cX12_ofState 57 = .ok (.iload_n 1, 1) := by decide +kernel
theorem dX12_ofState_58 : decode cX12_ofState 58 = .ok (.bipush 10, 2) := by decide +kernel
theorem dX12_ofState_60 : decode cX12_ofState 60 = .ok (.idiv, 1) := by decide +kernel
theorem dX12_ofState_61 : decode cX12_ofState 61 = .ok (.tableswitch 68 0 2 #[27, 30, 49], 27) := by decide +kernel
theorem dX12_ofState_88 : decode cX12_ofState 88 = .ok (.goto 43, 3) := by decide +kernel
theorem dX12_ofState_91 : decode cX12_ofState 91 = .ok (.iload_n 2, 1) := by decide +kernel
theorem dX12_ofState_92 : decode cX12_ofState 92 = .ok (.aload_n 0, 1) := by decide +kernel
theorem dX12_ofState_93 : decode cX12_ofState 93 = .ok (.getfield 230, 3) := by decide +kernel
theorem dX12_ofState_96 : decode cX12_ofState 96 = .ok (.if_icmp .ge 12, 3) := by decide +kernel
theorem dX12_ofState_99 : decode cX12_ofState 99 = .ok (.aload_n 0, 1) := by decide +kernel
theorem dX12_ofState_100 : decode cX12_ofState 100 = .ok (.getfield 41, 3) := by decide +kernel
theorem dX12_ofState_103 : decode cX12_ofState 103 = .ok (.iload_n 2, 1) := by decide +kernel
theorem dX12_ofState_104 : decode cX12_ofState 104 = .ok (.iaload, 1) := by decide +kernel
theorem dX12_ofState_105 : decode cX12_ofState 105 = .ok (.goto 4, 3) := by decide +kernel
theorem dX12_ofState_108 : decode cX12_ofState 108 = .ok (.iconst (-1), 1) := by decide +kernel
theorem dX12_ofState_109 : decode cX12_ofState 109 = .ok (.ireturn, 1) := by decide +kernel
theorem dX12_ofState_110 : decode cX12_ofState 110 = .ok (.iload_n 2, 1) := by decide +kernel
theorem dX12_ofState_111 : decode cX12_ofState 111 = .ok (.aload_n 0, 1) := by decide +kernel
theorem dX12_ofState_112 : decode cX12_ofState 112 = .ok (.getfield 230, 3) := by decide +kernel
theorem dX12_ofState_115 : decode cX12_ofState 115 = .ok (.if_icmp .ge 12, 3) := by decide +kernel
theorem dX12_ofState_118 : decode cX12_ofState 118 = .ok (.aload_n 0, 1) := by decide +kernel
theorem dX12_ofState_119 : decode cX12_ofState 119 = .ok (.getfield 44, 3) := by decide +kernel
theorem dX12_ofState_122 : decode cX12_ofState 122 = .ok (.iload_n 2, 1) := by decide +kernel
theorem dX12_ofState_123 : decode cX12_ofState 123 = .ok (.iaload, 1) := by decide +kernel
theorem dX12_ofState_124 : decode cX12_ofState 124 = .ok (.goto 4, 3) := by decide +kernel
theorem dX12_ofState_127 : decode cX12_ofState 127 = .ok (.iconst (-1), 1) := by decide +kernel
theorem dX12_ofState_128 : decode cX12_ofState 128 = .ok (.ireturn, 1) := by decide +kernel
theorem dX12_ofState_129 : decode cX12_ofState 129 = .ok (.iconst (-1), 1) := by decide +kernel
theorem dX12_ofState_130 : decode cX12_ofState 130 = .ok (.ireturn, 1) := by decide +kernel
theorem dX12_ofState_131 : decode cX12_ofState 131 = .ok (.iload_n 1, 1) := by decide +kernel
theorem dX12_ofState_132 : decode cX12_ofState 132 = .ok (.tableswitch 61 0 4 #[36, 41, 46, 51, 56], 36) := by decide +kernel
theorem dX12_ofState_168 : decode cX12_ofState 168 = .ok (.aload_n 0, 1) := by decide +kernel
theorem dX12_ofState_169 : decode cX12_ofState 169 = .ok (.getfield 233, 3) := by decide +kernel
theorem dX12_ofState_172 : decode cX12_ofState 172 = .ok (.ireturn, 1) := by decide +kernel
theorem dX12_ofState_173 : decode cX12_ofState 173 = .ok (.aload_n 0, 1) := by decide +kernel
theorem dX12_ofState_174 : decode cX12_ofState 174 = .ok (.invokevirtual 314, 3) := by decide +kernel
theorem dX12_ofState_177 : decode cX12_ofState 177 = .ok (.ireturn, 1) := by decide +kernel
theorem dX12_ofState_178 : decode cX12_ofState 178 = .ok (.aload_n 0, 1) := by decide +kernel
theorem dX12_ofState_179 : decode cX12_ofState 179 = .ok (.getfield 236, 3) := by decide +kernel
theorem dX12_ofState_182 : decode cX12_ofState 182 = .ok (.ireturn, 1) := by decide +kernel
theorem dX12_ofState_183 : decode cX12_ofState 183 = .ok (.aload_n 0, 1) := by decide +kernel
theorem dX12_ofState_184 : decode cX12_ofState 184 = .ok (.getfield 239, 3) := by decide +kernel
theorem dX12_ofState_187 : decode cX12_ofState 187 = .ok (.ireturn, 1) := by decide +kernel
theorem dX12_ofState_188 : decode cX12_ofState 188 = .ok (.aload_n 0, 1) := by decide +kernel
theorem dX12_ofState_189 : decode cX12_ofState 189 = .ok (.invokevirtual 317, 3) := by decide +kernel
theorem dX12_ofState_192 : decode cX12_ofState 192 = .ok (.ireturn, 1) := by decide +kernel
theorem dX12_ofState_193 : decode cX12_ofState 193 = .ok (.iconst (-1), 1) := by decide +kernel
theorem dX12_ofState_194 : decode cX12_ofState 194 = .ok (.ireturn, 1) := by decide +kernel
theorem dX12_state_0 : decode cX12_state 0 = .ok (.aload_n 0, 1) := by decide +kernel
theorem dX12_state_1 : decode cX12_state 1 = .ok (.iconst 0, 1) := by decide +kernel
theorem dX12_state_2 : decode cX12_state 2 = .ok (.putfield 78, 3) := by decide +kernel
theorem dX12_state_5 : decode cX12_state 5 = .ok (.aload_n 0, 1) := by decide +kernel
theorem dX12_state_6 : decode cX12_state 6 = .ok (.iload_n 1, 1) := by decide +kernel
theorem dX12_state_7 : decode cX12_state 7 = .ok (.iload_n 2, 1) := by decide +kernel
theorem dX12_state_8 : decode cX12_state 8 = .ok (.invokevirtual 305, 3) := by decide +kernel
theorem dX12_state_11 : decode cX12_state 11 = .ok (.ifCond .eq 33, 3) := by decide +kernel
theorem dX12_state_14 : decode cX12_state 14 = .ok (.iload_n 3, 1) := by decide +kernel
theorem dX12_state_15 : decode cX12_state 15 = .ok (.iconst 0, 1) := by decide +kernel
theorem dX12_state_16 : decode cX12_state 16 = .ok (.aload_n 0, 1) := by decide +kernel
theorem dX12_state_17 : decode cX12_state 17 = .ok (.invokevirtual 269, 3) := by decide +kernel
theorem dX12_state_20 : decode cX12_state 20 = .ok (.invokestatic 90, 3) := by decide +kernel
theorem dX12_state_23 : decode cX12_state 23 = .ok (.ifCond .eq 21, 3) := by decide +kernel
theorem dX12_state_26 : decode cX12_state 26 = .ok (.aload_n 0, 1) := by decide +kernel
theorem dX12_state_27 : decode cX12_state 27 = .ok (.iload_n 3, 1) := by decide +kernel
theorem dX12_state_28 : decode cX12_state 28 = .ok (.invokevirtual 308, 3) := by decide +kernel
theorem dX12_state_31 : decode cX12_state 31 = .ok (.iload_n 3, 1) := by decide +kernel
theorem dX12_state_32 : decode cX12_state 32 = .ok (.if_icmp .ne 12, 3) := by decide +kernel
theorem dX12_state_35 : decode cX12_state 35 = .ok (.aload_n 0, 1) := by decide +kernel
theorem dX12_state_36 : decode cX12_state 36 = .ok (.iload 4, 2) := by decide +kernel
theorem dX12_state_38 : decode cX12_state 38 = .ok (.invokevirtual 320, 3) := by decide +kernel
theorem dX12_state_41 : decode cX12_state 41 = .ok (.goto 4, 3) := by decide +kernel
theorem dX12_state_44 : decode cX12_state 44 = .ok (.iconst (-1), 1) := by decide +kernel
theorem dX12_state_45 : decode cX12_state 45 = .ok (.ireturn, 1) := by decide +kernel
theorem dX12_allHate_0 : decode cX12_allHate 0 = .ok (.iconst 0, 1) := by decide +kernel
theorem dX12_allHate_1 : decode cX12_allHate 1 = .ok (.istore_n 2, 1) := by decide +kernel
theorem dX12_allHate_2 : decode cX12_allHate 2 = .ok (.iload_n 2, 1) := by decide +kernel
theorem dX12_allHate_3 : decode cX12_allHate 3 = .ok (.aload_n 0, 1) := by decide +kernel
theorem dX12_allHate_4 : decode cX12_allHate 4 = .ok (.getfield 230, 3) := by decide +kernel
theorem dX12_allHate_7 : decode cX12_allHate 7 = .ok (.if_icmp .ge 49, 3) := by decide +kernel
theorem dX12_allHate_10 : decode cX12_allHate 10 = .ok (.iconst 0, 1) := by decide +kernel
theorem dX12_allHate_11 : decode cX12_allHate 11 = .ok (.istore_n 3, 1) := by decide +kernel
theorem dX12_allHate_12 : decode cX12_allHate 12 = .ok (.iload_n 3, 1) := by decide +kernel
theorem dX12_allHate_13 : decode cX12_allHate 13 = .ok (.iload_n 2, 1) := by decide +kernel
theorem dX12_allHate_14 : decode cX12_allHate 14 = .ok (.if_icmp .ge 36, 3) := by decide +kernel
theorem dX12_allHate_17 : decode cX12_allHate 17 = .ok (.iload_n 1, 1) := by decide +kernel
theorem dX12_allHate_18 : decode cX12_allHate 18 = .ok (.iload_n 2, 1) := by decide +kernel
theorem dX12_allHate_19 : decode cX12_allHate 19 = .ok (.invokestatic 82, 3) := by decide +kernel
theorem dX12_allHate_22 : decode cX12_allHate 22 = .ok (.ifCond .eq 22, 3) := by decide +kernel
theorem dX12_allHate_25 : decode cX12_allHate 25 = .ok (.iload_n 1, 1) := by decide +kernel
theorem dX12_allHate_26 : decode cX12_allHate 26 = .ok (.iload_n 3, 1) := by decide +kernel
theorem dX12_allHate_27 : decode cX12_allHate 27 = .ok (.invokestatic 82, 3) := by decide +kernel
theorem dX12_allHate_30 : decode cX12_allHate 30 = .ok (.ifCond .eq 14, 3) := by decide +kernel
theorem dX12_allHate_33 : decode cX12_allHate 33 = .ok (.aload_n 0, 1) := by decide +kernel
theorem dX12_allHate_34 : decode cX12_allHate 34 = .ok (.iload_n 2, 1) := by decide +kernel
theorem dX12_allHate_35 : decode cX12_allHate 35 = .ok (.iload_n 3, 1) := by decide +kernel
theorem dX12_allHate_36 : decode cX12_allHate 36 = .ok (.invokevirtual 275, 3) := by decide +kernel
theorem dX12_allHate_39 : decode cX12_allHate 39 = .ok (.ifCond .ne 5, 3) := by decide +kernel
theorem dX12_allHate_42 : decode cX12_allHate 42 = .ok (.iconst 0, 1) := by decide +kernel
theorem dX12_allHate_43 : decode cX12_allHate 43 = .ok (.ireturn, 1) := by decide +kernel
theorem dX12_allHate_44 : decode cX12_allHate 44 = .ok (.iinc 3 1, 3) := by decide +kernel
theorem dX12_allHate_47 : decode cX12_allHate 47 = .ok (.goto (-35), 3) := by decide +kernel
theorem dX12_allHate_50 : decode cX12_allHate 50 = .ok (.iinc 2 1, 3) := by decide +kernel
theorem dX12_allHate_53 : decode cX12_allHate 53 = .ok (.goto (-51), 3) := by decide +kernel
theorem dX12_allHate_56 : decode cX12_allHate 56 = .ok (.iconst 1, 1) := by decide +kernel
theorem dX12_allHate_57 : decode cX12_allHate 57 = .ok (.ireturn, 1) := by decide +kernel
theorem dX12_owesThem_0 : decode cX12_owesThem 0 = .ok (.iconst 0, 1) := by decide +kernel
theorem dX12_owesThem_1 : decode cX12_owesThem 1 = .ok (.istore_n 3, 1) := by decide +kernel
theorem dX12_owesThem_2 : decode cX12_owesThem 2 = .ok (.iconst 0, 1) := by decide +kernel
theorem dX12_owesThem_3 : decode cX12_owesThem 3 = .ok (.istore 4, 2) := by decide +kernel
theorem dX12_owesThem_5 : decode cX12_owesThem 5 = .ok (.iload 4, 2) := by decide +kernel
theorem dX12_owesThem_7 : decode cX12_owesThem 7 = .ok (.aload_n 0, 1) := by decide +kernel
theorem dX12_owesThem_8 : decode cX12_owesThem 8 = .ok (.getfield 230, 3) := by decide +kernel
theorem dX12_owesThem_11 : decode cX12_owesThem 11 = .ok (.if_icmp .ge 32, 3) := by decide +kernel
theorem dX12_owesThem_14 : decode cX12_owesThem 14 = .ok (.iload_n 3, 1) := by decide +kernel
theorem dX12_owesThem_15 : decode cX12_owesThem 15 = .ok (.iload_n 2, 1) := by decide +kernel
theorem dX12_owesThem_16 : decode cX12_owesThem 16 = .ok (.iload 4, 2) := by decide +kernel
theorem dX12_owesThem_18 : decode cX12_owesThem 18 = .ok (.invokestatic 82, 3) := by decide +kernel
theorem dX12_owesThem_21 : decode cX12_owesThem 21 = .ok (.ifCond .eq 13, 3) := by decide +kernel
theorem dX12_owesThem_24 : decode cX12_owesThem 24 = .ok (.aload_n 0, 1) := by decide +kernel
theorem dX12_owesThem_25 : decode cX12_owesThem 25 = .ok (.iload_n 1, 1) := by decide +kernel
theorem dX12_owesThem_26 : decode cX12_owesThem 26 = .ok (.iload 4, 2) := by decide +kernel
theorem dX12_owesThem_28 : decode cX12_owesThem 28 = .ok (.invokevirtual 254, 3) := by decide +kernel
theorem dX12_owesThem_31 : decode cX12_owesThem 31 = .ok (.goto 4, 3) := by decide +kernel
theorem dX12_owesThem_34 : decode cX12_owesThem 34 = .ok (.iconst 0, 1) := by decide +kernel
theorem dX12_owesThem_35 : decode cX12_owesThem 35 = .ok (.iadd, 1) := by decide +kernel
theorem dX12_owesThem_36 : decode cX12_owesThem 36 = .ok (.istore_n 3, 1) := by decide +kernel
theorem dX12_owesThem_37 : decode cX12_owesThem 37 = .ok (.iinc 4 1, 3) := by decide +kernel
theorem dX12_owesThem_40 : decode cX12_owesThem 40 = .ok (.goto (-35), 3) := by decide +kernel
theorem dX12_owesThem_43 : decode cX12_owesThem 43 = .ok (.iload_n 3, 1) := by decide +kernel
theorem dX12_owesThem_44 : decode cX12_owesThem 44 = .ok (.ireturn, 1) := by decide +kernel
theorem dX12_court_0 : decode cX12_court 0 = .ok (.aload_n 0, 1) := by decide +kernel
theorem dX12_court_1 : decode cX12_court 1 = .ok (.iconst 0, 1) := by decide +kernel
theorem dX12_court_2 : decode cX12_court 2 = .ok (.putfield 78, 3) := by decide +kernel
theorem dX12_court_5 : decode cX12_court 5 = .ok (.aload_n 0, 1) := by decide +kernel
theorem dX12_court_6 : decode cX12_court 6 = .ok (.iload_n 1, 1) := by decide +kernel
theorem dX12_court_7 : decode cX12_court 7 = .ok (.invokevirtual 257, 3) := by decide +kernel
theorem dX12_court_10 : decode cX12_court 10 = .ok (.ifCond .eq 11, 3) := by decide +kernel
theorem dX12_court_13 : decode cX12_court 13 = .ok (.aload_n 0, 1) := by decide +kernel
theorem dX12_court_14 : decode cX12_court 14 = .ok (.iload_n 2, 1) := by decide +kernel
theorem dX12_court_15 : decode cX12_court 15 = .ok (.invokevirtual 260, 3) := by decide +kernel
theorem dX12_court_18 : decode cX12_court 18 = .ok (.ifCond .ne 5, 3) := by decide +kernel
theorem dX12_court_21 : decode cX12_court 21 = .ok (.iconst (-1), 1) := by decide +kernel
theorem dX12_court_22 : decode cX12_court 22 = .ok (.ireturn, 1) := by decide +kernel
theorem dX12_court_23 : decode cX12_court 23 = .ok (.iconst 0, 1) := by decide +kernel
theorem dX12_court_24 : decode cX12_court 24 = .ok (.istore 4, 2) := by decide +kernel
theorem dX12_court_26 : decode cX12_court 26 = .ok (.iconst 1, 1) := by decide +kernel
theorem dX12_court_27 : decode cX12_court 27 = .ok (.istore 5, 2) := by decide +kernel
theorem dX12_court_29 : decode cX12_court 29 = .ok (.iload 5, 2) := by decide +kernel
theorem dX12_court_31 : decode cX12_court 31 = .ok (.iconst 1, 1) := by decide +kernel
theorem dX12_court_32 : decode cX12_court 32 = .ok (.aload_n 0, 1) := by decide +kernel
theorem dX12_court_33 : decode cX12_court 33 = .ok (.getfield 230, 3) := by decide +kernel
theorem dX12_court_36 : decode cX12_court 36 = .ok (.ishl, 1) := by decide +kernel
theorem dX12_court_37 : decode cX12_court 37 = .ok (.if_icmp .ge 44, 3) := by decide +kernel
theorem dX12_court_40 : decode cX12_court 40 = .ok (.aload_n 0, 1) := by decide +kernel
theorem dX12_court_41 : decode cX12_court 41 = .ok (.iload_n 2, 1) := by decide +kernel
theorem dX12_court_42 : decode cX12_court 42 = .ok (.iload 5, 2) := by decide +kernel
theorem dX12_court_44 : decode cX12_court 44 = .ok (.invokevirtual 323, 3) := by decide +kernel
theorem dX12_court_47 : decode cX12_court 47 = .ok (.aload_n 0, 1) := by decide +kernel
theorem dX12_court_48 : decode cX12_court 48 = .ok (.iload_n 2, 1) := by decide +kernel
theorem dX12_court_49 : decode cX12_court 49 = .ok (.iload 4, 2) := by decide +kernel
theorem dX12_court_51 : decode cX12_court 51 = .ok (.invokevirtual 323, 3) := by decide +kernel
theorem dX12_court_54 : decode cX12_court 54 = .ok (.if_icmp .le 17, 3) := by decide +kernel
theorem dX12_court_57 : decode cX12_court 57 = .ok (.aload_n 0, 1) := by decide +kernel
theorem dX12_court_58 : decode cX12_court 58 = .ok (.iload 5, 2) := by decide +kernel
theorem dX12_court_60 : decode cX12_court 60 = .ok (.invokevirtual 326, 3) := by decide +kernel
theorem dX12_court_63 : decode cX12_court 63 = .ok (.ifCond .eq 8, 3) := by decide +kernel
theorem dX12_court_66 : decode cX12_court 66 = .ok (.iload 5, 2) := by decide +kernel
theorem dX12_court_68 : decode cX12_court 68 = .ok (.goto 5, 3) := by decide +kernel
theorem dX12_court_71 : decode cX12_court 71 = .ok (.iload 4, 2) := by decide +kernel
theorem dX12_court_73 : decode cX12_court 73 = .ok (.istore 4, 2) := by decide +kernel
theorem dX12_court_75 : decode cX12_court 75 = .ok (.iinc 5 1, 3) := by decide +kernel
theorem dX12_court_78 : decode cX12_court 78 = .ok (.goto (-49), 3) := by decide +kernel
theorem dX12_court_81 : decode cX12_court 81 = .ok (.iload_n 3, 1) := by decide +kernel
theorem dX12_court_82 : decode cX12_court 82 = .ok (.ifCond .eq 8, 3) := by decide +kernel
theorem dX12_court_85 : decode cX12_court 85 = .ok (.iload 4, 2) := by decide +kernel
theorem dX12_court_87 : decode cX12_court 87 = .ok (.goto 10, 3) := by decide +kernel
theorem dX12_court_90 : decode cX12_court 90 = .ok (.aload_n 0, 1) := by decide +kernel
theorem dX12_court_91 : decode cX12_court 91 = .ok (.iload_n 2, 1) := by decide +kernel
theorem dX12_court_92 : decode cX12_court 92 = .ok (.iload 4, 2) := by decide +kernel
theorem dX12_court_94 : decode cX12_court 94 = .ok (.invokevirtual 323, 3) := by decide +kernel
theorem dX12_court_97 : decode cX12_court 97 = .ok (.ireturn, 1) := by decide +kernel
theorem dX12_rota_0 : decode cX12_rota 0 = .ok (.aload_n 0, 1) := by decide +kernel
theorem dX12_rota_1 : decode cX12_rota 1 = .ok (.iconst 0, 1) := by decide +kernel
theorem dX12_rota_2 : decode cX12_rota 2 = .ok (.putfield 78, 3) := by decide +kernel
theorem dX12_rota_5 : decode cX12_rota 5 = .ok (.aload_n 0, 1) := by decide +kernel
theorem dX12_rota_6 : decode cX12_rota 6 = .ok (.iload_n 1, 1) := by decide +kernel
theorem dX12_rota_7 : decode cX12_rota 7 = .ok (.invokevirtual 257, 3) := by decide +kernel
theorem dX12_rota_10 : decode cX12_rota 10 = .ok (.ifCond .ne 6, 3) := by decide +kernel
theorem dX12_rota_13 : decode cX12_rota 13 = .ok (.bipush (-2), 2) := by decide +kernel
theorem dX12_rota_15 : decode cX12_rota 15 = .ok (.ireturn, 1) := by decide +kernel
theorem dX12_rota_16 : decode cX12_rota 16 = .ok (.iconst (-1), 1) := by decide +kernel
theorem dX12_rota_17 : decode cX12_rota 17 = .ok (.istore_n 3, 1) := by decide +kernel
theorem dX12_rota_18 : decode cX12_rota 18 = .ok (.iconst 0, 1) := by decide +kernel
theorem dX12_rota_19 : decode cX12_rota 19 = .ok (.istore 4, 2) := by decide +kernel
theorem dX12_rota_21 : decode cX12_rota 21 = .ok (.iload 4, 2) := by decide +kernel
theorem dX12_rota_23 : decode cX12_rota 23 = .ok (.aload_n 0, 1) := by decide +kernel
theorem dX12_rota_24 : decode cX12_rota 24 = .ok (.getfield 230, 3) := by decide +kernel
theorem dX12_rota_27 : decode cX12_rota 27 = .ok (.if_icmp .ge 35, 3) := by decide +kernel
theorem dX12_rota_30 : decode cX12_rota 30 = .ok (.iload_n 3, 1) := by decide +kernel
theorem dX12_rota_31 : decode cX12_rota 31 = .ok (.iconst (-1), 1) := by decide +kernel
theorem dX12_rota_32 : decode cX12_rota 32 = .ok (.if_icmp .eq 17, 3) := by decide +kernel
theorem dX12_rota_35 : decode cX12_rota 35 = .ok (.aload_n 0, 1) := by decide +kernel
theorem dX12_rota_36 : decode cX12_rota 36 = .ok (.iload 4, 2) := by decide +kernel
theorem dX12_rota_38 : decode cX12_rota 38 = .ok (.invokevirtual 329, 3) := by decide +kernel
theorem dX12_rota_41 : decode cX12_rota 41 = .ok (.aload_n 0, 1) := by decide +kernel
theorem dX12_rota_42 : decode cX12_rota 42 = .ok (.iload_n 3, 1) := by decide +kernel
theorem dX12_rota_43 : decode cX12_rota 43 = .ok (.invokevirtual 329, 3) := by decide +kernel
theorem dX12_rota_46 : decode cX12_rota 46 = .ok (.if_icmp .le 8, 3) := by decide +kernel
theorem dX12_rota_49 : decode cX12_rota 49 = .ok (.iload 4, 2) := by decide +kernel
theorem dX12_rota_51 : decode cX12_rota 51 = .ok (.goto 4, 3) := by decide +kernel
theorem dX12_rota_54 : decode cX12_rota 54 = .ok (.iload_n 3, 1) := by decide +kernel
theorem dX12_rota_55 : decode cX12_rota 55 = .ok (.istore_n 3, 1) := by decide +kernel
theorem dX12_rota_56 : decode cX12_rota 56 = .ok (.iinc 4 1, 3) := by decide +kernel
theorem dX12_rota_59 : decode cX12_rota 59 = .ok (.goto (-38), 3) := by decide +kernel
theorem dX12_rota_62 : decode cX12_rota 62 = .ok (.iload_n 2, 1) := by decide +kernel
theorem dX12_rota_63 : decode cX12_rota 63 = .ok (.ifCond .eq 7, 3) := by decide +kernel
theorem dX12_rota_66 : decode cX12_rota 66 = .ok (.iload_n 3, 1) := by decide +kernel
theorem dX12_rota_67 : decode cX12_rota 67 = .ok (.goto 17, 3) := by decide +kernel
theorem dX12_rota_70 : decode cX12_rota 70 = .ok (.iload_n 3, 1) := by decide +kernel
theorem dX12_rota_71 : decode cX12_rota 71 = .ok (.iconst (-1), 1) := by decide +kernel
theorem dX12_rota_72 : decode cX12_rota 72 = .ok (.if_icmp .ne 7, 3) := by decide +kernel
theorem dX12_rota_75 : decode cX12_rota 75 = .ok (.iconst 0, 1) := by decide +kernel
theorem dX12_rota_76 : decode cX12_rota 76 = .ok (.goto 8, 3) := by decide +kernel
theorem dX12_rota_79 : decode cX12_rota 79 = .ok (.aload_n 0, 1) := by decide +kernel
theorem dX12_rota_80 : decode cX12_rota 80 = .ok (.iload_n 3, 1) := by decide +kernel
theorem dX12_rota_81 : decode cX12_rota 81 = .ok (.invokevirtual 329, 3) := by decide +kernel
theorem dX12_rota_84 : decode cX12_rota 84 = .ok (.ireturn, 1) := by decide +kernel
theorem dX12_netOf_0 : decode cX12_netOf 0 = .ok (.aload_n 0, 1) := by decide +kernel
theorem dX12_netOf_1 : decode cX12_netOf 1 = .ok (.iload_n 1, 1) := by decide +kernel
theorem dX12_netOf_2 : decode cX12_netOf 2 = .ok (.invokevirtual 329, 3) := by decide +kernel
theorem dX12_netOf_5 : decode cX12_netOf 5 = .ok (.aload_n 0, 1) := by decide +kernel
theorem dX12_netOf_6 : decode cX12_netOf 6 = .ok (.iload_n 1, 1) := by decide +kernel
theorem dX12_netOf_7 : decode cX12_netOf 7 = .ok (.invokevirtual 311, 3) := by decide +kernel
theorem dX12_netOf_10 : decode cX12_netOf 10 = .ok (.isub, 1) := by decide +kernel
theorem dX12_netOf_11 : decode cX12_netOf 11 = .ok (.ireturn, 1) := by decide +kernel
theorem dX12_net_0 : decode cX12_net 0 = .ok (.aload_n 0, 1) := by decide +kernel
theorem dX12_net_1 : decode cX12_net 1 = .ok (.iconst 0, 1) := by decide +kernel
theorem dX12_net_2 : decode cX12_net 2 = .ok (.putfield 78, 3) := by decide +kernel
theorem dX12_net_5 : decode cX12_net 5 = .ok (.aload_n 0, 1) := by decide +kernel
theorem dX12_net_6 : decode cX12_net 6 = .ok (.iload_n 1, 1) := by decide +kernel
theorem dX12_net_7 : decode cX12_net 7 = .ok (.invokevirtual 257, 3) := by decide +kernel
theorem dX12_net_10 : decode cX12_net 10 = .ok (.ifCond .eq 19, 3) := by decide +kernel
theorem dX12_net_13 : decode cX12_net 13 = .ok (.aload_n 0, 1) := by decide +kernel
theorem dX12_net_14 : decode cX12_net 14 = .ok (.iload_n 2, 1) := by decide +kernel
theorem dX12_net_15 : decode cX12_net 15 = .ok (.invokevirtual 260, 3) := by decide +kernel
theorem dX12_net_18 : decode cX12_net 18 = .ok (.ifCond .eq 11, 3) := by decide +kernel
theorem dX12_net_21 : decode cX12_net 21 = .ok (.aload_n 0, 1) := by decide +kernel
theorem dX12_net_22 : decode cX12_net 22 = .ok (.iload_n 2, 1) := by decide +kernel
theorem dX12_net_23 : decode cX12_net 23 = .ok (.invokevirtual 332, 3) := by decide +kernel
theorem dX12_net_26 : decode cX12_net 26 = .ok (.goto 6, 3) := by decide +kernel
theorem dX12_net_29 : decode cX12_net 29 = .ok (.sipush (-999), 3) := by decide +kernel
theorem dX12_net_32 : decode cX12_net 32 = .ok (.ireturn, 1) := by decide +kernel
theorem dX12_netsOf_0 : decode cX12_netsOf 0 = .ok (.iconst 0, 1) := by decide +kernel
theorem dX12_netsOf_1 : decode cX12_netsOf 1 = .ok (.istore_n 2, 1) := by decide +kernel
theorem dX12_netsOf_2 : decode cX12_netsOf 2 = .ok (.iconst 0, 1) := by decide +kernel
theorem dX12_netsOf_3 : decode cX12_netsOf 3 = .ok (.istore_n 3, 1) := by decide +kernel
theorem dX12_netsOf_4 : decode cX12_netsOf 4 = .ok (.iload_n 3, 1) := by decide +kernel
theorem dX12_netsOf_5 : decode cX12_netsOf 5 = .ok (.aload_n 0, 1) := by decide +kernel
theorem dX12_netsOf_6 : decode cX12_netsOf 6 = .ok (.getfield 230, 3) := by decide +kernel
theorem dX12_netsOf_9 : decode cX12_netsOf 9 = .ok (.if_icmp .ge 29, 3) := by decide +kernel
theorem dX12_netsOf_12 : decode cX12_netsOf 12 = .ok (.iload_n 2, 1) := by decide +kernel
theorem dX12_netsOf_13 : decode cX12_netsOf 13 = .ok (.iload_n 1, 1) := by decide +kernel
theorem dX12_netsOf_14 : decode cX12_netsOf 14 = .ok (.iload_n 3, 1) := by decide +kernel
theorem dX12_netsOf_15 : decode cX12_netsOf 15 = .ok (.invokestatic 82, 3) := by decide +kernel
theorem dX12_netsOf_18 : decode cX12_netsOf 18 = .ok (.ifCond .eq 11, 3) := by decide +kernel
theorem dX12_netsOf_21 : decode cX12_netsOf 21 = .ok (.aload_n 0, 1) := by decide +kernel
theorem dX12_netsOf_22 : decode cX12_netsOf 22 = .ok (.iload_n 3, 1) := by decide +kernel
theorem dX12_netsOf_23 : decode cX12_netsOf 23 = .ok (.invokevirtual 332, 3) := by decide +kernel
theorem dX12_netsOf_26 : decode cX12_netsOf 26 = .ok (.goto 4, 3) := by decide +kernel
theorem dX12_netsOf_29 : decode cX12_netsOf 29 = .ok (.iconst 0, 1) := by decide +kernel
theorem dX12_netsOf_30 : decode cX12_netsOf 30 = .ok (.iadd, 1) := by decide +kernel
theorem dX12_netsOf_31 : decode cX12_netsOf 31 = .ok (.istore_n 2, 1) := by decide +kernel
theorem dX12_netsOf_32 : decode cX12_netsOf 32 = .ok (.iinc 3 1, 3) := by decide +kernel
theorem dX12_netsOf_35 : decode cX12_netsOf 35 = .ok (.goto (-31), 3) := by decide +kernel
theorem dX12_netsOf_38 : decode cX12_netsOf 38 = .ok (.iload_n 2, 1) := by decide +kernel
theorem dX12_netsOf_39 : decode cX12_netsOf 39 = .ok (.ireturn, 1) := by decide +kernel
theorem dX12_settled_0 : decode cX12_settled 0 = .ok (.aload_n 0, 1) := by decide +kernel
theorem dX12_settled_1 : decode cX12_settled 1 = .ok (.iconst 0, 1) := by decide +kernel
theorem dX12_settled_2 : decode cX12_settled 2 = .ok (.putfield 78, 3) := by decide +kernel
theorem dX12_settled_5 : decode cX12_settled 5 = .ok (.aload_n 0, 1) := by decide +kernel
theorem dX12_settled_6 : decode cX12_settled 6 = .ok (.iload_n 1, 1) := by decide +kernel
theorem dX12_settled_7 : decode cX12_settled 7 = .ok (.invokevirtual 257, 3) := by decide +kernel
theorem dX12_settled_10 : decode cX12_settled 10 = .ok (.ifCond .ne 5, 3) := by decide +kernel
theorem dX12_settled_13 : decode cX12_settled 13 = .ok (.iconst (-1), 1) := by decide +kernel
theorem dX12_settled_14 : decode cX12_settled 14 = .ok (.ireturn, 1) := by decide +kernel
theorem dX12_settled_15 : decode cX12_settled 15 = .ok (.aload_n 0, 1) := by decide +kernel
theorem dX12_settled_16 : decode cX12_settled 16 = .ok (.getfield 56, 3) := by decide +kernel
theorem dX12_settled_19 : decode cX12_settled 19 = .ok (.iconst 0, 1) := by decide +kernel
theorem dX12_settled_20 : decode cX12_settled 20 = .ok (.iconst 0, 1) := by decide +kernel
theorem dX12_settled_21 : decode cX12_settled 21 = .ok (.iastore, 1) := by decide +kernel
theorem dX12_settled_22 : decode cX12_settled 22 = .ok (.iconst 1, 1) := by decide +kernel
theorem dX12_settled_23 : decode cX12_settled 23 = .ok (.istore_n 2, 1) := by decide +kernel
theorem dX12_settled_24 : decode cX12_settled 24 = .ok (.iload_n 2, 1) := by decide +kernel
theorem dX12_settled_25 : decode cX12_settled 25 = .ok (.iconst 1, 1) := by decide +kernel
theorem dX12_settled_26 : decode cX12_settled 26 = .ok (.aload_n 0, 1) := by decide +kernel
theorem dX12_settled_27 : decode cX12_settled 27 = .ok (.getfield 230, 3) := by decide +kernel
theorem dX12_settled_30 : decode cX12_settled 30 = .ok (.ishl, 1) := by decide +kernel
theorem dX12_settled_31 : decode cX12_settled 31 = .ok (.if_icmp .ge 86, 3) := by decide +kernel
theorem dX12_settled_34 : decode cX12_settled 34 = .ok (.aload_n 0, 1) := by decide +kernel
theorem dX12_settled_35 : decode cX12_settled 35 = .ok (.iload_n 2, 1) := by decide +kernel
theorem dX12_settled_36 : decode cX12_settled 36 = .ok (.invokevirtual 335, 3) := by decide +kernel
theorem dX12_settled_39 : decode cX12_settled 39 = .ok (.ifCond .ne 7, 3) := by decide +kernel
theorem dX12_settled_42 : decode cX12_settled 42 = .ok (.iconst 1, 1) := by decide +kernel
theorem dX12_settled_43 : decode cX12_settled 43 = .ok (.goto 6, 3) := by decide +kernel
theorem dX12_settled_46 : decode cX12_settled 46 = .ok (.ldc_w 338, 3) := by decide +kernel
theorem dX12_settled_49 : decode cX12_settled 49 = .ok (.istore_n 3, 1) := by decide +kernel
theorem dX12_settled_50 : decode cX12_settled 50 = .ok (.iload_n 2, 1) := by decide +kernel
theorem dX12_settled_51 : decode cX12_settled 51 = .ok (.iconst 1, 1) := by decide +kernel
theorem dX12_settled_52 : decode cX12_settled 52 = .ok (.isub, 1) := by decide +kernel
theorem dX12_settled_53 : decode cX12_settled 53 = .ok (.iload_n 2, 1) := by decide +kernel
theorem dX12_settled_54 : decode cX12_settled 54 = .ok (.iand, 1) := by decide +kernel
theorem dX12_settled_55 : decode cX12_settled 55 = .ok (.istore 4, 2) := by decide +kernel
theorem dX12_settled_57 : decode cX12_settled 57 = .ok (.iload 4, 2) := by decide +kernel
theorem dX12_settled_59 : decode cX12_settled 59 = .ok (.ifCond .le 45, 3) := by decide +kernel
theorem dX12_settled_62 : decode cX12_settled 62 = .ok (.aload_n 0, 1) := by decide +kernel
theorem dX12_settled_63 : decode cX12_settled 63 = .ok (.iload 4, 2) := by decide +kernel
theorem dX12_settled_65 : decode cX12_settled 65 = .ok (.invokevirtual 335, 3) := by decide +kernel
theorem dX12_settled_68 : decode cX12_settled 68 = .ok (.ifCond .ne 23, 3) := by decide +kernel
theorem dX12_settled_71 : decode cX12_settled 71 = .ok (.iload_n 3, 1) := by decide +kernel
theorem dX12_settled_72 : decode cX12_settled 72 = .ok (.iconst 1, 1) := by decide +kernel
theorem dX12_settled_73 : decode cX12_settled 73 = .ok (.aload_n 0, 1) := by decide +kernel
theorem dX12_settled_74 : decode cX12_settled 74 = .ok (.getfield 56, 3) := by decide +kernel
theorem dX12_settled_77 : decode cX12_settled 77 = .ok (.iload_n 2, 1) := by decide +kernel
theorem dX12_settled_78 : decode cX12_settled 78 = .ok (.iload 4, 2) := by decide +kernel
theorem dX12_settled_80 : decode cX12_settled 80 = .ok (.iconst (-1), 1) := by decide +kernel
theorem dX12_settled_81 : decode cX12_settled 81 = .ok (.ixor, 1) := by decide +kernel
theorem dX12_settled_82 : decode cX12_settled 82 = .ok (.iand, 1) := by decide +kernel
theorem dX12_settled_83 : decode cX12_settled 83 = .ok (.iaload, 1) := by decide +kernel
theorem dX12_settled_84 : decode cX12_settled 84 = .ok (.iadd, 1) := by decide +kernel
theorem dX12_settled_85 : decode cX12_settled 85 = .ok (.invokestatic 171, 3) := by decide +kernel
theorem dX12_settled_88 : decode cX12_settled 88 = .ok (.goto 4, 3) := by decide +kernel
theorem dX12_settled_91 : decode cX12_settled 91 = .ok (.iload_n 3, 1) := by decide +kernel
theorem dX12_settled_92 : decode cX12_settled 92 = .ok (.istore_n 3, 1) := by decide +kernel
theorem dX12_settled_93 : decode cX12_settled 93 = .ok (.iload 4, 2) := by decide +kernel
theorem dX12_settled_95 : decode cX12_settled 95 = .ok (.iconst 1, 1) := by decide +kernel
theorem dX12_settled_96 : decode cX12_settled 96 = .ok (.isub, 1) := by decide +kernel
theorem dX12_settled_97 : decode cX12_settled 97 = .ok (.iload_n 2, 1) := by decide +kernel
theorem dX12_settled_98 : decode cX12_settled 98 = .ok (.iand, 1) := by decide +kernel
theorem dX12_settled_99 : decode cX12_settled 99 = .ok (.istore 4, 2) := by decide +kernel
theorem dX12_settled_101 : decode cX12_settled 101 = .ok (.goto (-44), 3) := by decide +kernel
theorem dX12_settled_104 : decode cX12_settled 104 = .ok (.aload_n 0, 1) := by decide +kernel
theorem dX12_settled_105 : decode cX12_settled 105 = .ok (.getfield 56, 3) := by decide +kernel
theorem dX12_settled_108 : decode cX12_settled 108 = .ok (.iload_n 2, 1) := by decide +kernel
theorem dX12_settled_109 : decode cX12_settled 109 = .ok (.iload_n 3, 1) := by decide +kernel
theorem dX12_settled_110 : decode cX12_settled 110 = .ok (.iastore, 1) := by decide +kernel
theorem dX12_settled_111 : decode cX12_settled 111 = .ok (.iinc 2 1, 3) := by decide +kernel
theorem dX12_settled_114 : decode cX12_settled 114 = .ok (.goto (-90), 3) := by decide +kernel
theorem dX12_settled_117 : decode cX12_settled 117 = .ok (.aload_n 0, 1) := by decide +kernel
theorem dX12_settled_118 : decode cX12_settled 118 = .ok (.getfield 230, 3) := by decide +kernel
theorem dX12_settled_121 : decode cX12_settled 121 = .ok (.aload_n 0, 1) := by decide +kernel
theorem dX12_settled_122 : decode cX12_settled 122 = .ok (.getfield 56, 3) := by decide +kernel
theorem dX12_settled_125 : decode cX12_settled 125 = .ok (.iconst 1, 1) := by decide +kernel
theorem dX12_settled_126 : decode cX12_settled 126 = .ok (.aload_n 0, 1) := by decide +kernel
theorem dX12_settled_127 : decode cX12_settled 127 = .ok (.getfield 230, 3) := by decide +kernel
theorem dX12_settled_130 : decode cX12_settled 130 = .ok (.ishl, 1) := by decide +kernel
theorem dX12_settled_131 : decode cX12_settled 131 = .ok (.iconst 1, 1) := by decide +kernel
theorem dX12_settled_132 : decode cX12_settled 132 = .ok (.isub, 1) := by decide +kernel
theorem dX12_settled_133 : decode cX12_settled 133 = .ok (.iaload, 1) := by decide +kernel
theorem dX12_settled_134 : decode cX12_settled 134 = .ok (.isub, 1) := by decide +kernel
theorem dX12_settled_135 : decode cX12_settled 135 = .ok (.ireturn, 1) := by decide +kernel
theorem dX12_ruin_0 : decode cX12_ruin 0 = .ok (.aload_n 0, 1) := by decide +kernel
theorem dX12_ruin_1 : decode cX12_ruin 1 = .ok (.iconst 0, 1) := by decide +kernel
theorem dX12_ruin_2 : decode cX12_ruin 2 = .ok (.putfield 78, 3) := by decide +kernel
theorem dX12_ruin_5 : decode cX12_ruin 5 = .ok (.aload_n 0, 1) := by decide +kernel
theorem dX12_ruin_6 : decode cX12_ruin 6 = .ok (.iload_n 1, 1) := by decide +kernel
theorem dX12_ruin_7 : decode cX12_ruin 7 = .ok (.invokevirtual 257, 3) := by decide +kernel
theorem dX12_ruin_10 : decode cX12_ruin 10 = .ok (.ifCond .eq 11, 3) := by decide +kernel
theorem dX12_ruin_13 : decode cX12_ruin 13 = .ok (.aload_n 0, 1) := by decide +kernel
theorem dX12_ruin_14 : decode cX12_ruin 14 = .ok (.iload_n 2, 1) := by decide +kernel
theorem dX12_ruin_15 : decode cX12_ruin 15 = .ok (.invokevirtual 260, 3) := by decide +kernel
theorem dX12_ruin_18 : decode cX12_ruin 18 = .ok (.ifCond .ne 5, 3) := by decide +kernel
theorem dX12_ruin_21 : decode cX12_ruin 21 = .ok (.iconst (-1), 1) := by decide +kernel
theorem dX12_ruin_22 : decode cX12_ruin 22 = .ok (.ireturn, 1) := by decide +kernel
theorem dX12_ruin_23 : decode cX12_ruin 23 = .ok (.iconst 1, 1) := by decide +kernel
theorem dX12_ruin_24 : decode cX12_ruin 24 = .ok (.iload_n 2, 1) := by decide +kernel
theorem dX12_ruin_25 : decode cX12_ruin 25 = .ok (.ishl, 1) := by decide +kernel
theorem dX12_ruin_26 : decode cX12_ruin 26 = .ok (.istore_n 3, 1) := by decide +kernel
theorem dX12_ruin_27 : decode cX12_ruin 27 = .ok (.iconst 0, 1) := by decide +kernel
theorem dX12_ruin_28 : decode cX12_ruin 28 = .ok (.istore 4, 2) := by decide +kernel
theorem dX12_ruin_30 : decode cX12_ruin 30 = .ok (.iload_n 3, 1) := by decide +kernel
theorem dX12_ruin_31 : decode cX12_ruin 31 = .ok (.iload 4, 2) := by decide +kernel
theorem dX12_ruin_33 : decode cX12_ruin 33 = .ok (.if_icmp .eq 102, 3) := by decide +kernel
theorem dX12_ruin_36 : decode cX12_ruin 36 = .ok (.iload_n 3, 1) := by decide +kernel
theorem dX12_ruin_37 : decode cX12_ruin 37 = .ok (.istore 4, 2) := by decide +kernel
theorem dX12_ruin_39 : decode cX12_ruin 39 = .ok (.iconst 0, 1) := by decide +kernel
theorem dX12_ruin_40 : decode cX12_ruin 40 = .ok (.istore 5, 2) := by decide +kernel
theorem dX12_ruin_42 : decode cX12_ruin 42 = .ok (.iload 5, 2) := by decide +kernel
theorem dX12_ruin_44 : decode cX12_ruin 44 = .ok (.aload_n 0, 1) := by decide +kernel
theorem dX12_ruin_45 : decode cX12_ruin 45 = .ok (.getfield 230, 3) := by decide +kernel
theorem dX12_ruin_48 : decode cX12_ruin 48 = .ok (.if_icmp .ge 84, 3) := by decide +kernel
theorem dX12_ruin_51 : decode cX12_ruin 51 = .ok (.aload_n 0, 1) := by decide +kernel
theorem dX12_ruin_52 : decode cX12_ruin 52 = .ok (.getfield 41, 3) := by decide +kernel
theorem dX12_ruin_55 : decode cX12_ruin 55 = .ok (.iload 5, 2) := by decide +kernel
theorem dX12_ruin_57 : decode cX12_ruin 57 = .ok (.iaload, 1) := by decide +kernel
theorem dX12_ruin_58 : decode cX12_ruin 58 = .ok (.istore 6, 2) := by decide +kernel
theorem dX12_ruin_60 : decode cX12_ruin 60 = .ok (.iconst 0, 1) := by decide +kernel
theorem dX12_ruin_61 : decode cX12_ruin 61 = .ok (.istore 7, 2) := by decide +kernel
theorem dX12_ruin_63 : decode cX12_ruin 63 = .ok (.iload 7, 2) := by decide +kernel
theorem dX12_ruin_65 : decode cX12_ruin 65 = .ok (.aload_n 0, 1) := by decide +kernel
theorem dX12_ruin_66 : decode cX12_ruin 66 = .ok (.getfield 230, 3) := by decide +kernel
theorem dX12_ruin_69 : decode cX12_ruin 69 = .ok (.if_icmp .ge 35, 3) := by decide +kernel
theorem dX12_ruin_72 : decode cX12_ruin 72 = .ok (.iload 6, 2) := by decide +kernel
theorem dX12_ruin_74 : decode cX12_ruin 74 = .ok (.iload_n 3, 1) := by decide +kernel
theorem dX12_ruin_75 : decode cX12_ruin 75 = .ok (.iload 7, 2) := by decide +kernel
theorem dX12_ruin_77 : decode cX12_ruin 77 = .ok (.invokestatic 82, 3) := by decide +kernel
theorem dX12_ruin_80 : decode cX12_ruin 80 = .ok (.ifCond .eq 7, 3) := by decide +kernel
theorem dX12_ruin_83 : decode cX12_ruin 83 = .ok (.iconst 0, 1) := by decide +kernel
theorem dX12_ruin_84 : decode cX12_ruin 84 = .ok (.goto 11, 3) := by decide +kernel
theorem dX12_ruin_87 : decode cX12_ruin 87 = .ok (.aload_n 0, 1) := by decide +kernel
theorem dX12_ruin_88 : decode cX12_ruin 88 = .ok (.iload 7, 2) := by decide +kernel
theorem dX12_ruin_90 : decode cX12_ruin 90 = .ok (.iload 5, 2) := by decide +kernel
theorem dX12_ruin_92 : decode cX12_ruin 92 = .ok (.invokevirtual 254, 3) := by decide +kernel
theorem dX12_ruin_95 : decode cX12_ruin 95 = .ok (.iadd, 1) := by decide +kernel
theorem dX12_ruin_96 : decode cX12_ruin 96 = .ok (.istore 6, 2) := by decide +kernel
theorem dX12_ruin_98 : decode cX12_ruin 98 = .ok (.iinc 7 1, 3) := by decide +kernel
theorem dX12_ruin_101 : decode cX12_ruin 101 = .ok (.goto (-38), 3) := by decide +kernel
theorem dX12_ruin_104 : decode cX12_ruin 104 = .ok (.iload_n 3, 1) := by decide +kernel
theorem dX12_ruin_105 : decode cX12_ruin 105 = .ok (.aload_n 0, 1) := by decide +kernel
theorem dX12_ruin_106 : decode cX12_ruin 106 = .ok (.iload 5, 2) := by decide +kernel
theorem dX12_ruin_108 : decode cX12_ruin 108 = .ok (.invokevirtual 311, 3) := by decide +kernel
theorem dX12_ruin_111 : decode cX12_ruin 111 = .ok (.iload 6, 2) := by decide +kernel
theorem dX12_ruin_113 : decode cX12_ruin 113 = .ok (.if_icmp .le 10, 3) := by decide +kernel
theorem dX12_ruin_116 : decode cX12_ruin 116 = .ok (.iconst 1, 1) := by decide +kernel
theorem dX12_ruin_117 : decode cX12_ruin 117 = .ok (.iload 5, 2) := by decide +kernel
theorem dX12_ruin_119 : decode cX12_ruin 119 = .ok (.ishl, 1) := by decide +kernel
theorem dX12_ruin_120 : decode cX12_ruin 120 = .ok (.goto 4, 3) := by decide +kernel
theorem dX12_ruin_123 : decode cX12_ruin 123 = .ok (.iconst 0, 1) := by decide +kernel
theorem dX12_ruin_124 : decode cX12_ruin 124 = .ok (.ior, 1) := by decide +kernel
theorem dX12_ruin_125 : decode cX12_ruin 125 = .ok (.istore_n 3, 1) := by decide +kernel
theorem dX12_ruin_126 : decode cX12_ruin 126 = .ok (.iinc 5 1, 3) := by decide +kernel
theorem dX12_ruin_129 : decode cX12_ruin 129 = .ok (.goto (-87), 3) := by decide +kernel
theorem dX12_ruin_132 : decode cX12_ruin 132 = .ok (.goto (-102), 3) := by decide +kernel
theorem dX12_ruin_135 : decode cX12_ruin 135 = .ok (.iload_n 3, 1) := by decide +kernel
theorem dX12_ruin_136 : decode cX12_ruin 136 = .ok (.ireturn, 1) := by decide +kernel
theorem dX12_wittiest_0 : decode cX12_wittiest 0 = .ok (.iconst (-1), 1) := by decide +kernel
theorem dX12_wittiest_1 : decode cX12_wittiest 1 = .ok (.istore_n 2, 1) := by decide +kernel
theorem dX12_wittiest_2 : decode cX12_wittiest 2 = .ok (.iconst 0, 1) := by decide +kernel
theorem dX12_wittiest_3 : decode cX12_wittiest 3 = .ok (.istore_n 3, 1) := by decide +kernel
theorem dX12_wittiest_4 : decode cX12_wittiest 4 = .ok (.iload_n 3, 1) := by decide +kernel
theorem dX12_wittiest_5 : decode cX12_wittiest 5 = .ok (.aload_n 0, 1) := by decide +kernel
theorem dX12_wittiest_6 : decode cX12_wittiest 6 = .ok (.getfield 230, 3) := by decide +kernel
theorem dX12_wittiest_9 : decode cX12_wittiest 9 = .ok (.if_icmp .ge 57, 3) := by decide +kernel
theorem dX12_wittiest_12 : decode cX12_wittiest 12 = .ok (.iload_n 2, 1) := by decide +kernel
theorem dX12_wittiest_13 : decode cX12_wittiest 13 = .ok (.iconst (-1), 1) := by decide +kernel
theorem dX12_wittiest_14 : decode cX12_wittiest 14 = .ok (.if_icmp .eq 20, 3) := by decide +kernel
theorem dX12_wittiest_17 : decode cX12_wittiest 17 = .ok (.aload_n 0, 1) := by decide +kernel
theorem dX12_wittiest_18 : decode cX12_wittiest 18 = .ok (.iconst 1, 1) := by decide +kernel
theorem dX12_wittiest_19 : decode cX12_wittiest 19 = .ok (.iload_n 3, 1) := by decide +kernel
theorem dX12_wittiest_20 : decode cX12_wittiest 20 = .ok (.iadd, 1) := by decide +kernel
theorem dX12_wittiest_21 : decode cX12_wittiest 21 = .ok (.invokevirtual 226, 3) := by decide +kernel
theorem dX12_wittiest_24 : decode cX12_wittiest 24 = .ok (.aload_n 0, 1) := by decide +kernel
theorem dX12_wittiest_25 : decode cX12_wittiest 25 = .ok (.iconst 1, 1) := by decide +kernel
theorem dX12_wittiest_26 : decode cX12_wittiest 26 = .ok (.iload_n 2, 1) := by decide +kernel
theorem dX12_wittiest_27 : decode cX12_wittiest 27 = .ok (.iadd, 1) := by decide +kernel
theorem dX12_wittiest_28 : decode cX12_wittiest 28 = .ok (.invokevirtual 226, 3) := by decide +kernel
theorem dX12_wittiest_31 : decode cX12_wittiest 31 = .ok (.if_icmp .le 7, 3) := by decide +kernel
theorem dX12_wittiest_34 : decode cX12_wittiest 34 = .ok (.iconst 1, 1) := by decide +kernel
theorem dX12_wittiest_35 : decode cX12_wittiest 35 = .ok (.goto 4, 3) := by decide +kernel
theorem dX12_wittiest_38 : decode cX12_wittiest 38 = .ok (.iconst 0, 1) := by decide +kernel
theorem dX12_wittiest_39 : decode cX12_wittiest 39 = .ok (.istore 4, 2) := by decide +kernel
theorem dX12_wittiest_41 : decode cX12_wittiest 41 = .ok (.iload_n 1, 1) := by decide +kernel
theorem dX12_wittiest_42 : decode cX12_wittiest 42 = .ok (.iload_n 3, 1) := by decide +kernel
theorem dX12_wittiest_43 : decode cX12_wittiest 43 = .ok (.invokestatic 82, 3) := by decide +kernel
theorem dX12_wittiest_46 : decode cX12_wittiest 46 = .ok (.ifCond .ne 12, 3) := by decide +kernel
theorem dX12_wittiest_49 : decode cX12_wittiest 49 = .ok (.iload 4, 2) := by decide +kernel
theorem dX12_wittiest_51 : decode cX12_wittiest 51 = .ok (.ifCond .eq 7, 3) := by decide +kernel
theorem dX12_wittiest_54 : decode cX12_wittiest 54 = .ok (.iload_n 3, 1) := by decide +kernel
theorem dX12_wittiest_55 : decode cX12_wittiest 55 = .ok (.goto 4, 3) := by decide +kernel
theorem dX12_wittiest_58 : decode cX12_wittiest 58 = .ok (.iload_n 2, 1) := by decide +kernel
theorem dX12_wittiest_59 : decode cX12_wittiest 59 = .ok (.istore_n 2, 1) := by decide +kernel
theorem dX12_wittiest_60 : decode cX12_wittiest 60 = .ok (.iinc 3 1, 3) := by decide +kernel
theorem dX12_wittiest_63 : decode cX12_wittiest 63 = .ok (.goto (-59), 3) := by decide +kernel
theorem dX12_wittiest_66 : decode cX12_wittiest 66 = .ok (.iload_n 2, 1) := by decide +kernel
theorem dX12_wittiest_67 : decode cX12_wittiest 67 = .ok (.ireturn, 1) := by decide +kernel
theorem dX12_borrow_0 : decode cX12_borrow 0 = .ok (.aload_n 0, 1) := by decide +kernel
theorem dX12_borrow_1 : decode cX12_borrow 1 = .ok (.iconst 0, 1) := by decide +kernel
theorem dX12_borrow_2 : decode cX12_borrow 2 = .ok (.putfield 78, 3) := by decide +kernel
theorem dX12_borrow_5 : decode cX12_borrow 5 = .ok (.iload_n 3, 1) := by decide +kernel
theorem dX12_borrow_6 : decode cX12_borrow 6 = .ok (.iconst 1, 1) := by decide +kernel
theorem dX12_borrow_7 : decode cX12_borrow 7 = .ok (.bipush 99, 2) := by decide +kernel
theorem dX12_borrow_9 : decode cX12_borrow 9 = .ok (.invokestatic 90, 3) := by decide +kernel
theorem dX12_borrow_12 : decode cX12_borrow 12 = .ok (.ifCond .eq 34, 3) := by decide +kernel
theorem dX12_borrow_15 : decode cX12_borrow 15 = .ok (.aload_n 0, 1) := by decide +kernel
theorem dX12_borrow_16 : decode cX12_borrow 16 = .ok (.iload_n 1, 1) := by decide +kernel
theorem dX12_borrow_17 : decode cX12_borrow 17 = .ok (.invokevirtual 257, 3) := by decide +kernel
theorem dX12_borrow_20 : decode cX12_borrow 20 = .ok (.ifCond .eq 26, 3) := by decide +kernel
theorem dX12_borrow_23 : decode cX12_borrow 23 = .ok (.aload_n 0, 1) := by decide +kernel
theorem dX12_borrow_24 : decode cX12_borrow 24 = .ok (.iload_n 2, 1) := by decide +kernel
theorem dX12_borrow_25 : decode cX12_borrow 25 = .ok (.invokevirtual 260, 3) := by decide +kernel
theorem dX12_borrow_28 : decode cX12_borrow 28 = .ok (.ifCond .eq 18, 3) := by decide +kernel
theorem dX12_borrow_31 : decode cX12_borrow 31 = .ok (.iload 4, 2) := by decide +kernel
theorem dX12_borrow_33 : decode cX12_borrow 33 = .ok (.iconst (-1), 1) := by decide +kernel
theorem dX12_borrow_34 : decode cX12_borrow 34 = .ok (.if_icmp .eq 14, 3) := by decide +kernel
theorem dX12_borrow_37 : decode cX12_borrow 37 = .ok (.aload_n 0, 1) := by decide +kernel
theorem dX12_borrow_38 : decode cX12_borrow 38 = .ok (.iload 4, 2) := by decide +kernel
theorem dX12_borrow_40 : decode cX12_borrow 40 = .ok (.invokevirtual 260, 3) := by decide +kernel
theorem dX12_borrow_43 : decode cX12_borrow 43 = .ok (.ifCond .ne 5, 3) := by decide +kernel
theorem dX12_borrow_46 : decode cX12_borrow 46 = .ok (.iconst (-1), 1) := by decide +kernel
theorem dX12_borrow_47 : decode cX12_borrow 47 = .ok (.ireturn, 1) := by decide +kernel
theorem dX12_borrow_48 : decode cX12_borrow 48 = .ok (.iconst 1, 1) := by decide +kernel
theorem dX12_borrow_49 : decode cX12_borrow 49 = .ok (.iload_n 2, 1) := by decide +kernel
theorem dX12_borrow_50 : decode cX12_borrow 50 = .ok (.ishl, 1) := by decide +kernel
theorem dX12_borrow_51 : decode cX12_borrow 51 = .ok (.istore 5, 2) := by decide +kernel
theorem dX12_borrow_53 : decode cX12_borrow 53 = .ok (.iload_n 3, 1) := by decide +kernel
theorem dX12_borrow_54 : decode cX12_borrow 54 = .ok (.istore 6, 2) := by decide +kernel
theorem dX12_borrow_56 : decode cX12_borrow 56 = .ok (.iconst 0, 1) := by decide +kernel
theorem dX12_borrow_57 : decode cX12_borrow 57 = .ok (.istore 7, 2) := by decide +kernel
theorem dX12_borrow_59 : decode cX12_borrow 59 = .ok (.aload_n 0, 1) := by decide +kernel
theorem dX12_borrow_60 : decode cX12_borrow 60 = .ok (.getfield 59, 3) := by decide +kernel
theorem dX12_borrow_63 : decode cX12_borrow 63 = .ok (.iload_n 2, 1) := by decide +kernel
theorem dX12_borrow_64 : decode cX12_borrow 64 = .ok (.iconst 0, 1) := by decide +kernel
theorem dX12_borrow_65 : decode cX12_borrow 65 = .ok (.iastore, 1) := by decide +kernel
theorem dX12_borrow_66 : decode cX12_borrow 66 = .ok (.iconst 1, 1) := by decide +kernel
theorem dX12_borrow_67 : decode cX12_borrow 67 = .ok (.istore 8, 2) := by decide +kernel
theorem dX12_borrow_69 : decode cX12_borrow 69 = .ok (.iload 8, 2) := by decide +kernel
theorem dX12_borrow_71 : decode cX12_borrow 71 = .ok (.aload_n 0, 1) := by decide +kernel
theorem dX12_borrow_72 : decode cX12_borrow 72 = .ok (.getfield 230, 3) := by decide +kernel
theorem dX12_borrow_75 : decode cX12_borrow 75 = .ok (.if_icmp .ge 81, 3) := by decide +kernel
theorem dX12_borrow_78 : decode cX12_borrow 78 = .ok (.aload_n 0, 1) := by decide +kernel
theorem dX12_borrow_79 : decode cX12_borrow 79 = .ok (.iload 5, 2) := by decide +kernel
theorem dX12_borrow_81 : decode cX12_borrow 81 = .ok (.invokevirtual 339, 3) := by decide +kernel
theorem dX12_borrow_84 : decode cX12_borrow 84 = .ok (.istore 9, 2) := by decide +kernel
theorem dX12_borrow_86 : decode cX12_borrow 86 = .ok (.aload_n 0, 1) := by decide +kernel
theorem dX12_borrow_87 : decode cX12_borrow 87 = .ok (.getfield 59, 3) := by decide +kernel
theorem dX12_borrow_90 : decode cX12_borrow 90 = .ok (.iload 9, 2) := by decide +kernel
theorem dX12_borrow_92 : decode cX12_borrow 92 = .ok (.iload 6, 2) := by decide +kernel
theorem dX12_borrow_94 : decode cX12_borrow 94 = .ok (.aload_n 0, 1) := by decide +kernel
theorem dX12_borrow_95 : decode cX12_borrow 95 = .ok (.getfield 41, 3) := by decide +kernel
theorem dX12_borrow_98 : decode cX12_borrow 98 = .ok (.iload 9, 2) := by decide +kernel
theorem dX12_borrow_100 : decode cX12_borrow 100 = .ok (.iaload, 1) := by decide +kernel
theorem dX12_borrow_101 : decode cX12_borrow 101 = .ok (.invokestatic 281, 3) := by decide +kernel
theorem dX12_borrow_104 : decode cX12_borrow 104 = .ok (.iastore, 1) := by decide +kernel
theorem dX12_borrow_105 : decode cX12_borrow 105 = .ok (.iload 6, 2) := by decide +kernel
theorem dX12_borrow_107 : decode cX12_borrow 107 = .ok (.aload_n 0, 1) := by decide +kernel
theorem dX12_borrow_108 : decode cX12_borrow 108 = .ok (.getfield 59, 3) := by decide +kernel
theorem dX12_borrow_111 : decode cX12_borrow 111 = .ok (.iload 9, 2) := by decide +kernel
theorem dX12_borrow_113 : decode cX12_borrow 113 = .ok (.iaload, 1) := by decide +kernel
theorem dX12_borrow_114 : decode cX12_borrow 114 = .ok (.isub, 1) := by decide +kernel
theorem dX12_borrow_115 : decode cX12_borrow 115 = .ok (.istore 6, 2) := by decide +kernel
theorem dX12_borrow_117 : decode cX12_borrow 117 = .ok (.iload 7, 2) := by decide +kernel
theorem dX12_borrow_119 : decode cX12_borrow 119 = .ok (.aload_n 0, 1) := by decide +kernel
theorem dX12_borrow_120 : decode cX12_borrow 120 = .ok (.getfield 59, 3) := by decide +kernel
theorem dX12_borrow_123 : decode cX12_borrow 123 = .ok (.iload 9, 2) := by decide +kernel
theorem dX12_borrow_125 : decode cX12_borrow 125 = .ok (.iaload, 1) := by decide +kernel
theorem dX12_borrow_126 : decode cX12_borrow 126 = .ok (.bipush 10, 2) := by decide +kernel
theorem dX12_borrow_128 : decode cX12_borrow 128 = .ok (.aload_n 0, 1) := by decide +kernel
theorem dX12_borrow_129 : decode cX12_borrow 129 = .ok (.iconst 1, 1) := by decide +kernel
theorem dX12_borrow_130 : decode cX12_borrow 130 = .ok (.iload 9, 2) := by decide +kernel
theorem dX12_borrow_132 : decode cX12_borrow 132 = .ok (.iadd, 1) := by decide +kernel
theorem dX12_borrow_133 : decode cX12_borrow 133 = .ok (.invokevirtual 226, 3) := by decide +kernel
theorem dX12_borrow_136 : decode cX12_borrow 136 = .ok (.isub, 1) := by decide +kernel
theorem dX12_borrow_137 : decode cX12_borrow 137 = .ok (.imul, 1) := by decide +kernel
theorem dX12_borrow_138 : decode cX12_borrow 138 = .ok (.iadd, 1) := by decide +kernel
theorem dX12_borrow_139 : decode cX12_borrow 139 = .ok (.istore 7, 2) := by decide +kernel
theorem dX12_borrow_141 : decode cX12_borrow 141 = .ok (.iload 5, 2) := by decide +kernel
theorem dX12_borrow_143 : decode cX12_borrow 143 = .ok (.iconst 1, 1) := by decide +kernel
theorem dX12_borrow_144 : decode cX12_borrow 144 = .ok (.iload 9, 2) := by decide +kernel
theorem dX12_borrow_146 : decode cX12_borrow 146 = .ok (.ishl, 1) := by decide +kernel
theorem dX12_borrow_147 : decode cX12_borrow 147 = .ok (.ior, 1) := by decide +kernel
theorem dX12_borrow_148 : decode cX12_borrow 148 = .ok (.istore 5, 2) := by decide +kernel
theorem dX12_borrow_150 : decode cX12_borrow 150 = .ok (.iinc 8 1, 3) := by decide +kernel
theorem dX12_borrow_153 : decode cX12_borrow 153 = .ok (.goto (-84), 3) := by decide +kernel
theorem dX12_borrow_156 : decode cX12_borrow 156 = .ok (.iload 6, 2) := by decide +kernel
theorem dX12_borrow_158 : decode cX12_borrow 158 = .ok (.ifCond .le 7, 3) := by decide +kernel
theorem dX12_borrow_161 : decode cX12_borrow 161 = .ok (.iconst (-1), 1) := by decide +kernel
theorem dX12_borrow_162 : decode cX12_borrow 162 = .ok (.goto 21, 3) := by decide +kernel
theorem dX12_borrow_165 : decode cX12_borrow 165 = .ok (.iload 4, 2) := by decide +kernel
theorem dX12_borrow_167 : decode cX12_borrow 167 = .ok (.iconst (-1), 1) := by decide +kernel
theorem dX12_borrow_168 : decode cX12_borrow 168 = .ok (.if_icmp .ne 8, 3) := by decide +kernel
theorem dX12_borrow_171 : decode cX12_borrow 171 = .ok (.iload 7, 2) := by decide +kernel
theorem dX12_borrow_173 : decode cX12_borrow 173 = .ok (.goto 10, 3) := by decide +kernel
theorem dX12_borrow_176 : decode cX12_borrow 176 = .ok (.aload_n 0, 1) := by decide +kernel
theorem dX12_borrow_177 : decode cX12_borrow 177 = .ok (.getfield 59, 3) := by decide +kernel
theorem dX12_borrow_180 : decode cX12_borrow 180 = .ok (.iload 4, 2) := by decide +kernel
theorem dX12_borrow_182 : decode cX12_borrow 182 = .ok (.iaload, 1) := by decide +kernel
theorem dX12_borrow_183 : decode cX12_borrow 183 = .ok (.ireturn, 1) := by decide +kernel
theorem dX12_couple_0 : decode cX12_couple 0 = .ok (.aload_n 0, 1) := by decide +kernel
theorem dX12_couple_1 : decode cX12_couple 1 = .ok (.getfield 41, 3) := by decide +kernel
theorem dX12_couple_4 : decode cX12_couple 4 = .ok (.iload_n 1, 1) := by decide +kernel
theorem dX12_couple_5 : decode cX12_couple 5 = .ok (.iaload, 1) := by decide +kernel
theorem dX12_couple_6 : decode cX12_couple 6 = .ok (.aload_n 0, 1) := by decide +kernel
theorem dX12_couple_7 : decode cX12_couple 7 = .ok (.getfield 41, 3) := by decide +kernel
theorem dX12_couple_10 : decode cX12_couple 10 = .ok (.iload_n 2, 1) := by decide +kernel
theorem dX12_couple_11 : decode cX12_couple 11 = .ok (.iaload, 1) := by decide +kernel
theorem dX12_couple_12 : decode cX12_couple 12 = .ok (.if_icmp .le 13, 3) := by decide +kernel
theorem dX12_couple_15 : decode cX12_couple 15 = .ok (.aload_n 0, 1) := by decide +kernel
theorem dX12_couple_16 : decode cX12_couple 16 = .ok (.iconst 1, 1) := by decide +kernel
theorem dX12_couple_17 : decode cX12_couple 17 = .ok (.iload_n 2, 1) := by decide +kernel
theorem dX12_couple_18 : decode cX12_couple 18 = .ok (.iadd, 1) := by decide +kernel
theorem dX12_couple_19 : decode cX12_couple 19 = .ok (.invokevirtual 226, 3) := by decide +kernel
theorem dX12_couple_22 : decode cX12_couple 22 = .ok (.goto 4, 3) := by decide +kernel
theorem dX12_couple_25 : decode cX12_couple 25 = .ok (.iconst 0, 1) := by decide +kernel
theorem dX12_couple_26 : decode cX12_couple 26 = .ok (.ireturn, 1) := by decide +kernel
theorem dX12_lendingBy_0 : decode cX12_lendingBy 0 = .ok (.iload_n 3, 1) := by decide +kernel
theorem dX12_lendingBy_1 : decode cX12_lendingBy 1 = .ok (.bipush 6, 2) := by decide +kernel
theorem dX12_lendingBy_3 : decode cX12_lendingBy 3 = .ok (.if_icmp .ne 17, 3) := by decide +kernel
theorem dX12_lendingBy_6 : decode cX12_lendingBy 6 = .ok (.aload_n 0, 1) := by decide +kernel
theorem dX12_lendingBy_7 : decode cX12_lendingBy 7 = .ok (.getfield 62, 3) := by decide +kernel
theorem dX12_lendingBy_10 : decode cX12_lendingBy 10 = .ok (.bipush 64, 2) := by decide +kernel
theorem dX12_lendingBy_12 : decode cX12_lendingBy 12 = .ok (.iload_n 1, 1) := by decide +kernel
theorem dX12_lendingBy_13 : decode cX12_lendingBy 13 = .ok (.iconst 1, 1) := by decide +kernel
theorem dX12_lendingBy_14 : decode cX12_lendingBy 14 = .ok (.iadd, 1) := by decide +kernel
theorem dX12_lendingBy_15 : decode cX12_lendingBy 15 = .ok (.imul, 1) := by decide +kernel
theorem dX12_lendingBy_16 : decode cX12_lendingBy 16 = .ok (.iload_n 2, 1) := by decide +kernel
theorem dX12_lendingBy_17 : decode cX12_lendingBy 17 = .ok (.iadd, 1) := by decide +kernel
theorem dX12_lendingBy_18 : decode cX12_lendingBy 18 = .ok (.iaload, 1) := by decide +kernel
theorem dX12_lendingBy_19 : decode cX12_lendingBy 19 = .ok (.ireturn, 1) := by decide +kernel
theorem dX12_lendingBy_20 : decode cX12_lendingBy 20 = .ok (.iload_n 3, 1) := by decide +kernel
theorem dX12_lendingBy_21 : decode cX12_lendingBy 21 = .ok (.aload_n 0, 1) := by decide +kernel
theorem dX12_lendingBy_22 : decode cX12_lendingBy 22 = .ok (.getfield 230, 3) := by decide +kernel
theorem dX12_lendingBy_25 : decode cX12_lendingBy 25 = .ok (.if_icmp .ge 16, 3) := by decide +kernel
theorem dX12_lendingBy_28 : decode cX12_lendingBy 28 = .ok (.iload_n 3, 1) := by decide +kernel
theorem dX12_lendingBy_29 : decode cX12_lendingBy 29 = .ok (.iload_n 1, 1) := by decide +kernel
theorem dX12_lendingBy_30 : decode cX12_lendingBy 30 = .ok (.if_icmp .eq 11, 3) := by decide +kernel
theorem dX12_lendingBy_33 : decode cX12_lendingBy 33 = .ok (.iload_n 2, 1) := by decide +kernel
theorem dX12_lendingBy_34 : decode cX12_lendingBy 34 = .ok (.iload_n 3, 1) := by decide +kernel
theorem dX12_lendingBy_35 : decode cX12_lendingBy 35 = .ok (.invokestatic 82, 3) := by decide +kernel
theorem dX12_lendingBy_38 : decode cX12_lendingBy 38 = .ok (.ifCond .eq 9, 3) := by decide +kernel
theorem dX12_lendingBy_41 : decode cX12_lendingBy 41 = .ok (.ldc_w 338, 3) := by decide +kernel
theorem dX12_lendingBy_44 : decode cX12_lendingBy 44 = .ok (.goto 27, 3) := by decide +kernel
theorem dX12_lendingBy_47 : decode cX12_lendingBy 47 = .ok (.aload_n 0, 1) := by decide +kernel
theorem dX12_lendingBy_48 : decode cX12_lendingBy 48 = .ok (.iload_n 1, 1) := by decide +kernel
theorem dX12_lendingBy_49 : decode cX12_lendingBy 49 = .ok (.iload_n 3, 1) := by decide +kernel
theorem dX12_lendingBy_50 : decode cX12_lendingBy 50 = .ok (.invokevirtual 342, 3) := by decide +kernel
theorem dX12_lendingBy_53 : decode cX12_lendingBy 53 = .ok (.aload_n 0, 1) := by decide +kernel
theorem dX12_lendingBy_54 : decode cX12_lendingBy 54 = .ok (.getfield 62, 3) := by decide +kernel
theorem dX12_lendingBy_57 : decode cX12_lendingBy 57 = .ok (.bipush 64, 2) := by decide +kernel
theorem dX12_lendingBy_59 : decode cX12_lendingBy 59 = .ok (.iload_n 1, 1) := by decide +kernel
theorem dX12_lendingBy_60 : decode cX12_lendingBy 60 = .ok (.iconst 1, 1) := by decide +kernel
theorem dX12_lendingBy_61 : decode cX12_lendingBy 61 = .ok (.iadd, 1) := by decide +kernel
theorem dX12_lendingBy_62 : decode cX12_lendingBy 62 = .ok (.imul, 1) := by decide +kernel
theorem dX12_lendingBy_63 : decode cX12_lendingBy 63 = .ok (.iload_n 2, 1) := by decide +kernel
theorem dX12_lendingBy_64 : decode cX12_lendingBy 64 = .ok (.iconst 1, 1) := by decide +kernel
theorem dX12_lendingBy_65 : decode cX12_lendingBy 65 = .ok (.iload_n 3, 1) := by decide +kernel
theorem dX12_lendingBy_66 : decode cX12_lendingBy 66 = .ok (.ishl, 1) := by decide +kernel
theorem dX12_lendingBy_67 : decode cX12_lendingBy 67 = .ok (.ior, 1) := by decide +kernel
theorem dX12_lendingBy_68 : decode cX12_lendingBy 68 = .ok (.iadd, 1) := by decide +kernel
theorem dX12_lendingBy_69 : decode cX12_lendingBy 69 = .ok (.iaload, 1) := by decide +kernel
theorem dX12_lendingBy_70 : decode cX12_lendingBy 70 = .ok (.iadd, 1) := by decide +kernel
theorem dX12_lendingBy_71 : decode cX12_lendingBy 71 = .ok (.ireturn, 1) := by decide +kernel
theorem dX12_findLendings_0 : decode cX12_findLendings 0 = .ok (.aload_n 0, 1) := by decide +kernel
theorem dX12_findLendings_1 : decode cX12_findLendings 1 = .ok (.getfield 230, 3) := by decide +kernel
theorem dX12_findLendings_4 : decode cX12_findLendings 4 = .ok (.istore_n 1, 1) := by decide +kernel
theorem dX12_findLendings_5 : decode cX12_findLendings 5 = .ok (.iload_n 1, 1) := by decide +kernel
theorem dX12_findLendings_6 : decode cX12_findLendings 6 = .ok (.ifCond .lt 74, 3) := by decide +kernel
theorem dX12_findLendings_9 : decode cX12_findLendings 9 = .ok (.iconst 0, 1) := by decide +kernel
theorem dX12_findLendings_10 : decode cX12_findLendings 10 = .ok (.istore_n 2, 1) := by decide +kernel
theorem dX12_findLendings_11 : decode cX12_findLendings 11 = .ok (.iload_n 2, 1) := by decide +kernel
theorem dX12_findLendings_12 : decode cX12_findLendings 12 = .ok (.bipush 64, 2) := by decide +kernel
theorem dX12_findLendings_14 : decode cX12_findLendings 14 = .ok (.if_icmp .ge 60, 3) := by decide +kernel
theorem dX12_findLendings_17 : decode cX12_findLendings 17 = .ok (.iconst 0, 1) := by decide +kernel
theorem dX12_findLendings_18 : decode cX12_findLendings 18 = .ok (.istore_n 3, 1) := by decide +kernel
theorem dX12_findLendings_19 : decode cX12_findLendings 19 = .ok (.iconst 0, 1) := by decide +kernel
theorem dX12_findLendings_20 : decode cX12_findLendings 20 = .ok (.istore 4, 2) := by decide +kernel
theorem dX12_findLendings_22 : decode cX12_findLendings 22 = .ok (.iload 4, 2) := by decide +kernel
theorem dX12_findLendings_24 : decode cX12_findLendings 24 = .ok (.bipush 6, 2) := by decide +kernel
theorem dX12_findLendings_26 : decode cX12_findLendings 26 = .ok (.if_icmp .gt 30, 3) := by decide +kernel
theorem dX12_findLendings_29 : decode cX12_findLendings 29 = .ok (.iload_n 1, 1) := by decide +kernel
theorem dX12_findLendings_30 : decode cX12_findLendings 30 = .ok (.aload_n 0, 1) := by decide +kernel
theorem dX12_findLendings_31 : decode cX12_findLendings 31 = .ok (.getfield 230, 3) := by decide +kernel
theorem dX12_findLendings_34 : decode cX12_findLendings 34 = .ok (.if_icmp .ge 22, 3) := by decide +kernel
theorem dX12_findLendings_37 : decode cX12_findLendings 37 = .ok (.iload_n 3, 1) := by decide +kernel
theorem dX12_findLendings_38 : decode cX12_findLendings 38 = .ok (.aload_n 0, 1) := by decide +kernel
theorem dX12_findLendings_39 : decode cX12_findLendings 39 = .ok (.iload_n 1, 1) := by decide +kernel
theorem dX12_findLendings_40 : decode cX12_findLendings 40 = .ok (.iload_n 2, 1) := by decide +kernel
theorem dX12_findLendings_41 : decode cX12_findLendings 41 = .ok (.iload 4, 2) := by decide +kernel
theorem dX12_findLendings_43 : decode cX12_findLendings 43 = .ok (.invokevirtual 345, 3) := by decide +kernel
theorem dX12_findLendings_46 : decode cX12_findLendings 46 = .ok (.invokestatic 171, 3) := by decide +kernel
theorem dX12_findLendings_49 : decode cX12_findLendings 49 = .ok (.istore_n 3, 1) := by decide +kernel
theorem dX12_findLendings_50 : decode cX12_findLendings 50 = .ok (.iinc 4 1, 3) := by decide +kernel
theorem dX12_findLendings_53 : decode cX12_findLendings 53 = .ok (.goto (-31), 3) := by decide +kernel
theorem dX12_findLendings_56 : decode cX12_findLendings 56 = .ok (.aload_n 0, 1) := by decide +kernel
theorem dX12_findLendings_57 : decode cX12_findLendings 57 = .ok (.getfield 62, 3) := by decide +kernel
theorem dX12_findLendings_60 : decode cX12_findLendings 60 = .ok (.bipush 64, 2) := by decide +kernel
theorem dX12_findLendings_62 : decode cX12_findLendings 62 = .ok (.iload_n 1, 1) := by decide +kernel
theorem dX12_findLendings_63 : decode cX12_findLendings 63 = .ok (.imul, 1) := by decide +kernel
theorem dX12_findLendings_64 : decode cX12_findLendings 64 = .ok (.iload_n 2, 1) := by decide +kernel
theorem dX12_findLendings_65 : decode cX12_findLendings 65 = .ok (.iadd, 1) := by decide +kernel
theorem dX12_findLendings_66 : decode cX12_findLendings 66 = .ok (.iload_n 3, 1) := by decide +kernel
theorem dX12_findLendings_67 : decode cX12_findLendings 67 = .ok (.iastore, 1) := by decide +kernel
theorem dX12_findLendings_68 : decode cX12_findLendings 68 = .ok (.iinc 2 1, 3) := by decide +kernel
theorem dX12_findLendings_71 : decode cX12_findLendings 71 = .ok (.goto (-60), 3) := by decide +kernel
theorem dX12_findLendings_74 : decode cX12_findLendings 74 = .ok (.iinc 1 (-1), 3) := by decide +kernel
theorem dX12_findLendings_77 : decode cX12_findLendings 77 = .ok (.goto (-72), 3) := by decide +kernel
theorem dX12_findLendings_80 : decode cX12_findLendings 80 = .ok (.return_, 1) := by decide +kernel
theorem dX12_lenders_0 : decode cX12_lenders 0 = .ok (.aload_n 0, 1) := by decide +kernel
theorem dX12_lenders_1 : decode cX12_lenders 1 = .ok (.iconst 0, 1) := by decide +kernel
theorem dX12_lenders_2 : decode cX12_lenders 2 = .ok (.putfield 78, 3) := by decide +kernel
theorem dX12_lenders_5 : decode cX12_lenders 5 = .ok (.aload_n 0, 1) := by decide +kernel
theorem dX12_lenders_6 : decode cX12_lenders 6 = .ok (.iload_n 1, 1) := by decide +kernel
theorem dX12_lenders_7 : decode cX12_lenders 7 = .ok (.invokevirtual 257, 3) := by decide +kernel
theorem dX12_lenders_10 : decode cX12_lenders 10 = .ok (.ifCond .eq 17, 3) := by decide +kernel
theorem dX12_lenders_13 : decode cX12_lenders 13 = .ok (.iload_n 2, 1) := by decide +kernel
theorem dX12_lenders_14 : decode cX12_lenders 14 = .ok (.iconst (-1), 1) := by decide +kernel
theorem dX12_lenders_15 : decode cX12_lenders 15 = .ok (.aload_n 0, 1) := by decide +kernel
theorem dX12_lenders_16 : decode cX12_lenders 16 = .ok (.getfield 230, 3) := by decide +kernel
theorem dX12_lenders_19 : decode cX12_lenders 19 = .ok (.iconst 1, 1) := by decide +kernel
theorem dX12_lenders_20 : decode cX12_lenders 20 = .ok (.isub, 1) := by decide +kernel
theorem dX12_lenders_21 : decode cX12_lenders 21 = .ok (.invokestatic 90, 3) := by decide +kernel
theorem dX12_lenders_24 : decode cX12_lenders 24 = .ok (.ifCond .ne 5, 3) := by decide +kernel
theorem dX12_lenders_27 : decode cX12_lenders 27 = .ok (.iconst (-1), 1) := by decide +kernel
theorem dX12_lenders_28 : decode cX12_lenders 28 = .ok (.ireturn, 1) := by decide +kernel
theorem dX12_lenders_29 : decode cX12_lenders 29 = .ok (.aload_n 0, 1) := by decide +kernel
theorem dX12_lenders_30 : decode cX12_lenders 30 = .ok (.invokevirtual 349, 3) := by decide +kernel
theorem dX12_lenders_33 : decode cX12_lenders 33 = .ok (.iconst 0, 1) := by decide +kernel
theorem dX12_lenders_34 : decode cX12_lenders 34 = .ok (.istore_n 3, 1) := by decide +kernel
theorem dX12_lenders_35 : decode cX12_lenders 35 = .ok (.bipush 6, 2) := by decide +kernel
theorem dX12_lenders_37 : decode cX12_lenders 37 = .ok (.istore 4, 2) := by decide +kernel
theorem dX12_lenders_39 : decode cX12_lenders 39 = .ok (.iconst 0, 1) := by decide +kernel
theorem dX12_lenders_40 : decode cX12_lenders 40 = .ok (.istore 5, 2) := by decide +kernel
theorem dX12_lenders_42 : decode cX12_lenders 42 = .ok (.iload 5, 2) := by decide +kernel
theorem dX12_lenders_44 : decode cX12_lenders 44 = .ok (.iload_n 2, 1) := by decide +kernel
theorem dX12_lenders_45 : decode cX12_lenders 45 = .ok (.if_icmp .gt 60, 3) := by decide +kernel
theorem dX12_lenders_48 : decode cX12_lenders 48 = .ok (.iconst 0, 1) := by decide +kernel
theorem dX12_lenders_49 : decode cX12_lenders 49 = .ok (.istore 4, 2) := by decide +kernel
theorem dX12_lenders_51 : decode cX12_lenders 51 = .ok (.aload_n 0, 1) := by decide +kernel
theorem dX12_lenders_52 : decode cX12_lenders 52 = .ok (.iload 5, 2) := by decide +kernel
theorem dX12_lenders_54 : decode cX12_lenders 54 = .ok (.iload_n 3, 1) := by decide +kernel
theorem dX12_lenders_55 : decode cX12_lenders 55 = .ok (.iload 4, 2) := by decide +kernel
theorem dX12_lenders_57 : decode cX12_lenders 57 = .ok (.invokevirtual 345, 3) := by decide +kernel
theorem dX12_lenders_60 : decode cX12_lenders 60 = .ok (.aload_n 0, 1) := by decide +kernel
theorem dX12_lenders_61 : decode cX12_lenders 61 = .ok (.getfield 62, 3) := by decide +kernel
theorem dX12_lenders_64 : decode cX12_lenders 64 = .ok (.bipush 64, 2) := by decide +kernel
theorem dX12_lenders_66 : decode cX12_lenders 66 = .ok (.iload 5, 2) := by decide +kernel
theorem dX12_lenders_68 : decode cX12_lenders 68 = .ok (.imul, 1) := by decide +kernel
theorem dX12_lenders_69 : decode cX12_lenders 69 = .ok (.iload_n 3, 1) := by decide +kernel
theorem dX12_lenders_70 : decode cX12_lenders 70 = .ok (.iadd, 1) := by decide +kernel
theorem dX12_lenders_71 : decode cX12_lenders 71 = .ok (.iaload, 1) := by decide +kernel
theorem dX12_lenders_72 : decode cX12_lenders 72 = .ok (.if_icmp .eq 9, 3) := by decide +kernel
theorem dX12_lenders_75 : decode cX12_lenders 75 = .ok (.iinc 4 1, 3) := by decide +kernel
theorem dX12_lenders_78 : decode cX12_lenders 78 = .ok (.goto (-27), 3) := by decide +kernel
theorem dX12_lenders_81 : decode cX12_lenders 81 = .ok (.iload_n 3, 1) := by decide +kernel
theorem dX12_lenders_82 : decode cX12_lenders 82 = .ok (.iload 4, 2) := by decide +kernel
theorem dX12_lenders_84 : decode cX12_lenders 84 = .ok (.bipush 6, 2) := by decide +kernel
theorem dX12_lenders_86 : decode cX12_lenders 86 = .ok (.if_icmp .ge 10, 3) := by decide +kernel
theorem dX12_lenders_89 : decode cX12_lenders 89 = .ok (.iconst 1, 1) := by decide +kernel
theorem dX12_lenders_90 : decode cX12_lenders 90 = .ok (.iload 4, 2) := by decide +kernel
theorem dX12_lenders_92 : decode cX12_lenders 92 = .ok (.ishl, 1) := by decide +kernel
theorem dX12_lenders_93 : decode cX12_lenders 93 = .ok (.goto 4, 3) := by decide +kernel
theorem dX12_lenders_96 : decode cX12_lenders 96 = .ok (.iconst 0, 1) := by decide +kernel
theorem dX12_lenders_97 : decode cX12_lenders 97 = .ok (.ior, 1) := by decide +kernel
theorem dX12_lenders_98 : decode cX12_lenders 98 = .ok (.istore_n 3, 1) := by decide +kernel
theorem dX12_lenders_99 : decode cX12_lenders 99 = .ok (.iinc 5 1, 3) := by decide +kernel
theorem dX12_lenders_102 : decode cX12_lenders 102 = .ok (.goto (-60), 3) := by decide +kernel
theorem dX12_lenders_105 : decode cX12_lenders 105 = .ok (.iload_n 2, 1) := by decide +kernel
theorem dX12_lenders_106 : decode cX12_lenders 106 = .ok (.iconst (-1), 1) := by decide +kernel
theorem dX12_lenders_107 : decode cX12_lenders 107 = .ok (.if_icmp .ne 12, 3) := by decide +kernel
theorem dX12_lenders_110 : decode cX12_lenders 110 = .ok (.aload_n 0, 1) := by decide +kernel
theorem dX12_lenders_111 : decode cX12_lenders 111 = .ok (.getfield 62, 3) := by decide +kernel
theorem dX12_lenders_114 : decode cX12_lenders 114 = .ok (.iconst 0, 1) := by decide +kernel
theorem dX12_lenders_115 : decode cX12_lenders 115 = .ok (.iaload, 1) := by decide +kernel
theorem dX12_lenders_116 : decode cX12_lenders 116 = .ok (.goto 5, 3) := by decide +kernel
theorem dX12_lenders_119 : decode cX12_lenders 119 = .ok (.iload 4, 2) := by decide +kernel
theorem dX12_lenders_121 : decode cX12_lenders 121 = .ok (.ireturn, 1) := by decide +kernel
theorem dX12_threes_0 : decode cX12_threes 0 = .ok (.iconst 1, 1) := by decide +kernel
theorem dX12_threes_1 : decode cX12_threes 1 = .ok (.istore_n 1, 1) := by decide +kernel
theorem dX12_threes_2 : decode cX12_threes 2 = .ok (.iconst 0, 1) := by decide +kernel
theorem dX12_threes_3 : decode cX12_threes 3 = .ok (.istore_n 2, 1) := by decide +kernel
theorem dX12_threes_4 : decode cX12_threes 4 = .ok (.iload_n 2, 1) := by decide +kernel
theorem dX12_threes_5 : decode cX12_threes 5 = .ok (.iload_n 0, 1) := by decide +kernel
theorem dX12_threes_6 : decode cX12_threes 6 = .ok (.if_icmp .ge 13, 3) := by decide +kernel
theorem dX12_threes_9 : decode cX12_threes 9 = .ok (.iload_n 1, 1) := by decide +kernel
theorem dX12_threes_10 : decode cX12_threes 10 = .ok (.iconst 3, 1) := by decide +kernel
theorem dX12_threes_11 : decode cX12_threes 11 = .ok (.imul, 1) := by decide +kernel
theorem dX12_threes_12 : decode cX12_threes 12 = .ok (.istore_n 1, 1) := by decide +kernel
theorem dX12_threes_13 : decode cX12_threes 13 = .ok (.iinc 2 1, 3) := by decide +kernel
theorem dX12_threes_16 : decode cX12_threes 16 = .ok (.goto (-12), 3) := by decide +kernel
theorem dX12_threes_19 : decode cX12_threes 19 = .ok (.iload_n 1, 1) := by decide +kernel
theorem dX12_threes_20 : decode cX12_threes 20 = .ok (.ireturn, 1) := by decide +kernel
theorem dX12_chosenBy_0 : decode cX12_chosenBy 0 = .ok (.iconst 0, 1) := by decide +kernel
theorem dX12_chosenBy_1 : decode cX12_chosenBy 1 = .ok (.istore_n 3, 1) := by decide +kernel
theorem dX12_chosenBy_2 : decode cX12_chosenBy 2 = .ok (.iconst 0, 1) := by decide +kernel
theorem dX12_chosenBy_3 : decode cX12_chosenBy 3 = .ok (.istore 4, 2) := by decide +kernel
theorem dX12_chosenBy_5 : decode cX12_chosenBy 5 = .ok (.iload 4, 2) := by decide +kernel
theorem dX12_chosenBy_7 : decode cX12_chosenBy 7 = .ok (.aload_n 0, 1) := by decide +kernel
theorem dX12_chosenBy_8 : decode cX12_chosenBy 8 = .ok (.getfield 230, 3) := by decide +kernel
theorem dX12_chosenBy_11 : decode cX12_chosenBy 11 = .ok (.if_icmp .ge 33, 3) := by decide +kernel
theorem dX12_chosenBy_14 : decode cX12_chosenBy 14 = .ok (.iload_n 3, 1) := by decide +kernel
theorem dX12_chosenBy_15 : decode cX12_chosenBy 15 = .ok (.iload_n 1, 1) := by decide +kernel
theorem dX12_chosenBy_16 : decode cX12_chosenBy 16 = .ok (.iload 4, 2) := by decide +kernel
theorem dX12_chosenBy_18 : decode cX12_chosenBy 18 = .ok (.invokestatic 352, 3) := by decide +kernel
theorem dX12_chosenBy_21 : decode cX12_chosenBy 21 = .ok (.idiv, 1) := by decide +kernel
theorem dX12_chosenBy_22 : decode cX12_chosenBy 22 = .ok (.iconst 3, 1) := by decide +kernel
theorem dX12_chosenBy_23 : decode cX12_chosenBy 23 = .ok (.irem, 1) := by decide +kernel
theorem dX12_chosenBy_24 : decode cX12_chosenBy 24 = .ok (.iload_n 2, 1) := by decide +kernel
theorem dX12_chosenBy_25 : decode cX12_chosenBy 25 = .ok (.if_icmp .ne 10, 3) := by decide +kernel
theorem dX12_chosenBy_28 : decode cX12_chosenBy 28 = .ok (.iconst 1, 1) := by decide +kernel
theorem dX12_chosenBy_29 : decode cX12_chosenBy 29 = .ok (.iload 4, 2) := by decide +kernel
theorem dX12_chosenBy_31 : decode cX12_chosenBy 31 = .ok (.ishl, 1) := by decide +kernel
theorem dX12_chosenBy_32 : decode cX12_chosenBy 32 = .ok (.goto 4, 3) := by decide +kernel
theorem dX12_chosenBy_35 : decode cX12_chosenBy 35 = .ok (.iconst 0, 1) := by decide +kernel
theorem dX12_chosenBy_36 : decode cX12_chosenBy 36 = .ok (.ior, 1) := by decide +kernel
theorem dX12_chosenBy_37 : decode cX12_chosenBy 37 = .ok (.istore_n 3, 1) := by decide +kernel
theorem dX12_chosenBy_38 : decode cX12_chosenBy 38 = .ok (.iinc 4 1, 3) := by decide +kernel
theorem dX12_chosenBy_41 : decode cX12_chosenBy 41 = .ok (.goto (-36), 3) := by decide +kernel
theorem dX12_chosenBy_44 : decode cX12_chosenBy 44 = .ok (.iload_n 3, 1) := by decide +kernel
theorem dX12_chosenBy_45 : decode cX12_chosenBy 45 = .ok (.ireturn, 1) := by decide +kernel
theorem dX12_findChoice_0 : decode cX12_findChoice 0 = .ok (.aload_n 0, 1) := by decide +kernel
theorem dX12_findChoice_1 : decode cX12_findChoice 1 = .ok (.getfield 230, 3) := by decide +kernel
theorem dX12_findChoice_4 : decode cX12_findChoice 4 = .ok (.aload_n 0, 1) := by decide +kernel
theorem dX12_findChoice_5 : decode cX12_findChoice 5 = .ok (.iload_n 1, 1) := by decide +kernel
theorem dX12_findChoice_6 : decode cX12_findChoice 6 = .ok (.iconst 0, 1) := by decide +kernel
theorem dX12_findChoice_7 : decode cX12_findChoice 7 = .ok (.invokevirtual 355, 3) := by decide +kernel
theorem dX12_findChoice_10 : decode cX12_findChoice 10 = .ok (.invokestatic 358, 3) := by decide +kernel
theorem dX12_findChoice_13 : decode cX12_findChoice 13 = .ok (.isub, 1) := by decide +kernel
theorem dX12_findChoice_14 : decode cX12_findChoice 14 = .ok (.istore_n 3, 1) := by decide +kernel
theorem dX12_findChoice_15 : decode cX12_findChoice 15 = .ok (.iconst 1, 1) := by decide +kernel
theorem dX12_findChoice_16 : decode cX12_findChoice 16 = .ok (.iload_n 3, 1) := by decide +kernel
theorem dX12_findChoice_17 : decode cX12_findChoice 17 = .ok (.iconst 2, 1) := by decide +kernel
theorem dX12_findChoice_18 : decode cX12_findChoice 18 = .ok (.irem, 1) := by decide +kernel
theorem dX12_findChoice_19 : decode cX12_findChoice 19 = .ok (.iadd, 1) := by decide +kernel
theorem dX12_findChoice_20 : decode cX12_findChoice 20 = .ok (.istore 4, 2) := by decide +kernel
theorem dX12_findChoice_22 : decode cX12_findChoice 22 = .ok (.aload_n 0, 1) := by decide +kernel
theorem dX12_findChoice_23 : decode cX12_findChoice 23 = .ok (.iload_n 1, 1) := by decide +kernel
theorem dX12_findChoice_24 : decode cX12_findChoice 24 = .ok (.iload 4, 2) := by decide +kernel
theorem dX12_findChoice_26 : decode cX12_findChoice 26 = .ok (.invokevirtual 355, 3) := by decide +kernel
theorem dX12_findChoice_29 : decode cX12_findChoice 29 = .ok (.istore 5, 2) := by decide +kernel
theorem dX12_findChoice_31 : decode cX12_findChoice 31 = .ok (.aload_n 0, 1) := by decide +kernel
theorem dX12_findChoice_32 : decode cX12_findChoice 32 = .ok (.getfield 65, 3) := by decide +kernel
theorem dX12_findChoice_35 : decode cX12_findChoice 35 = .ok (.iload_n 1, 1) := by decide +kernel
theorem dX12_findChoice_36 : decode cX12_findChoice 36 = .ok (.iconst 0, 1) := by decide +kernel
theorem dX12_findChoice_37 : decode cX12_findChoice 37 = .ok (.iastore, 1) := by decide +kernel
theorem dX12_findChoice_38 : decode cX12_findChoice 38 = .ok (.aload_n 0, 1) := by decide +kernel
theorem dX12_findChoice_39 : decode cX12_findChoice 39 = .ok (.iconst (-1), 1) := by decide +kernel
theorem dX12_findChoice_40 : decode cX12_findChoice 40 = .ok (.putfield 361, 3) := by decide +kernel
theorem dX12_findChoice_43 : decode cX12_findChoice 43 = .ok (.iconst 0, 1) := by decide +kernel
theorem dX12_findChoice_44 : decode cX12_findChoice 44 = .ok (.istore 6, 2) := by decide +kernel
theorem dX12_findChoice_46 : decode cX12_findChoice 46 = .ok (.iload 6, 2) := by decide +kernel
theorem dX12_findChoice_48 : decode cX12_findChoice 48 = .ok (.aload_n 0, 1) := by decide +kernel
theorem dX12_findChoice_49 : decode cX12_findChoice 49 = .ok (.getfield 230, 3) := by decide +kernel
theorem dX12_findChoice_52 : decode cX12_findChoice 52 = .ok (.if_icmp .ge 148, 3) := by decide +kernel
theorem dX12_findChoice_55 : decode cX12_findChoice 55 = .ok (.iload_n 3, 1) := by decide +kernel
theorem dX12_findChoice_56 : decode cX12_findChoice 56 = .ok (.iload_n 2, 1) := by decide +kernel
theorem dX12_findChoice_57 : decode cX12_findChoice 57 = .ok (.if_icmp .ge 143, 3) := by decide +kernel
theorem dX12_findChoice_60 : decode cX12_findChoice 60 = .ok (.iload_n 1, 1) := by decide +kernel
theorem dX12_findChoice_61 : decode cX12_findChoice 61 = .ok (.iload 6, 2) := by decide +kernel
theorem dX12_findChoice_63 : decode cX12_findChoice 63 = .ok (.invokestatic 352, 3) := by decide +kernel
theorem dX12_findChoice_66 : decode cX12_findChoice 66 = .ok (.idiv, 1) := by decide +kernel
theorem dX12_findChoice_67 : decode cX12_findChoice 67 = .ok (.iconst 3, 1) := by decide +kernel
theorem dX12_findChoice_68 : decode cX12_findChoice 68 = .ok (.irem, 1) := by decide +kernel
theorem dX12_findChoice_69 : decode cX12_findChoice 69 = .ok (.ifCond .ne 125, 3) := by decide +kernel
theorem dX12_findChoice_72 : decode cX12_findChoice 72 = .ok (.aload_n 0, 1) := by decide +kernel
theorem dX12_findChoice_73 : decode cX12_findChoice 73 = .ok (.bipush 13, 2) := by decide +kernel
theorem dX12_findChoice_75 : decode cX12_findChoice 75 = .ok (.iload 6, 2) := by decide +kernel
theorem dX12_findChoice_77 : decode cX12_findChoice 77 = .ok (.iadd, 1) := by decide +kernel
theorem dX12_findChoice_78 : decode cX12_findChoice 78 = .ok (.invokevirtual 226, 3) := by decide +kernel
theorem dX12_findChoice_81 : decode cX12_findChoice 81 = .ok (.iload 5, 2) := by decide +kernel
theorem dX12_findChoice_83 : decode cX12_findChoice 83 = .ok (.iand, 1) := by decide +kernel
theorem dX12_findChoice_84 : decode cX12_findChoice 84 = .ok (.ifCond .ne 14, 3) := by decide +kernel
theorem dX12_findChoice_87 : decode cX12_findChoice 87 = .ok (.aload_n 0, 1) := by decide +kernel
theorem dX12_findChoice_88 : decode cX12_findChoice 88 = .ok (.iconst 1, 1) := by decide +kernel
theorem dX12_findChoice_89 : decode cX12_findChoice 89 = .ok (.iload 6, 2) := by decide +kernel
theorem dX12_findChoice_91 : decode cX12_findChoice 91 = .ok (.iadd, 1) := by decide +kernel
theorem dX12_findChoice_92 : decode cX12_findChoice 92 = .ok (.invokevirtual 226, 3) := by decide +kernel
theorem dX12_findChoice_95 : decode cX12_findChoice 95 = .ok (.goto 12, 3) := by decide +kernel
theorem dX12_findChoice_98 : decode cX12_findChoice 98 = .ok (.aload_n 0, 1) := by decide +kernel
theorem dX12_findChoice_99 : decode cX12_findChoice 99 = .ok (.iconst 1, 1) := by decide +kernel
theorem dX12_findChoice_100 : decode cX12_findChoice 100 = .ok (.iload 6, 2) := by decide +kernel
theorem dX12_findChoice_102 : decode cX12_findChoice 102 = .ok (.iadd, 1) := by decide +kernel
theorem dX12_findChoice_103 : decode cX12_findChoice 103 = .ok (.invokevirtual 226, 3) := by decide +kernel
theorem dX12_findChoice_106 : decode cX12_findChoice 106 = .ok (.ineg, 1) := by decide +kernel
theorem dX12_findChoice_107 : decode cX12_findChoice 107 = .ok (.istore 7, 2) := by decide +kernel
theorem dX12_findChoice_109 : decode cX12_findChoice 109 = .ok (.iload 4, 2) := by decide +kernel
theorem dX12_findChoice_111 : decode cX12_findChoice 111 = .ok (.iconst 1, 1) := by decide +kernel
theorem dX12_findChoice_112 : decode cX12_findChoice 112 = .ok (.if_icmp .ne 8, 3) := by decide +kernel
theorem dX12_findChoice_115 : decode cX12_findChoice 115 = .ok (.iload 7, 2) := by decide +kernel
theorem dX12_findChoice_117 : decode cX12_findChoice 117 = .ok (.goto 6, 3) := by decide +kernel
theorem dX12_findChoice_120 : decode cX12_findChoice 120 = .ok (.iload 7, 2) := by decide +kernel
theorem dX12_findChoice_122 : decode cX12_findChoice 122 = .ok (.ineg, 1) := by decide +kernel
theorem dX12_findChoice_123 : decode cX12_findChoice 123 = .ok (.aload_n 0, 1) := by decide +kernel
theorem dX12_findChoice_124 : decode cX12_findChoice 124 = .ok (.getfield 65, 3) := by decide +kernel
theorem dX12_findChoice_127 : decode cX12_findChoice 127 = .ok (.iload_n 1, 1) := by decide +kernel
theorem dX12_findChoice_128 : decode cX12_findChoice 128 = .ok (.iload 4, 2) := by decide +kernel
theorem dX12_findChoice_130 : decode cX12_findChoice 130 = .ok (.iload 6, 2) := by decide +kernel
theorem dX12_findChoice_132 : decode cX12_findChoice 132 = .ok (.invokestatic 352, 3) := by decide +kernel
theorem dX12_findChoice_135 : decode cX12_findChoice 135 = .ok (.imul, 1) := by decide +kernel
theorem dX12_findChoice_136 : decode cX12_findChoice 136 = .ok (.iadd, 1) := by decide +kernel
theorem dX12_findChoice_137 : decode cX12_findChoice 137 = .ok (.iaload, 1) := by decide +kernel
theorem dX12_findChoice_138 : decode cX12_findChoice 138 = .ok (.iadd, 1) := by decide +kernel
theorem dX12_findChoice_139 : decode cX12_findChoice 139 = .ok (.istore 8, 2) := by decide +kernel
theorem dX12_findChoice_141 : decode cX12_findChoice 141 = .ok (.aload_n 0, 1) := by decide +kernel
theorem dX12_findChoice_142 : decode cX12_findChoice 142 = .ok (.getfield 361, 3) := by decide +kernel
theorem dX12_findChoice_145 : decode cX12_findChoice 145 = .ok (.iconst (-1), 1) := by decide +kernel
theorem dX12_findChoice_146 : decode cX12_findChoice 146 = .ok (.if_icmp .eq 34, 3) := by decide +kernel
theorem dX12_findChoice_149 : decode cX12_findChoice 149 = .ok (.iload 4, 2) := by decide +kernel
theorem dX12_findChoice_151 : decode cX12_findChoice 151 = .ok (.iconst 1, 1) := by decide +kernel
theorem dX12_findChoice_152 : decode cX12_findChoice 152 = .ok (.if_icmp .ne 17, 3) := by decide +kernel
theorem dX12_findChoice_155 : decode cX12_findChoice 155 = .ok (.iload 8, 2) := by decide +kernel
theorem dX12_findChoice_157 : decode cX12_findChoice 157 = .ok (.aload_n 0, 1) := by decide +kernel
theorem dX12_findChoice_158 : decode cX12_findChoice 158 = .ok (.getfield 65, 3) := by decide +kernel
theorem dX12_findChoice_161 : decode cX12_findChoice 161 = .ok (.iload_n 1, 1) := by decide +kernel
theorem dX12_findChoice_162 : decode cX12_findChoice 162 = .ok (.iaload, 1) := by decide +kernel
theorem dX12_findChoice_163 : decode cX12_findChoice 163 = .ok (.if_icmp .le 31, 3) := by decide +kernel
theorem dX12_findChoice_166 : decode cX12_findChoice 166 = .ok (.goto 14, 3) := by decide +kernel
theorem dX12_findChoice_169 : decode cX12_findChoice 169 = .ok (.iload 8, 2) := by decide +kernel
theorem dX12_findChoice_171 : decode cX12_findChoice 171 = .ok (.aload_n 0, 1) := by decide +kernel
theorem dX12_findChoice_172 : decode cX12_findChoice 172 = .ok (.getfield 65, 3) := by decide +kernel
theorem dX12_findChoice_175 : decode cX12_findChoice 175 = .ok (.iload_n 1, 1) := by decide +kernel
theorem dX12_findChoice_176 : decode cX12_findChoice 176 = .ok (.iaload, 1) := by decide +kernel
theorem dX12_findChoice_177 : decode cX12_findChoice 177 = .ok (.if_icmp .ge 17, 3) := by decide +kernel
theorem dX12_findChoice_180 : decode cX12_findChoice 180 = .ok (.aload_n 0, 1) := by decide +kernel
theorem dX12_findChoice_181 : decode cX12_findChoice 181 = .ok (.getfield 65, 3) := by decide +kernel
theorem dX12_findChoice_184 : decode cX12_findChoice 184 = .ok (.iload_n 1, 1) := by decide +kernel
theorem dX12_findChoice_185 : decode cX12_findChoice 185 = .ok (.iload 8, 2) := by decide +kernel
theorem dX12_findChoice_187 : decode cX12_findChoice 187 = .ok (.iastore, 1) := by decide +kernel
theorem dX12_findChoice_188 : decode cX12_findChoice 188 = .ok (.aload_n 0, 1) := by decide +kernel
theorem dX12_findChoice_189 : decode cX12_findChoice 189 = .ok (.iload 6, 2) := by decide +kernel
theorem dX12_findChoice_191 : decode cX12_findChoice 191 = .ok (.putfield 361, 3) := by decide +kernel
theorem dX12_findChoice_194 : decode cX12_findChoice 194 = .ok (.iinc 6 1, 3) := by decide +kernel
theorem dX12_findChoice_197 : decode cX12_findChoice 197 = .ok (.goto (-151), 3) := by decide +kernel
theorem dX12_findChoice_200 : decode cX12_findChoice 200 = .ok (.return_, 1) := by decide +kernel
theorem dX12_choice_0 : decode cX12_choice 0 = .ok (.aload_n 0, 1) := by decide +kernel
theorem dX12_choice_1 : decode cX12_choice 1 = .ok (.iconst 0, 1) := by decide +kernel
theorem dX12_choice_2 : decode cX12_choice 2 = .ok (.putfield 78, 3) := by decide +kernel
theorem dX12_choice_5 : decode cX12_choice 5 = .ok (.iload_n 2, 1) := by decide +kernel
theorem dX12_choice_6 : decode cX12_choice 6 = .ok (.iconst 0, 1) := by decide +kernel
theorem dX12_choice_7 : decode cX12_choice 7 = .ok (.iconst 5, 1) := by decide +kernel
theorem dX12_choice_8 : decode cX12_choice 8 = .ok (.invokestatic 90, 3) := by decide +kernel
theorem dX12_choice_11 : decode cX12_choice 11 = .ok (.ifCond .eq 11, 3) := by decide +kernel
theorem dX12_choice_14 : decode cX12_choice 14 = .ok (.aload_n 0, 1) := by decide +kernel
theorem dX12_choice_15 : decode cX12_choice 15 = .ok (.iload_n 1, 1) := by decide +kernel
theorem dX12_choice_16 : decode cX12_choice 16 = .ok (.invokevirtual 257, 3) := by decide +kernel
theorem dX12_choice_19 : decode cX12_choice 19 = .ok (.ifCond .ne 7, 3) := by decide +kernel
theorem dX12_choice_22 : decode cX12_choice 22 = .ok (.sipush (-999), 3) := by decide +kernel
theorem dX12_choice_25 : decode cX12_choice 25 = .ok (.ireturn, 1) := by decide +kernel
theorem dX12_choice_26 : decode cX12_choice 26 = .ok (.aload_n 0, 1) := by decide +kernel
theorem dX12_choice_27 : decode cX12_choice 27 = .ok (.getfield 230, 3) := by decide +kernel
theorem dX12_choice_30 : decode cX12_choice 30 = .ok (.invokestatic 352, 3) := by decide +kernel
theorem dX12_choice_33 : decode cX12_choice 33 = .ok (.iconst 1, 1) := by decide +kernel
theorem dX12_choice_34 : decode cX12_choice 34 = .ok (.isub, 1) := by decide +kernel
theorem dX12_choice_35 : decode cX12_choice 35 = .ok (.istore 4, 2) := by decide +kernel
theorem dX12_choice_37 : decode cX12_choice 37 = .ok (.iload 4, 2) := by decide +kernel
theorem dX12_choice_39 : decode cX12_choice 39 = .ok (.ifCond .lt 16, 3) := by decide +kernel
theorem dX12_choice_42 : decode cX12_choice 42 = .ok (.aload_n 0, 1) := by decide +kernel
theorem dX12_choice_43 : decode cX12_choice 43 = .ok (.iload 4, 2) := by decide +kernel
theorem dX12_choice_45 : decode cX12_choice 45 = .ok (.iload_n 2, 1) := by decide +kernel
theorem dX12_choice_46 : decode cX12_choice 46 = .ok (.invokevirtual 364, 3) := by decide +kernel
theorem dX12_choice_49 : decode cX12_choice 49 = .ok (.iinc 4 (-1), 3) := by decide +kernel
theorem dX12_choice_52 : decode cX12_choice 52 = .ok (.goto (-15), 3) := by decide +kernel
theorem dX12_choice_55 : decode cX12_choice 55 = .ok (.iload_n 3, 1) := by decide +kernel
theorem dX12_choice_56 : decode cX12_choice 56 = .ok (.ifCond .eq 10, 3) := by decide +kernel
theorem dX12_choice_59 : decode cX12_choice 59 = .ok (.aload_n 0, 1) := by decide +kernel
theorem dX12_choice_60 : decode cX12_choice 60 = .ok (.getfield 361, 3) := by decide +kernel
theorem dX12_choice_63 : decode cX12_choice 63 = .ok (.goto 9, 3) := by decide +kernel
theorem dX12_choice_66 : decode cX12_choice 66 = .ok (.aload_n 0, 1) := by decide +kernel
theorem dX12_choice_67 : decode cX12_choice 67 = .ok (.getfield 65, 3) := by decide +kernel
theorem dX12_choice_70 : decode cX12_choice 70 = .ok (.iconst 0, 1) := by decide +kernel
theorem dX12_choice_71 : decode cX12_choice 71 = .ok (.iaload, 1) := by decide +kernel
theorem dX12_choice_72 : decode cX12_choice 72 = .ok (.ireturn, 1) := by decide +kernel
theorem dX12_common_0 : decode cX12_common 0 = .ok (.lload_n 0, 1) := by decide +kernel
theorem dX12_common_1 : decode cX12_common 1 = .ok (.lstore 4, 2) := by decide +kernel
theorem dX12_common_3 : decode cX12_common 3 = .ok (.lload_n 2, 1) := by decide +kernel
theorem dX12_common_4 : decode cX12_common 4 = .ok (.lstore 6, 2) := by decide +kernel
theorem dX12_common_6 : decode cX12_common 6 = .ok (.lload 6, 2) := by decide +kernel
theorem dX12_common_8 : decode cX12_common 8 = .ok (.lconst 0, 1) := by decide +kernel
theorem dX12_common_9 : decode cX12_common 9 = .ok (.lcmp, 1) := by decide +kernel
theorem dX12_common_10 : decode cX12_common 10 = .ok (.ifCond .eq 21, 3) := by decide +kernel
theorem dX12_common_13 : decode cX12_common 13 = .ok (.lload 4, 2) := by decide +kernel
theorem dX12_common_15 : decode cX12_common 15 = .ok (.lload 6, 2) := by decide +kernel
theorem dX12_common_17 : decode cX12_common 17 = .ok (.lrem, 1) := by decide +kernel
theorem dX12_common_18 : decode cX12_common 18 = .ok (.lstore 8, 2) := by decide +kernel
theorem dX12_common_20 : decode cX12_common 20 = .ok (.lload 6, 2) := by decide +kernel
theorem dX12_common_22 : decode cX12_common 22 = .ok (.lstore 4, 2) := by decide +kernel
theorem dX12_common_24 : decode cX12_common 24 = .ok (.lload 8, 2) := by decide +kernel
theorem dX12_common_26 : decode cX12_common 26 = .ok (.lstore 6, 2) := by decide +kernel
theorem dX12_common_28 : decode cX12_common 28 = .ok (.goto (-22), 3) := by decide +kernel
theorem dX12_common_31 : decode cX12_common 31 = .ok (.lload 4, 2) := by decide +kernel
theorem dX12_common_33 : decode cX12_common 33 = .ok (.lreturn, 1) := by decide +kernel
theorem dX12_part_0 : decode cX12_part 0 = .ok (.iload 4, 2) := by decide +kernel
theorem dX12_part_2 : decode cX12_part 2 = .ok (.ifCond .eq 7, 3) := by decide +kernel
theorem dX12_part_5 : decode cX12_part 5 = .ok (.lload_n 2, 1) := by decide +kernel
theorem dX12_part_6 : decode cX12_part 6 = .ok (.goto 4, 3) := by decide +kernel
theorem dX12_part_9 : decode cX12_part 9 = .ok (.lload_n 0, 1) := by decide +kernel
theorem dX12_part_10 : decode cX12_part 10 = .ok (.lload_n 2, 1) := by decide +kernel
theorem dX12_part_11 : decode cX12_part 11 = .ok (.lload_n 0, 1) := by decide +kernel
theorem dX12_part_12 : decode cX12_part 12 = .ok (.invokestatic 367, 3) := by decide +kernel
theorem dX12_part_15 : decode cX12_part 15 = .ok (.ldiv, 1) := by decide +kernel
theorem dX12_part_16 : decode cX12_part 16 = .ok (.lreturn, 1) := by decide +kernel
theorem dX12_power_0 : decode cX12_power 0 = .ok (.lconst 1, 1) := by decide +kernel
theorem dX12_power_1 : decode cX12_power 1 = .ok (.lstore_n 3, 1) := by decide +kernel
theorem dX12_power_2 : decode cX12_power 2 = .ok (.iconst 0, 1) := by decide +kernel
theorem dX12_power_3 : decode cX12_power 3 = .ok (.istore 5, 2) := by decide +kernel
theorem dX12_power_5 : decode cX12_power 5 = .ok (.iload 5, 2) := by decide +kernel
theorem dX12_power_7 : decode cX12_power 7 = .ok (.iload_n 2, 1) := by decide +kernel
theorem dX12_power_8 : decode cX12_power 8 = .ok (.if_icmp .ge 13, 3) := by decide +kernel
theorem dX12_power_11 : decode cX12_power 11 = .ok (.lload_n 3, 1) := by decide +kernel
theorem dX12_power_12 : decode cX12_power 12 = .ok (.lload_n 0, 1) := by decide +kernel
theorem dX12_power_13 : decode cX12_power 13 = .ok (.lmul, 1) := by decide +kernel
theorem dX12_power_14 : decode cX12_power 14 = .ok (.lstore_n 3, 1) := by decide +kernel
theorem dX12_power_15 : decode cX12_power 15 = .ok (.iinc 5 1, 3) := by decide +kernel
theorem dX12_power_18 : decode cX12_power 18 = .ok (.goto (-13), 3) := by decide +kernel
theorem dX12_power_21 : decode cX12_power 21 = .ok (.lload_n 3, 1) := by decide +kernel
theorem dX12_power_22 : decode cX12_power 22 = .ok (.lreturn, 1) := by decide +kernel
theorem dX12_talk_0 : decode cX12_talk 0 = .ok (.aload_n 0, 1) := by decide +kernel
theorem dX12_talk_1 : decode cX12_talk 1 = .ok (.iconst 0, 1) := by decide +kernel
theorem dX12_talk_2 : decode cX12_talk 2 = .ok (.putfield 78, 3) := by decide +kernel
theorem dX12_talk_5 : decode cX12_talk 5 = .ok (.iload_n 3, 1) := by decide +kernel
theorem dX12_talk_6 : decode cX12_talk 6 = .ok (.iconst 0, 1) := by decide +kernel
theorem dX12_talk_7 : decode cX12_talk 7 = .ok (.bipush 10, 2) := by decide +kernel
theorem dX12_talk_9 : decode cX12_talk 9 = .ok (.invokestatic 90, 3) := by decide +kernel
theorem dX12_talk_12 : decode cX12_talk 12 = .ok (.ifCond .eq 30, 3) := by decide +kernel
theorem dX12_talk_15 : decode cX12_talk 15 = .ok (.iload 4, 2) := by decide +kernel
theorem dX12_talk_17 : decode cX12_talk 17 = .ok (.iconst 0, 1) := by decide +kernel
theorem dX12_talk_18 : decode cX12_talk 18 = .ok (.bipush 12, 2) := by decide +kernel
theorem dX12_talk_20 : decode cX12_talk 20 = .ok (.invokestatic 90, 3) := by decide +kernel
theorem dX12_talk_23 : decode cX12_talk 23 = .ok (.ifCond .eq 19, 3) := by decide +kernel
theorem dX12_talk_26 : decode cX12_talk 26 = .ok (.aload_n 0, 1) := by decide +kernel
theorem dX12_talk_27 : decode cX12_talk 27 = .ok (.iload_n 1, 1) := by decide +kernel
theorem dX12_talk_28 : decode cX12_talk 28 = .ok (.invokevirtual 257, 3) := by decide +kernel
theorem dX12_talk_31 : decode cX12_talk 31 = .ok (.ifCond .eq 11, 3) := by decide +kernel
theorem dX12_talk_34 : decode cX12_talk 34 = .ok (.aload_n 0, 1) := by decide +kernel
theorem dX12_talk_35 : decode cX12_talk 35 = .ok (.iload_n 2, 1) := by decide +kernel
theorem dX12_talk_36 : decode cX12_talk 36 = .ok (.invokevirtual 260, 3) := by decide +kernel
theorem dX12_talk_39 : decode cX12_talk 39 = .ok (.ifCond .ne 7, 3) := by decide +kernel
theorem dX12_talk_42 : decode cX12_talk 42 = .ok (.ldc2_w 371, 3) := by decide +kernel
theorem dX12_talk_45 : decode cX12_talk 45 = .ok (.lreturn, 1) := by decide +kernel
theorem dX12_talk_46 : decode cX12_talk 46 = .ok (.lconst 0, 1) := by decide +kernel
theorem dX12_talk_47 : decode cX12_talk 47 = .ok (.lstore 6, 2) := by decide +kernel
theorem dX12_talk_49 : decode cX12_talk 49 = .ok (.lconst 1, 1) := by decide +kernel
theorem dX12_talk_50 : decode cX12_talk 50 = .ok (.lstore 8, 2) := by decide +kernel
theorem dX12_talk_52 : decode cX12_talk 52 = .ok (.iconst 0, 1) := by decide +kernel
theorem dX12_talk_53 : decode cX12_talk 53 = .ok (.istore 10, 2) := by decide +kernel
theorem dX12_talk_55 : decode cX12_talk 55 = .ok (.iload 10, 2) := by decide +kernel
theorem dX12_talk_57 : decode cX12_talk 57 = .ok (.iload 4, 2) := by decide +kernel
theorem dX12_talk_59 : decode cX12_talk 59 = .ok (.if_icmp .gt 70, 3) := by decide +kernel
theorem dX12_talk_62 : decode cX12_talk 62 = .ok (.lload 6, 2) := by decide +kernel
theorem dX12_talk_64 : decode cX12_talk 64 = .ok (.iload 10, 2) := by decide +kernel
theorem dX12_talk_66 : decode cX12_talk 66 = .ok (.aload_n 0, 1) := by decide +kernel
theorem dX12_talk_67 : decode cX12_talk 67 = .ok (.iload_n 2, 1) := by decide +kernel
theorem dX12_talk_68 : decode cX12_talk 68 = .ok (.invokevirtual 311, 3) := by decide +kernel
theorem dX12_talk_71 : decode cX12_talk 71 = .ok (.if_icmp .lt 31, 3) := by decide +kernel
theorem dX12_talk_74 : decode cX12_talk 74 = .ok (.lload 8, 2) := by decide +kernel
theorem dX12_talk_76 : decode cX12_talk 76 = .ok (.iload_n 3, 1) := by decide +kernel
theorem dX12_talk_77 : decode cX12_talk 77 = .ok (.i2l, 1) := by decide +kernel
theorem dX12_talk_78 : decode cX12_talk 78 = .ok (.iload 10, 2) := by decide +kernel
theorem dX12_talk_80 : decode cX12_talk 80 = .ok (.invokestatic 373, 3) := by decide +kernel
theorem dX12_talk_83 : decode cX12_talk 83 = .ok (.lmul, 1) := by decide +kernel
theorem dX12_talk_84 : decode cX12_talk 84 = .ok (.ldc2_w 377, 3) := by decide +kernel
theorem dX12_talk_87 : decode cX12_talk 87 = .ok (.iload_n 3, 1) := by decide +kernel
theorem dX12_talk_88 : decode cX12_talk 88 = .ok (.i2l, 1) := by decide +kernel
theorem dX12_talk_89 : decode cX12_talk 89 = .ok (.lsub, 1) := by decide +kernel
theorem dX12_talk_90 : decode cX12_talk 90 = .ok (.iload 4, 2) := by decide +kernel
theorem dX12_talk_92 : decode cX12_talk 92 = .ok (.iload 10, 2) := by decide +kernel
theorem dX12_talk_94 : decode cX12_talk 94 = .ok (.isub, 1) := by decide +kernel
theorem dX12_talk_95 : decode cX12_talk 95 = .ok (.invokestatic 373, 3) := by decide +kernel
theorem dX12_talk_98 : decode cX12_talk 98 = .ok (.lmul, 1) := by decide +kernel
theorem dX12_talk_99 : decode cX12_talk 99 = .ok (.goto 4, 3) := by decide +kernel
theorem dX12_talk_102 : decode cX12_talk 102 = .ok (.lconst 0, 1) := by decide +kernel
theorem dX12_talk_103 : decode cX12_talk 103 = .ok (.ladd, 1) := by decide +kernel
theorem dX12_talk_104 : decode cX12_talk 104 = .ok (.lstore 6, 2) := by decide +kernel
theorem dX12_talk_106 : decode cX12_talk 106 = .ok (.lload 8, 2) := by decide +kernel
theorem dX12_talk_108 : decode cX12_talk 108 = .ok (.iload 4, 2) := by decide +kernel
theorem dX12_talk_110 : decode cX12_talk 110 = .ok (.iload 10, 2) := by decide +kernel
theorem dX12_talk_112 : decode cX12_talk 112 = .ok (.isub, 1) := by decide +kernel
theorem dX12_talk_113 : decode cX12_talk 113 = .ok (.i2l, 1) := by decide +kernel
theorem dX12_talk_114 : decode cX12_talk 114 = .ok (.lmul, 1) := by decide +kernel
theorem dX12_talk_115 : decode cX12_talk 115 = .ok (.iload 10, 2) := by decide +kernel
theorem dX12_talk_117 : decode cX12_talk 117 = .ok (.iconst 1, 1) := by decide +kernel
theorem dX12_talk_118 : decode cX12_talk 118 = .ok (.iadd, 1) := by decide +kernel
theorem dX12_talk_119 : decode cX12_talk 119 = .ok (.i2l, 1) := by decide +kernel
theorem dX12_talk_120 : decode cX12_talk 120 = .ok (.ldiv, 1) := by decide +kernel
theorem dX12_talk_121 : decode cX12_talk 121 = .ok (.lstore 8, 2) := by decide +kernel
theorem dX12_talk_123 : decode cX12_talk 123 = .ok (.iinc 10 1, 3) := by decide +kernel
theorem dX12_talk_126 : decode cX12_talk 126 = .ok (.goto (-71), 3) := by decide +kernel
theorem dX12_talk_129 : decode cX12_talk 129 = .ok (.lload 6, 2) := by decide +kernel
theorem dX12_talk_131 : decode cX12_talk 131 = .ok (.ldc2_w 377, 3) := by decide +kernel
theorem dX12_talk_134 : decode cX12_talk 134 = .ok (.iload 4, 2) := by decide +kernel
theorem dX12_talk_136 : decode cX12_talk 136 = .ok (.invokestatic 373, 3) := by decide +kernel
theorem dX12_talk_139 : decode cX12_talk 139 = .ok (.iload 5, 2) := by decide +kernel
theorem dX12_talk_141 : decode cX12_talk 141 = .ok (.invokestatic 379, 3) := by decide +kernel
theorem dX12_talk_144 : decode cX12_talk 144 = .ok (.lreturn, 1) := by decide +kernel
theorem dX12_factOf_0 : decode cX12_factOf 0 = .ok (.aload_n 0, 1) := by decide +kernel
theorem dX12_factOf_1 : decode cX12_factOf 1 = .ok (.getfield 32, 3) := by decide +kernel
theorem dX12_factOf_4 : decode cX12_factOf 4 = .ok (.bipush 25, 2) := by decide +kernel
theorem dX12_factOf_6 : decode cX12_factOf 6 = .ok (.aload_n 0, 1) := by decide +kernel
theorem dX12_factOf_7 : decode cX12_factOf 7 = .ok (.getfield 383, 3) := by decide +kernel
theorem dX12_factOf_10 : decode cX12_factOf 10 = .ok (.imul, 1) := by decide +kernel
theorem dX12_factOf_11 : decode cX12_factOf 11 = .ok (.iconst 1, 1) := by decide +kernel
theorem dX12_factOf_12 : decode cX12_factOf 12 = .ok (.iadd, 1) := by decide +kernel
theorem dX12_factOf_13 : decode cX12_factOf 13 = .ok (.iconst 3, 1) := by decide +kernel
theorem dX12_factOf_14 : decode cX12_factOf 14 = .ok (.iload_n 1, 1) := by decide +kernel
theorem dX12_factOf_15 : decode cX12_factOf 15 = .ok (.imul, 1) := by decide +kernel
theorem dX12_factOf_16 : decode cX12_factOf 16 = .ok (.iadd, 1) := by decide +kernel
theorem dX12_factOf_17 : decode cX12_factOf 17 = .ok (.iload_n 2, 1) := by decide +kernel
theorem dX12_factOf_18 : decode cX12_factOf 18 = .ok (.iadd, 1) := by decide +kernel
theorem dX12_factOf_19 : decode cX12_factOf 19 = .ok (.iaload, 1) := by decide +kernel
theorem dX12_factOf_20 : decode cX12_factOf 20 = .ok (.ireturn, 1) := by decide +kernel
theorem dX12_facts_0 : decode cX12_facts 0 = .ok (.aload_n 0, 1) := by decide +kernel
theorem dX12_facts_1 : decode cX12_facts 1 = .ok (.getfield 32, 3) := by decide +kernel
theorem dX12_facts_4 : decode cX12_facts 4 = .ok (.bipush 25, 2) := by decide +kernel
theorem dX12_facts_6 : decode cX12_facts 6 = .ok (.aload_n 0, 1) := by decide +kernel
theorem dX12_facts_7 : decode cX12_facts 7 = .ok (.getfield 383, 3) := by decide +kernel
theorem dX12_facts_10 : decode cX12_facts 10 = .ok (.imul, 1) := by decide +kernel
theorem dX12_facts_11 : decode cX12_facts 11 = .ok (.iaload, 1) := by decide +kernel
theorem dX12_facts_12 : decode cX12_facts 12 = .ok (.ireturn, 1) := by decide +kernel
theorem dX12_hasLog_0 : decode cX12_hasLog 0 = .ok (.aload_n 0, 1) := by decide +kernel
theorem dX12_hasLog_1 : decode cX12_hasLog 1 = .ok (.iload_n 1, 1) := by decide +kernel
theorem dX12_hasLog_2 : decode cX12_hasLog 2 = .ok (.putfield 383, 3) := by decide +kernel
theorem dX12_hasLog_5 : decode cX12_hasLog 5 = .ok (.aload_n 0, 1) := by decide +kernel
theorem dX12_hasLog_6 : decode cX12_hasLog 6 = .ok (.iconst 2, 1) := by decide +kernel
theorem dX12_hasLog_7 : decode cX12_hasLog 7 = .ok (.iload_n 1, 1) := by decide +kernel
theorem dX12_hasLog_8 : decode cX12_hasLog 8 = .ok (.invokevirtual 213, 3) := by decide +kernel
theorem dX12_hasLog_11 : decode cX12_hasLog 11 = .ok (.ireturn, 1) := by decide +kernel
theorem dX12_fact_0 : decode cX12_fact 0 = .ok (.aload_n 0, 1) := by decide +kernel
theorem dX12_fact_1 : decode cX12_fact 1 = .ok (.iconst 0, 1) := by decide +kernel
theorem dX12_fact_2 : decode cX12_fact 2 = .ok (.putfield 78, 3) := by decide +kernel
theorem dX12_fact_5 : decode cX12_fact 5 = .ok (.aload_n 0, 1) := by decide +kernel
theorem dX12_fact_6 : decode cX12_fact 6 = .ok (.iload_n 1, 1) := by decide +kernel
theorem dX12_fact_7 : decode cX12_fact 7 = .ok (.invokevirtual 386, 3) := by decide +kernel
theorem dX12_fact_10 : decode cX12_fact 10 = .ok (.ifCond .ne 6, 3) := by decide +kernel
theorem dX12_fact_13 : decode cX12_fact 13 = .ok (.bipush (-2), 2) := by decide +kernel
theorem dX12_fact_15 : decode cX12_fact 15 = .ok (.ireturn, 1) := by decide +kernel
theorem dX12_fact_16 : decode cX12_fact 16 = .ok (.iload_n 2, 1) := by decide +kernel
theorem dX12_fact_17 : decode cX12_fact 17 = .ok (.iconst (-1), 1) := by decide +kernel
theorem dX12_fact_18 : decode cX12_fact 18 = .ok (.if_icmp .ne 17, 3) := by decide +kernel
theorem dX12_fact_21 : decode cX12_fact 21 = .ok (.iload_n 3, 1) := by decide +kernel
theorem dX12_fact_22 : decode cX12_fact 22 = .ok (.ifCond .ne 10, 3) := by decide +kernel
theorem dX12_fact_25 : decode cX12_fact 25 = .ok (.aload_n 0, 1) := by decide +kernel
theorem dX12_fact_26 : decode cX12_fact 26 = .ok (.invokevirtual 389, 3) := by decide +kernel
theorem dX12_fact_29 : decode cX12_fact 29 = .ok (.goto 5, 3) := by decide +kernel
theorem dX12_fact_32 : decode cX12_fact 32 = .ok (.bipush (-2), 2) := by decide +kernel
theorem dX12_fact_34 : decode cX12_fact 34 = .ok (.ireturn, 1) := by decide +kernel
theorem dX12_fact_35 : decode cX12_fact 35 = .ok (.iload_n 2, 1) := by decide +kernel
theorem dX12_fact_36 : decode cX12_fact 36 = .ok (.iconst 0, 1) := by decide +kernel
theorem dX12_fact_37 : decode cX12_fact 37 = .ok (.aload_n 0, 1) := by decide +kernel
theorem dX12_fact_38 : decode cX12_fact 38 = .ok (.invokevirtual 389, 3) := by decide +kernel
theorem dX12_fact_41 : decode cX12_fact 41 = .ok (.iconst 1, 1) := by decide +kernel
theorem dX12_fact_42 : decode cX12_fact 42 = .ok (.isub, 1) := by decide +kernel
theorem dX12_fact_43 : decode cX12_fact 43 = .ok (.invokestatic 90, 3) := by decide +kernel
theorem dX12_fact_46 : decode cX12_fact 46 = .ok (.ifCond .eq 21, 3) := by decide +kernel
theorem dX12_fact_49 : decode cX12_fact 49 = .ok (.iload_n 3, 1) := by decide +kernel
theorem dX12_fact_50 : decode cX12_fact 50 = .ok (.iconst 0, 1) := by decide +kernel
theorem dX12_fact_51 : decode cX12_fact 51 = .ok (.iconst 2, 1) := by decide +kernel
theorem dX12_fact_52 : decode cX12_fact 52 = .ok (.invokestatic 90, 3) := by decide +kernel
theorem dX12_fact_55 : decode cX12_fact 55 = .ok (.ifCond .eq 12, 3) := by decide +kernel
theorem dX12_fact_58 : decode cX12_fact 58 = .ok (.aload_n 0, 1) := by decide +kernel
theorem dX12_fact_59 : decode cX12_fact 59 = .ok (.iload_n 2, 1) := by decide +kernel
theorem dX12_fact_60 : decode cX12_fact 60 = .ok (.iload_n 3, 1) := by decide +kernel
theorem dX12_fact_61 : decode cX12_fact 61 = .ok (.invokevirtual 392, 3) := by decide +kernel
theorem dX12_fact_64 : decode cX12_fact 64 = .ok (.goto 5, 3) := by decide +kernel
theorem dX12_fact_67 : decode cX12_fact 67 = .ok (.bipush (-2), 2) := by decide +kernel
theorem dX12_fact_69 : decode cX12_fact 69 = .ok (.ireturn, 1) := by decide +kernel
theorem dX12_hateNone_0 : decode cX12_hateNone 0 = .ok (.iconst 0, 1) := by decide +kernel
theorem dX12_hateNone_1 : decode cX12_hateNone 1 = .ok (.istore_n 2, 1) := by decide +kernel
theorem dX12_hateNone_2 : decode cX12_hateNone 2 = .ok (.iload_n 2, 1) := by decide +kernel
theorem dX12_hateNone_3 : decode cX12_hateNone 3 = .ok (.aload_n 0, 1) := by decide +kernel
theorem dX12_hateNone_4 : decode cX12_hateNone 4 = .ok (.getfield 230, 3) := by decide +kernel
theorem dX12_hateNone_7 : decode cX12_hateNone 7 = .ok (.if_icmp .ge 32, 3) := by decide +kernel
theorem dX12_hateNone_10 : decode cX12_hateNone 10 = .ok (.iload_n 1, 1) := by decide +kernel
theorem dX12_hateNone_11 : decode cX12_hateNone 11 = .ok (.iload_n 2, 1) := by decide +kernel
theorem dX12_hateNone_12 : decode cX12_hateNone 12 = .ok (.invokestatic 82, 3) := by decide +kernel
theorem dX12_hateNone_15 : decode cX12_hateNone 15 = .ok (.ifCond .eq 18, 3) := by decide +kernel
theorem dX12_hateNone_18 : decode cX12_hateNone 18 = .ok (.aload_n 0, 1) := by decide +kernel
theorem dX12_hateNone_19 : decode cX12_hateNone 19 = .ok (.bipush 13, 2) := by decide +kernel
theorem dX12_hateNone_21 : decode cX12_hateNone 21 = .ok (.iload_n 2, 1) := by decide +kernel
theorem dX12_hateNone_22 : decode cX12_hateNone 22 = .ok (.iadd, 1) := by decide +kernel
theorem dX12_hateNone_23 : decode cX12_hateNone 23 = .ok (.invokevirtual 226, 3) := by decide +kernel
theorem dX12_hateNone_26 : decode cX12_hateNone 26 = .ok (.iload_n 1, 1) := by decide +kernel
theorem dX12_hateNone_27 : decode cX12_hateNone 27 = .ok (.iand, 1) := by decide +kernel
theorem dX12_hateNone_28 : decode cX12_hateNone 28 = .ok (.ifCond .eq 5, 3) := by decide +kernel
theorem dX12_hateNone_31 : decode cX12_hateNone 31 = .ok (.iconst 0, 1) := by decide +kernel
theorem dX12_hateNone_32 : decode cX12_hateNone 32 = .ok (.ireturn, 1) := by decide +kernel
theorem dX12_hateNone_33 : decode cX12_hateNone 33 = .ok (.iinc 2 1, 3) := by decide +kernel
theorem dX12_hateNone_36 : decode cX12_hateNone 36 = .ok (.goto (-34), 3) := by decide +kernel
theorem dX12_hateNone_39 : decode cX12_hateNone 39 = .ok (.iconst 1, 1) := by decide +kernel
theorem dX12_hateNone_40 : decode cX12_hateNone 40 = .ok (.ireturn, 1) := by decide +kernel
theorem dX12_allOf_0 : decode cX12_allOf 0 = .ok (.iload_n 0, 1) := by decide +kernel
theorem dX12_allOf_1 : decode cX12_allOf 1 = .ok (.bipush 100, 2) := by decide +kernel
theorem dX12_allOf_3 : decode cX12_allOf 3 = .ok (.irem, 1) := by decide +kernel
theorem dX12_allOf_4 : decode cX12_allOf 4 = .ok (.iconst 1, 1) := by decide +kernel
theorem dX12_allOf_5 : decode cX12_allOf 5 = .ok (.iload_n 0, 1) := by decide +kernel
theorem dX12_allOf_6 : decode cX12_allOf 6 = .ok (.bipush 100, 2) := by decide +kernel
theorem dX12_allOf_8 : decode cX12_allOf 8 = .ok (.idiv, 1) := by decide +kernel
theorem dX12_allOf_9 : decode cX12_allOf 9 = .ok (.ishl, 1) := by decide +kernel
theorem dX12_allOf_10 : decode cX12_allOf 10 = .ok (.ior, 1) := by decide +kernel
theorem dX12_allOf_11 : decode cX12_allOf 11 = .ok (.ireturn, 1) := by decide +kernel
theorem dX12_isFit_0 : decode cX12_isFit 0 = .ok (.iload_n 2, 1) := by decide +kernel
theorem dX12_isFit_1 : decode cX12_isFit 1 = .ok (.ifCond .eq 23, 3) := by decide +kernel
theorem dX12_isFit_4 : decode cX12_isFit 4 = .ok (.iload_n 2, 1) := by decide +kernel
theorem dX12_isFit_5 : decode cX12_isFit 5 = .ok (.iload_n 1, 1) := by decide +kernel
theorem dX12_isFit_6 : decode cX12_isFit 6 = .ok (.invokestatic 82, 3) := by decide +kernel
theorem dX12_isFit_9 : decode cX12_isFit 9 = .ok (.ifCond .ne 15, 3) := by decide +kernel
theorem dX12_isFit_12 : decode cX12_isFit 12 = .ok (.aload_n 0, 1) := by decide +kernel
theorem dX12_isFit_13 : decode cX12_isFit 13 = .ok (.iload_n 2, 1) := by decide +kernel
theorem dX12_isFit_14 : decode cX12_isFit 14 = .ok (.invokevirtual 395, 3) := by decide +kernel
theorem dX12_isFit_17 : decode cX12_isFit 17 = .ok (.ifCond .eq 7, 3) := by decide +kernel
theorem dX12_isFit_20 : decode cX12_isFit 20 = .ok (.iconst 1, 1) := by decide +kernel
theorem dX12_isFit_21 : decode cX12_isFit 21 = .ok (.goto 4, 3) := by decide +kernel
theorem dX12_isFit_24 : decode cX12_isFit 24 = .ok (.iconst 0, 1) := by decide +kernel
theorem dX12_isFit_25 : decode cX12_isFit 25 = .ok (.istore_n 3, 1) := by decide +kernel
theorem dX12_isFit_26 : decode cX12_isFit 26 = .ok (.iload_n 2, 1) := by decide +kernel
theorem dX12_isFit_27 : decode cX12_isFit 27 = .ok (.iconst 1, 1) := by decide +kernel
theorem dX12_isFit_28 : decode cX12_isFit 28 = .ok (.iload_n 1, 1) := by decide +kernel
theorem dX12_isFit_29 : decode cX12_isFit 29 = .ok (.ishl, 1) := by decide +kernel
theorem dX12_isFit_30 : decode cX12_isFit 30 = .ok (.ior, 1) := by decide +kernel
theorem dX12_isFit_31 : decode cX12_isFit 31 = .ok (.istore 4, 2) := by decide +kernel
theorem dX12_isFit_33 : decode cX12_isFit 33 = .ok (.iconst 0, 1) := by decide +kernel
theorem dX12_isFit_34 : decode cX12_isFit 34 = .ok (.istore 5, 2) := by decide +kernel
theorem dX12_isFit_36 : decode cX12_isFit 36 = .ok (.iload 5, 2) := by decide +kernel
theorem dX12_isFit_38 : decode cX12_isFit 38 = .ok (.aload_n 0, 1) := by decide +kernel
theorem dX12_isFit_39 : decode cX12_isFit 39 = .ok (.invokevirtual 389, 3) := by decide +kernel
theorem dX12_isFit_42 : decode cX12_isFit 42 = .ok (.if_icmp .ge 102, 3) := by decide +kernel
theorem dX12_isFit_45 : decode cX12_isFit 45 = .ok (.iload_n 3, 1) := by decide +kernel
theorem dX12_isFit_46 : decode cX12_isFit 46 = .ok (.ifCond .eq 98, 3) := by decide +kernel
theorem dX12_isFit_49 : decode cX12_isFit 49 = .ok (.aload_n 0, 1) := by decide +kernel
theorem dX12_isFit_50 : decode cX12_isFit 50 = .ok (.iload 5, 2) := by decide +kernel
theorem dX12_isFit_52 : decode cX12_isFit 52 = .ok (.iconst 1, 1) := by decide +kernel
theorem dX12_isFit_53 : decode cX12_isFit 53 = .ok (.invokevirtual 392, 3) := by decide +kernel
theorem dX12_isFit_56 : decode cX12_isFit 56 = .ok (.istore 6, 2) := by decide +kernel
theorem dX12_isFit_58 : decode cX12_isFit 58 = .ok (.aload_n 0, 1) := by decide +kernel
theorem dX12_isFit_59 : decode cX12_isFit 59 = .ok (.iload 5, 2) := by decide +kernel
theorem dX12_isFit_61 : decode cX12_isFit 61 = .ok (.iconst 2, 1) := by decide +kernel
theorem dX12_isFit_62 : decode cX12_isFit 62 = .ok (.invokevirtual 392, 3) := by decide +kernel
theorem dX12_isFit_65 : decode cX12_isFit 65 = .ok (.istore 7, 2) := by decide +kernel
theorem dX12_isFit_67 : decode cX12_isFit 67 = .ok (.iload 4, 2) := by decide +kernel
theorem dX12_isFit_69 : decode cX12_isFit 69 = .ok (.iload 6, 2) := by decide +kernel
theorem dX12_isFit_71 : decode cX12_isFit 71 = .ok (.invokestatic 82, 3) := by decide +kernel
theorem dX12_isFit_74 : decode cX12_isFit 74 = .ok (.ifCond .eq 17, 3) := by decide +kernel
theorem dX12_isFit_77 : decode cX12_isFit 77 = .ok (.iload 4, 2) := by decide +kernel
theorem dX12_isFit_79 : decode cX12_isFit 79 = .ok (.iload 7, 2) := by decide +kernel
theorem dX12_isFit_81 : decode cX12_isFit 81 = .ok (.invokestatic 82, 3) := by decide +kernel
theorem dX12_isFit_84 : decode cX12_isFit 84 = .ok (.ifCond .eq 7, 3) := by decide +kernel
theorem dX12_isFit_87 : decode cX12_isFit 87 = .ok (.iconst 1, 1) := by decide +kernel
theorem dX12_isFit_88 : decode cX12_isFit 88 = .ok (.goto 4, 3) := by decide +kernel
theorem dX12_isFit_91 : decode cX12_isFit 91 = .ok (.iconst 0, 1) := by decide +kernel
theorem dX12_isFit_92 : decode cX12_isFit 92 = .ok (.istore 8, 2) := by decide +kernel
theorem dX12_isFit_94 : decode cX12_isFit 94 = .ok (.aload_n 0, 1) := by decide +kernel
theorem dX12_isFit_95 : decode cX12_isFit 95 = .ok (.iload 6, 2) := by decide +kernel
theorem dX12_isFit_97 : decode cX12_isFit 97 = .ok (.invokevirtual 260, 3) := by decide +kernel
theorem dX12_isFit_100 : decode cX12_isFit 100 = .ok (.ifCond .eq 36, 3) := by decide +kernel
theorem dX12_isFit_103 : decode cX12_isFit 103 = .ok (.aload_n 0, 1) := by decide +kernel
theorem dX12_isFit_104 : decode cX12_isFit 104 = .ok (.iload 7, 2) := by decide +kernel
theorem dX12_isFit_106 : decode cX12_isFit 106 = .ok (.invokevirtual 260, 3) := by decide +kernel
theorem dX12_isFit_109 : decode cX12_isFit 109 = .ok (.ifCond .eq 27, 3) := by decide +kernel
theorem dX12_isFit_112 : decode cX12_isFit 112 = .ok (.iload 8, 2) := by decide +kernel
theorem dX12_isFit_114 : decode cX12_isFit 114 = .ok (.aload_n 0, 1) := by decide +kernel
theorem dX12_isFit_115 : decode cX12_isFit 115 = .ok (.iload 5, 2) := by decide +kernel
theorem dX12_isFit_117 : decode cX12_isFit 117 = .ok (.iconst 0, 1) := by decide +kernel
theorem dX12_isFit_118 : decode cX12_isFit 118 = .ok (.invokevirtual 392, 3) := by decide +kernel
theorem dX12_isFit_121 : decode cX12_isFit 121 = .ok (.ifCond .ne 7, 3) := by decide +kernel
theorem dX12_isFit_124 : decode cX12_isFit 124 = .ok (.iconst 1, 1) := by decide +kernel
theorem dX12_isFit_125 : decode cX12_isFit 125 = .ok (.goto 4, 3) := by decide +kernel
theorem dX12_isFit_128 : decode cX12_isFit 128 = .ok (.iconst 0, 1) := by decide +kernel
theorem dX12_isFit_129 : decode cX12_isFit 129 = .ok (.if_icmp .ne 7, 3) := by decide +kernel
theorem dX12_isFit_132 : decode cX12_isFit 132 = .ok (.iconst 1, 1) := by decide +kernel
theorem dX12_isFit_133 : decode cX12_isFit 133 = .ok (.goto 4, 3) := by decide +kernel
theorem dX12_isFit_136 : decode cX12_isFit 136 = .ok (.iconst 0, 1) := by decide +kernel
theorem dX12_isFit_137 : decode cX12_isFit 137 = .ok (.istore_n 3, 1) := by decide +kernel
theorem dX12_isFit_138 : decode cX12_isFit 138 = .ok (.iinc 5 1, 3) := by decide +kernel
theorem dX12_isFit_141 : decode cX12_isFit 141 = .ok (.goto (-105), 3) := by decide +kernel
theorem dX12_isFit_144 : decode cX12_isFit 144 = .ok (.iload_n 3, 1) := by decide +kernel
theorem dX12_isFit_145 : decode cX12_isFit 145 = .ok (.ireturn, 1) := by decide +kernel
theorem dX12_layLog_0 : decode cX12_layLog 0 = .ok (.aload_n 0, 1) := by decide +kernel
theorem dX12_layLog_1 : decode cX12_layLog 1 = .ok (.iload_n 2, 1) := by decide +kernel
theorem dX12_layLog_2 : decode cX12_layLog 2 = .ok (.invokevirtual 386, 3) := by decide +kernel
theorem dX12_layLog_5 : decode cX12_layLog 5 = .ok (.ifCond .eq 11, 3) := by decide +kernel
theorem dX12_layLog_8 : decode cX12_layLog 8 = .ok (.aload_n 0, 1) := by decide +kernel
theorem dX12_layLog_9 : decode cX12_layLog 9 = .ok (.iload_n 1, 1) := by decide +kernel
theorem dX12_layLog_10 : decode cX12_layLog 10 = .ok (.invokevirtual 257, 3) := by decide +kernel
theorem dX12_layLog_13 : decode cX12_layLog 13 = .ok (.ifCond .ne 5, 3) := by decide +kernel
theorem dX12_layLog_16 : decode cX12_layLog 16 = .ok (.iconst 0, 1) := by decide +kernel
theorem dX12_layLog_17 : decode cX12_layLog 17 = .ok (.ireturn, 1) := by decide +kernel
theorem dX12_layLog_18 : decode cX12_layLog 18 = .ok (.aload_n 0, 1) := by decide +kernel
theorem dX12_layLog_19 : decode cX12_layLog 19 = .ok (.iconst 0, 1) := by decide +kernel
theorem dX12_layLog_20 : decode cX12_layLog 20 = .ok (.putfield 398, 3) := by decide +kernel
theorem dX12_layLog_23 : decode cX12_layLog 23 = .ok (.iconst 0, 1) := by decide +kernel
theorem dX12_layLog_24 : decode cX12_layLog 24 = .ok (.istore_n 3, 1) := by decide +kernel
theorem dX12_layLog_25 : decode cX12_layLog 25 = .ok (.iload_n 3, 1) := by decide +kernel
theorem dX12_layLog_26 : decode cX12_layLog 26 = .ok (.aload_n 0, 1) := by decide +kernel
theorem dX12_layLog_27 : decode cX12_layLog 27 = .ok (.getfield 230, 3) := by decide +kernel
theorem dX12_layLog_30 : decode cX12_layLog 30 = .ok (.if_icmp .ge 65, 3) := by decide +kernel
theorem dX12_layLog_33 : decode cX12_layLog 33 = .ok (.iconst 1, 1) := by decide +kernel
theorem dX12_layLog_34 : decode cX12_layLog 34 = .ok (.istore 4, 2) := by decide +kernel
theorem dX12_layLog_36 : decode cX12_layLog 36 = .ok (.iload 4, 2) := by decide +kernel
theorem dX12_layLog_38 : decode cX12_layLog 38 = .ok (.iconst 1, 1) := by decide +kernel
theorem dX12_layLog_39 : decode cX12_layLog 39 = .ok (.aload_n 0, 1) := by decide +kernel
theorem dX12_layLog_40 : decode cX12_layLog 40 = .ok (.getfield 230, 3) := by decide +kernel
theorem dX12_layLog_43 : decode cX12_layLog 43 = .ok (.ishl, 1) := by decide +kernel
theorem dX12_layLog_44 : decode cX12_layLog 44 = .ok (.if_icmp .ge 45, 3) := by decide +kernel
theorem dX12_layLog_47 : decode cX12_layLog 47 = .ok (.aload_n 0, 1) := by decide +kernel
theorem dX12_layLog_48 : decode cX12_layLog 48 = .ok (.iload_n 3, 1) := by decide +kernel
theorem dX12_layLog_49 : decode cX12_layLog 49 = .ok (.iload 4, 2) := by decide +kernel
theorem dX12_layLog_51 : decode cX12_layLog 51 = .ok (.invokevirtual 401, 3) := by decide +kernel
theorem dX12_layLog_54 : decode cX12_layLog 54 = .ok (.ifCond .eq 29, 3) := by decide +kernel
theorem dX12_layLog_57 : decode cX12_layLog 57 = .ok (.aload_n 0, 1) := by decide +kernel
theorem dX12_layLog_58 : decode cX12_layLog 58 = .ok (.getfield 68, 3) := by decide +kernel
theorem dX12_layLog_61 : decode cX12_layLog 61 = .ok (.aload_n 0, 1) := by decide +kernel
theorem dX12_layLog_62 : decode cX12_layLog 62 = .ok (.getfield 398, 3) := by decide +kernel
theorem dX12_layLog_65 : decode cX12_layLog 65 = .ok (.bipush 100, 2) := by decide +kernel
theorem dX12_layLog_67 : decode cX12_layLog 67 = .ok (.iload_n 3, 1) := by decide +kernel
theorem dX12_layLog_68 : decode cX12_layLog 68 = .ok (.imul, 1) := by decide +kernel
theorem dX12_layLog_69 : decode cX12_layLog 69 = .ok (.iload 4, 2) := by decide +kernel
theorem dX12_layLog_71 : decode cX12_layLog 71 = .ok (.iadd, 1) := by decide +kernel
theorem dX12_layLog_72 : decode cX12_layLog 72 = .ok (.iastore, 1) := by decide +kernel
theorem dX12_layLog_73 : decode cX12_layLog 73 = .ok (.aload_n 0, 1) := by decide +kernel
theorem dX12_layLog_74 : decode cX12_layLog 74 = .ok (.dup, 1) := by decide +kernel
theorem dX12_layLog_75 : decode cX12_layLog 75 = .ok (.getfield 398, 3) := by decide +kernel
theorem dX12_layLog_78 : decode cX12_layLog 78 = .ok (.iconst 1, 1) := by decide +kernel
theorem dX12_layLog_79 : decode cX12_layLog 79 = .ok (.iadd, 1) := by decide +kernel
theorem dX12_layLog_80 : decode cX12_layLog 80 = .ok (.putfield 398, 3) := by decide +kernel
theorem dX12_layLog_83 : decode cX12_layLog 83 = .ok (.iinc 4 1, 3) := by decide +kernel
theorem dX12_layLog_86 : decode cX12_layLog 86 = .ok (.goto (-50), 3) := by decide +kernel
theorem dX12_layLog_89 : decode cX12_layLog 89 = .ok (.iinc 3 1, 3) := by decide +kernel
theorem dX12_layLog_92 : decode cX12_layLog 92 = .ok (.goto (-67), 3) := by decide +kernel
theorem dX12_layLog_95 : decode cX12_layLog 95 = .ok (.iconst 1, 1) := by decide +kernel
theorem dX12_layLog_96 : decode cX12_layLog 96 = .ok (.ireturn, 1) := by decide +kernel
theorem dX12_manyTogether_0 : decode cX12_manyTogether 0 = .ok (.iconst 0, 1) := by decide +kernel
theorem dX12_manyTogether_1 : decode cX12_manyTogether 1 = .ok (.istore_n 3, 1) := by decide +kernel
theorem dX12_manyTogether_2 : decode cX12_manyTogether 2 = .ok (.iconst 0, 1) := by decide +kernel
theorem dX12_manyTogether_3 : decode cX12_manyTogether 3 = .ok (.istore 4, 2) := by decide +kernel
theorem dX12_manyTogether_5 : decode cX12_manyTogether 5 = .ok (.iload 4, 2) := by decide +kernel
theorem dX12_manyTogether_7 : decode cX12_manyTogether 7 = .ok (.aload_n 0, 1) := by decide +kernel
theorem dX12_manyTogether_8 : decode cX12_manyTogether 8 = .ok (.getfield 398, 3) := by decide +kernel
theorem dX12_manyTogether_11 : decode cX12_manyTogether 11 = .ok (.if_icmp .ge 47, 3) := by decide +kernel
theorem dX12_manyTogether_14 : decode cX12_manyTogether 14 = .ok (.aload_n 0, 1) := by decide +kernel
theorem dX12_manyTogether_15 : decode cX12_manyTogether 15 = .ok (.getfield 68, 3) := by decide +kernel
theorem dX12_manyTogether_18 : decode cX12_manyTogether 18 = .ok (.iload 4, 2) := by decide +kernel
theorem dX12_manyTogether_20 : decode cX12_manyTogether 20 = .ok (.iaload, 1) := by decide +kernel
theorem dX12_manyTogether_21 : decode cX12_manyTogether 21 = .ok (.invokestatic 404, 3) := by decide +kernel
theorem dX12_manyTogether_24 : decode cX12_manyTogether 24 = .ok (.istore 5, 2) := by decide +kernel
theorem dX12_manyTogether_26 : decode cX12_manyTogether 26 = .ok (.iload_n 3, 1) := by decide +kernel
theorem dX12_manyTogether_27 : decode cX12_manyTogether 27 = .ok (.iload 5, 2) := by decide +kernel
theorem dX12_manyTogether_29 : decode cX12_manyTogether 29 = .ok (.iload_n 1, 1) := by decide +kernel
theorem dX12_manyTogether_30 : decode cX12_manyTogether 30 = .ok (.invokestatic 82, 3) := by decide +kernel
theorem dX12_manyTogether_33 : decode cX12_manyTogether 33 = .ok (.ifCond .eq 16, 3) := by decide +kernel
theorem dX12_manyTogether_36 : decode cX12_manyTogether 36 = .ok (.iload 5, 2) := by decide +kernel
theorem dX12_manyTogether_38 : decode cX12_manyTogether 38 = .ok (.iload_n 2, 1) := by decide +kernel
theorem dX12_manyTogether_39 : decode cX12_manyTogether 39 = .ok (.invokestatic 82, 3) := by decide +kernel
theorem dX12_manyTogether_42 : decode cX12_manyTogether 42 = .ok (.ifCond .eq 7, 3) := by decide +kernel
theorem dX12_manyTogether_45 : decode cX12_manyTogether 45 = .ok (.iconst 1, 1) := by decide +kernel
theorem dX12_manyTogether_46 : decode cX12_manyTogether 46 = .ok (.goto 4, 3) := by decide +kernel
theorem dX12_manyTogether_49 : decode cX12_manyTogether 49 = .ok (.iconst 0, 1) := by decide +kernel
theorem dX12_manyTogether_50 : decode cX12_manyTogether 50 = .ok (.iadd, 1) := by decide +kernel
theorem dX12_manyTogether_51 : decode cX12_manyTogether 51 = .ok (.istore_n 3, 1) := by decide +kernel
theorem dX12_manyTogether_52 : decode cX12_manyTogether 52 = .ok (.iinc 4 1, 3) := by decide +kernel
theorem dX12_manyTogether_55 : decode cX12_manyTogether 55 = .ok (.goto (-50), 3) := by decide +kernel
theorem dX12_manyTogether_58 : decode cX12_manyTogether 58 = .ok (.iload_n 3, 1) := by decide +kernel
theorem dX12_manyTogether_59 : decode cX12_manyTogether 59 = .ok (.ireturn, 1) := by decide +kernel
theorem dX12_sure_0 : decode cX12_sure 0 = .ok (.aload_n 0, 1) := by decide +kernel
theorem dX12_sure_1 : decode cX12_sure 1 = .ok (.getfield 398, 3) := by decide +kernel
theorem dX12_sure_4 : decode cX12_sure 4 = .ok (.ifCond .ne 7, 3) := by decide +kernel
theorem dX12_sure_7 : decode cX12_sure 7 = .ok (.iconst (-1), 1) := by decide +kernel
theorem dX12_sure_8 : decode cX12_sure 8 = .ok (.goto 12, 3) := by decide +kernel
theorem dX12_sure_11 : decode cX12_sure 11 = .ok (.aload_n 0, 1) := by decide +kernel
theorem dX12_sure_12 : decode cX12_sure 12 = .ok (.getfield 68, 3) := by decide +kernel
theorem dX12_sure_15 : decode cX12_sure 15 = .ok (.iconst 0, 1) := by decide +kernel
theorem dX12_sure_16 : decode cX12_sure 16 = .ok (.iaload, 1) := by decide +kernel
theorem dX12_sure_17 : decode cX12_sure 17 = .ok (.bipush 100, 2) := by decide +kernel
theorem dX12_sure_19 : decode cX12_sure 19 = .ok (.idiv, 1) := by decide +kernel
theorem dX12_sure_20 : decode cX12_sure 20 = .ok (.istore_n 1, 1) := by decide +kernel
theorem dX12_sure_21 : decode cX12_sure 21 = .ok (.iconst 0, 1) := by decide +kernel
theorem dX12_sure_22 : decode cX12_sure 22 = .ok (.istore_n 2, 1) := by decide +kernel
theorem dX12_sure_23 : decode cX12_sure 23 = .ok (.iload_n 2, 1) := by decide +kernel
theorem dX12_sure_24 : decode cX12_sure 24 = .ok (.aload_n 0, 1) := by decide +kernel
theorem dX12_sure_25 : decode cX12_sure 25 = .ok (.getfield 398, 3) := by decide +kernel
theorem dX12_sure_28 : decode cX12_sure 28 = .ok (.if_icmp .ge 28, 3) := by decide +kernel
theorem dX12_sure_31 : decode cX12_sure 31 = .ok (.aload_n 0, 1) := by decide +kernel
theorem dX12_sure_32 : decode cX12_sure 32 = .ok (.getfield 68, 3) := by decide +kernel
theorem dX12_sure_35 : decode cX12_sure 35 = .ok (.iload_n 2, 1) := by decide +kernel
