theorem dX12_sure_36 : decode cX12_sure 36 = .ok (.iaload, 1) := by decide +kernel
theorem dX12_sure_37 : decode cX12_sure 37 = .ok (.bipush 100, 2) := by decide +kernel
theorem dX12_sure_39 : decode cX12_sure 39 = .ok (.idiv, 1) := by decide +kernel
theorem dX12_sure_40 : decode cX12_sure 40 = .ok (.iload_n 1, 1) := by decide +kernel
theorem dX12_sure_41 : decode cX12_sure 41 = .ok (.if_icmp .ne 7, 3) := by decide +kernel
theorem dX12_sure_44 : decode cX12_sure 44 = .ok (.iload_n 1, 1) := by decide +kernel
theorem dX12_sure_45 : decode cX12_sure 45 = .ok (.goto 4, 3) := by decide +kernel
theorem dX12_sure_48 : decode cX12_sure 48 = .ok (.iconst (-1), 1) := by decide +kernel
theorem dX12_sure_49 : decode cX12_sure 49 = .ok (.istore_n 1, 1) := by decide +kernel
theorem dX12_sure_50 : decode cX12_sure 50 = .ok (.iinc 2 1, 3) := by decide +kernel
theorem dX12_sure_53 : decode cX12_sure 53 = .ok (.goto (-30), 3) := by decide +kernel
theorem dX12_sure_56 : decode cX12_sure 56 = .ok (.iload_n 1, 1) := by decide +kernel
theorem dX12_sure_57 : decode cX12_sure 57 = .ok (.ireturn, 1) := by decide +kernel
theorem dX12_watch_0 : decode cX12_watch 0 = .ok (.iconst (-1), 1) := by decide +kernel
theorem dX12_watch_1 : decode cX12_watch 1 = .ok (.istore_n 1, 1) := by decide +kernel
theorem dX12_watch_2 : decode cX12_watch 2 = .ok (.ldc_w 407, 3) := by decide +kernel
theorem dX12_watch_5 : decode cX12_watch 5 = .ok (.istore_n 2, 1) := by decide +kernel
theorem dX12_watch_6 : decode cX12_watch 6 = .ok (.iconst 0, 1) := by decide +kernel
theorem dX12_watch_7 : decode cX12_watch 7 = .ok (.istore_n 3, 1) := by decide +kernel
theorem dX12_watch_8 : decode cX12_watch 8 = .ok (.iload_n 3, 1) := by decide +kernel
theorem dX12_watch_9 : decode cX12_watch 9 = .ok (.aload_n 0, 1) := by decide +kernel
theorem dX12_watch_10 : decode cX12_watch 10 = .ok (.getfield 230, 3) := by decide +kernel
theorem dX12_watch_13 : decode cX12_watch 13 = .ok (.if_icmp .ge 85, 3) := by decide +kernel
theorem dX12_watch_16 : decode cX12_watch 16 = .ok (.aload_n 0, 1) := by decide +kernel
theorem dX12_watch_17 : decode cX12_watch 17 = .ok (.getfield 398, 3) := by decide +kernel
theorem dX12_watch_20 : decode cX12_watch 20 = .ok (.ifCond .le 78, 3) := by decide +kernel
theorem dX12_watch_23 : decode cX12_watch 23 = .ok (.iload_n 3, 1) := by decide +kernel
theorem dX12_watch_24 : decode cX12_watch 24 = .ok (.iconst 1, 1) := by decide +kernel
theorem dX12_watch_25 : decode cX12_watch 25 = .ok (.iadd, 1) := by decide +kernel
theorem dX12_watch_26 : decode cX12_watch 26 = .ok (.istore 4, 2) := by decide +kernel
theorem dX12_watch_28 : decode cX12_watch 28 = .ok (.iload 4, 2) := by decide +kernel
theorem dX12_watch_30 : decode cX12_watch 30 = .ok (.aload_n 0, 1) := by decide +kernel
theorem dX12_watch_31 : decode cX12_watch 31 = .ok (.getfield 230, 3) := by decide +kernel
theorem dX12_watch_34 : decode cX12_watch 34 = .ok (.if_icmp .ge 58, 3) := by decide +kernel
theorem dX12_watch_37 : decode cX12_watch 37 = .ok (.aload_n 0, 1) := by decide +kernel
theorem dX12_watch_38 : decode cX12_watch 38 = .ok (.iload_n 3, 1) := by decide +kernel
theorem dX12_watch_39 : decode cX12_watch 39 = .ok (.iload 4, 2) := by decide +kernel
theorem dX12_watch_41 : decode cX12_watch 41 = .ok (.invokevirtual 408, 3) := by decide +kernel
theorem dX12_watch_44 : decode cX12_watch 44 = .ok (.aload_n 0, 1) := by decide +kernel
theorem dX12_watch_45 : decode cX12_watch 45 = .ok (.getfield 398, 3) := by decide +kernel
theorem dX12_watch_48 : decode cX12_watch 48 = .ok (.aload_n 0, 1) := by decide +kernel
theorem dX12_watch_49 : decode cX12_watch 49 = .ok (.iload_n 3, 1) := by decide +kernel
theorem dX12_watch_50 : decode cX12_watch 50 = .ok (.iload 4, 2) := by decide +kernel
theorem dX12_watch_52 : decode cX12_watch 52 = .ok (.invokevirtual 408, 3) := by decide +kernel
theorem dX12_watch_55 : decode cX12_watch 55 = .ok (.isub, 1) := by decide +kernel
theorem dX12_watch_56 : decode cX12_watch 56 = .ok (.invokestatic 171, 3) := by decide +kernel
theorem dX12_watch_59 : decode cX12_watch 59 = .ok (.istore 5, 2) := by decide +kernel
theorem dX12_watch_61 : decode cX12_watch 61 = .ok (.iload 5, 2) := by decide +kernel
theorem dX12_watch_63 : decode cX12_watch 63 = .ok (.iload_n 2, 1) := by decide +kernel
theorem dX12_watch_64 : decode cX12_watch 64 = .ok (.if_icmp .ge 13, 3) := by decide +kernel
theorem dX12_watch_67 : decode cX12_watch 67 = .ok (.bipush 10, 2) := by decide +kernel
theorem dX12_watch_69 : decode cX12_watch 69 = .ok (.iload_n 3, 1) := by decide +kernel
theorem dX12_watch_70 : decode cX12_watch 70 = .ok (.imul, 1) := by decide +kernel
theorem dX12_watch_71 : decode cX12_watch 71 = .ok (.iload 4, 2) := by decide +kernel
theorem dX12_watch_73 : decode cX12_watch 73 = .ok (.iadd, 1) := by decide +kernel
theorem dX12_watch_74 : decode cX12_watch 74 = .ok (.goto 4, 3) := by decide +kernel
theorem dX12_watch_77 : decode cX12_watch 77 = .ok (.iload_n 1, 1) := by decide +kernel
theorem dX12_watch_78 : decode cX12_watch 78 = .ok (.istore_n 1, 1) := by decide +kernel
theorem dX12_watch_79 : decode cX12_watch 79 = .ok (.iload_n 2, 1) := by decide +kernel
theorem dX12_watch_80 : decode cX12_watch 80 = .ok (.iload 5, 2) := by decide +kernel
theorem dX12_watch_82 : decode cX12_watch 82 = .ok (.invokestatic 281, 3) := by decide +kernel
theorem dX12_watch_85 : decode cX12_watch 85 = .ok (.istore_n 2, 1) := by decide +kernel
theorem dX12_watch_86 : decode cX12_watch 86 = .ok (.iinc 4 1, 3) := by decide +kernel
theorem dX12_watch_89 : decode cX12_watch 89 = .ok (.goto (-61), 3) := by decide +kernel
theorem dX12_watch_92 : decode cX12_watch 92 = .ok (.iinc 3 1, 3) := by decide +kernel
theorem dX12_watch_95 : decode cX12_watch 95 = .ok (.goto (-87), 3) := by decide +kernel
theorem dX12_watch_98 : decode cX12_watch 98 = .ok (.iload_n 1, 1) := by decide +kernel
theorem dX12_watch_99 : decode cX12_watch 99 = .ok (.ireturn, 1) := by decide +kernel
theorem dX12_fits_0 : decode cX12_fits 0 = .ok (.aload_n 0, 1) := by decide +kernel
theorem dX12_fits_1 : decode cX12_fits 1 = .ok (.iconst 0, 1) := by decide +kernel
theorem dX12_fits_2 : decode cX12_fits 2 = .ok (.putfield 78, 3) := by decide +kernel
theorem dX12_fits_5 : decode cX12_fits 5 = .ok (.aload_n 0, 1) := by decide +kernel
theorem dX12_fits_6 : decode cX12_fits 6 = .ok (.iload_n 1, 1) := by decide +kernel
theorem dX12_fits_7 : decode cX12_fits 7 = .ok (.iload_n 2, 1) := by decide +kernel
theorem dX12_fits_8 : decode cX12_fits 8 = .ok (.invokevirtual 411, 3) := by decide +kernel
theorem dX12_fits_11 : decode cX12_fits 11 = .ok (.ifCond .ne 6, 3) := by decide +kernel
theorem dX12_fits_14 : decode cX12_fits 14 = .ok (.bipush (-2), 2) := by decide +kernel
theorem dX12_fits_16 : decode cX12_fits 16 = .ok (.ireturn, 1) := by decide +kernel
theorem dX12_fits_17 : decode cX12_fits 17 = .ok (.iload_n 3, 1) := by decide +kernel
theorem dX12_fits_18 : decode cX12_fits 18 = .ok (.bipush 10, 2) := by decide +kernel
theorem dX12_fits_20 : decode cX12_fits 20 = .ok (.if_icmp .lt 29, 3) := by decide +kernel
theorem dX12_fits_23 : decode cX12_fits 23 = .ok (.iload_n 3, 1) := by decide +kernel
theorem dX12_fits_24 : decode cX12_fits 24 = .ok (.bipush 10, 2) := by decide +kernel
theorem dX12_fits_26 : decode cX12_fits 26 = .ok (.isub, 1) := by decide +kernel
theorem dX12_fits_27 : decode cX12_fits 27 = .ok (.aload_n 0, 1) := by decide +kernel
theorem dX12_fits_28 : decode cX12_fits 28 = .ok (.getfield 398, 3) := by decide +kernel
theorem dX12_fits_31 : decode cX12_fits 31 = .ok (.if_icmp .ge 15, 3) := by decide +kernel
theorem dX12_fits_34 : decode cX12_fits 34 = .ok (.aload_n 0, 1) := by decide +kernel
theorem dX12_fits_35 : decode cX12_fits 35 = .ok (.getfield 68, 3) := by decide +kernel
theorem dX12_fits_38 : decode cX12_fits 38 = .ok (.iload_n 3, 1) := by decide +kernel
theorem dX12_fits_39 : decode cX12_fits 39 = .ok (.bipush 10, 2) := by decide +kernel
theorem dX12_fits_41 : decode cX12_fits 41 = .ok (.isub, 1) := by decide +kernel
theorem dX12_fits_42 : decode cX12_fits 42 = .ok (.iaload, 1) := by decide +kernel
theorem dX12_fits_43 : decode cX12_fits 43 = .ok (.goto 5, 3) := by decide +kernel
theorem dX12_fits_46 : decode cX12_fits 46 = .ok (.bipush (-2), 2) := by decide +kernel
theorem dX12_fits_48 : decode cX12_fits 48 = .ok (.ireturn, 1) := by decide +kernel
theorem dX12_fits_49 : decode cX12_fits 49 = .ok (.iload_n 3, 1) := by decide +kernel
theorem dX12_fits_50 : decode cX12_fits 50 = .ok (.tableswitch 41 0 2 #[26, 31, 36], 26) := by decide +kernel
theorem dX12_fits_76 : decode cX12_fits 76 = .ok (.aload_n 0, 1) := by decide +kernel
theorem dX12_fits_77 : decode cX12_fits 77 = .ok (.getfield 398, 3) := by decide +kernel
theorem dX12_fits_80 : decode cX12_fits 80 = .ok (.ireturn, 1) := by decide +kernel
theorem dX12_fits_81 : decode cX12_fits 81 = .ok (.aload_n 0, 1) := by decide +kernel
theorem dX12_fits_82 : decode cX12_fits 82 = .ok (.invokevirtual 414, 3) := by decide +kernel
theorem dX12_fits_85 : decode cX12_fits 85 = .ok (.ireturn, 1) := by decide +kernel
theorem dX12_fits_86 : decode cX12_fits 86 = .ok (.aload_n 0, 1) := by decide +kernel
theorem dX12_fits_87 : decode cX12_fits 87 = .ok (.invokevirtual 417, 3) := by decide +kernel
theorem dX12_fits_90 : decode cX12_fits 90 = .ok (.ireturn, 1) := by decide +kernel
theorem dX12_fits_91 : decode cX12_fits 91 = .ok (.bipush (-2), 2) := by decide +kernel
theorem dX12_fits_93 : decode cX12_fits 93 = .ok (.ireturn, 1) := by decide +kernel
theorem dX12_draw_0 : decode cX12_draw 0 = .ok (.aload_n 0, 1) := by decide +kernel
theorem dX12_draw_1 : decode cX12_draw 1 = .ok (.aload_n 0, 1) := by decide +kernel
theorem dX12_draw_2 : decode cX12_draw 2 = .ok (.getfield 420, 3) := by decide +kernel
theorem dX12_draw_5 : decode cX12_draw 5 = .ok (.ldc_w 423, 3) := by decide +kernel
theorem dX12_draw_8 : decode cX12_draw 8 = .ok (.imul, 1) := by decide +kernel
theorem dX12_draw_9 : decode cX12_draw 9 = .ok (.sipush 12345, 3) := by decide +kernel
theorem dX12_draw_12 : decode cX12_draw 12 = .ok (.iadd, 1) := by decide +kernel
theorem dX12_draw_13 : decode cX12_draw 13 = .ok (.putfield 420, 3) := by decide +kernel
theorem dX12_draw_16 : decode cX12_draw 16 = .ok (.aload_n 0, 1) := by decide +kernel
theorem dX12_draw_17 : decode cX12_draw 17 = .ok (.getfield 420, 3) := by decide +kernel
theorem dX12_draw_20 : decode cX12_draw 20 = .ok (.bipush 16, 2) := by decide +kernel
theorem dX12_draw_22 : decode cX12_draw 22 = .ok (.iushr, 1) := by decide +kernel
theorem dX12_draw_23 : decode cX12_draw 23 = .ok (.iload_n 1, 1) := by decide +kernel
theorem dX12_draw_24 : decode cX12_draw 24 = .ok (.irem, 1) := by decide +kernel
theorem dX12_draw_25 : decode cX12_draw 25 = .ok (.ireturn, 1) := by decide +kernel
theorem dX12_drawDeed_0 : decode cX12_drawDeed 0 = .ok (.aload_n 0, 1) := by decide +kernel
theorem dX12_drawDeed_1 : decode cX12_drawDeed 1 = .ok (.bipush 10, 2) := by decide +kernel
theorem dX12_drawDeed_3 : decode cX12_drawDeed 3 = .ok (.invokevirtual 424, 3) := by decide +kernel
theorem dX12_drawDeed_6 : decode cX12_drawDeed 6 = .ok (.istore_n 1, 1) := by decide +kernel
theorem dX12_drawDeed_7 : decode cX12_drawDeed 7 = .ok (.iload_n 1, 1) := by decide +kernel
theorem dX12_drawDeed_8 : decode cX12_drawDeed 8 = .ok (.bipush 7, 2) := by decide +kernel
theorem dX12_drawDeed_10 : decode cX12_drawDeed 10 = .ok (.if_icmp .le 8, 3) := by decide +kernel
theorem dX12_drawDeed_13 : decode cX12_drawDeed 13 = .ok (.aload_n 0, 1) := by decide +kernel
theorem dX12_drawDeed_14 : decode cX12_drawDeed 14 = .ok (.invokevirtual 284, 3) := by decide +kernel
theorem dX12_drawDeed_17 : decode cX12_drawDeed 17 = .ok (.return_, 1) := by decide +kernel
theorem dX12_drawDeed_18 : decode cX12_drawDeed 18 = .ok (.aload_n 0, 1) := by decide +kernel
theorem dX12_drawDeed_19 : decode cX12_drawDeed 19 = .ok (.getfield 230, 3) := by decide +kernel
theorem dX12_drawDeed_22 : decode cX12_drawDeed 22 = .ok (.iconst 2, 1) := by decide +kernel
theorem dX12_drawDeed_23 : decode cX12_drawDeed 23 = .ok (.if_icmp .ge 4, 3) := by decide +kernel
theorem dX12_drawDeed_26 : decode cX12_drawDeed 26 = .ok (.return_, 1) := by decide +kernel
theorem dX12_drawDeed_27 : decode cX12_drawDeed 27 = .ok (.aload_n 0, 1) := by decide +kernel
theorem dX12_drawDeed_28 : decode cX12_drawDeed 28 = .ok (.aload_n 0, 1) := by decide +kernel
theorem dX12_drawDeed_29 : decode cX12_drawDeed 29 = .ok (.getfield 230, 3) := by decide +kernel
theorem dX12_drawDeed_32 : decode cX12_drawDeed 32 = .ok (.invokevirtual 424, 3) := by decide +kernel
theorem dX12_drawDeed_35 : decode cX12_drawDeed 35 = .ok (.istore_n 2, 1) := by decide +kernel
theorem dX12_drawDeed_36 : decode cX12_drawDeed 36 = .ok (.iload_n 1, 1) := by decide +kernel
theorem dX12_drawDeed_37 : decode cX12_drawDeed 37 = .ok (.iconst 5, 1) := by decide +kernel
theorem dX12_drawDeed_38 : decode cX12_drawDeed 38 = .ok (.if_icmp .le 23, 3) := by decide +kernel
theorem dX12_drawDeed_41 : decode cX12_drawDeed 41 = .ok (.aload_n 0, 1) := by decide +kernel
theorem dX12_drawDeed_42 : decode cX12_drawDeed 42 = .ok (.iload_n 1, 1) := by decide +kernel
theorem dX12_drawDeed_43 : decode cX12_drawDeed 43 = .ok (.bipush 6, 2) := by decide +kernel
theorem dX12_drawDeed_45 : decode cX12_drawDeed 45 = .ok (.if_icmp .ne 7, 3) := by decide +kernel
theorem dX12_drawDeed_48 : decode cX12_drawDeed 48 = .ok (.iconst 4, 1) := by decide +kernel
theorem dX12_drawDeed_49 : decode cX12_drawDeed 49 = .ok (.goto 4, 3) := by decide +kernel
theorem dX12_drawDeed_52 : decode cX12_drawDeed 52 = .ok (.iconst 5, 1) := by decide +kernel
theorem dX12_drawDeed_53 : decode cX12_drawDeed 53 = .ok (.iload_n 2, 1) := by decide +kernel
theorem dX12_drawDeed_54 : decode cX12_drawDeed 54 = .ok (.iconst (-1), 1) := by decide +kernel
theorem dX12_drawDeed_55 : decode cX12_drawDeed 55 = .ok (.iconst (-1), 1) := by decide +kernel
theorem dX12_drawDeed_56 : decode cX12_drawDeed 56 = .ok (.invokevirtual 299, 3) := by decide +kernel
theorem dX12_drawDeed_59 : decode cX12_drawDeed 59 = .ok (.pop, 1) := by decide +kernel
theorem dX12_drawDeed_60 : decode cX12_drawDeed 60 = .ok (.return_, 1) := by decide +kernel
theorem dX12_drawDeed_61 : decode cX12_drawDeed 61 = .ok (.aload_n 0, 1) := by decide +kernel
theorem dX12_drawDeed_62 : decode cX12_drawDeed 62 = .ok (.aload_n 0, 1) := by decide +kernel
theorem dX12_drawDeed_63 : decode cX12_drawDeed 63 = .ok (.getfield 230, 3) := by decide +kernel
theorem dX12_drawDeed_66 : decode cX12_drawDeed 66 = .ok (.iconst 1, 1) := by decide +kernel
theorem dX12_drawDeed_67 : decode cX12_drawDeed 67 = .ok (.isub, 1) := by decide +kernel
theorem dX12_drawDeed_68 : decode cX12_drawDeed 68 = .ok (.invokevirtual 424, 3) := by decide +kernel
theorem dX12_drawDeed_71 : decode cX12_drawDeed 71 = .ok (.iconst 1, 1) := by decide +kernel
theorem dX12_drawDeed_72 : decode cX12_drawDeed 72 = .ok (.iadd, 1) := by decide +kernel
theorem dX12_drawDeed_73 : decode cX12_drawDeed 73 = .ok (.iload_n 2, 1) := by decide +kernel
theorem dX12_drawDeed_74 : decode cX12_drawDeed 74 = .ok (.iadd, 1) := by decide +kernel
theorem dX12_drawDeed_75 : decode cX12_drawDeed 75 = .ok (.aload_n 0, 1) := by decide +kernel
theorem dX12_drawDeed_76 : decode cX12_drawDeed 76 = .ok (.getfield 230, 3) := by decide +kernel
theorem dX12_drawDeed_79 : decode cX12_drawDeed 79 = .ok (.irem, 1) := by decide +kernel
theorem dX12_drawDeed_80 : decode cX12_drawDeed 80 = .ok (.istore_n 3, 1) := by decide +kernel
theorem dX12_drawDeed_81 : decode cX12_drawDeed 81 = .ok (.aload_n 0, 1) := by decide +kernel
theorem dX12_drawDeed_82 : decode cX12_drawDeed 82 = .ok (.iload_n 1, 1) := by decide +kernel
theorem dX12_drawDeed_83 : decode cX12_drawDeed 83 = .ok (.iconst 3, 1) := by decide +kernel
theorem dX12_drawDeed_84 : decode cX12_drawDeed 84 = .ok (.if_icmp .ge 7, 3) := by decide +kernel
theorem dX12_drawDeed_87 : decode cX12_drawDeed 87 = .ok (.iconst 0, 1) := by decide +kernel
theorem dX12_drawDeed_88 : decode cX12_drawDeed 88 = .ok (.goto 22, 3) := by decide +kernel
theorem dX12_drawDeed_91 : decode cX12_drawDeed 91 = .ok (.iload_n 1, 1) := by decide +kernel
theorem dX12_drawDeed_92 : decode cX12_drawDeed 92 = .ok (.iconst 3, 1) := by decide +kernel
theorem dX12_drawDeed_93 : decode cX12_drawDeed 93 = .ok (.if_icmp .ne 7, 3) := by decide +kernel
theorem dX12_drawDeed_96 : decode cX12_drawDeed 96 = .ok (.iconst 1, 1) := by decide +kernel
theorem dX12_drawDeed_97 : decode cX12_drawDeed 97 = .ok (.goto 13, 3) := by decide +kernel
theorem dX12_drawDeed_100 : decode cX12_drawDeed 100 = .ok (.iload_n 1, 1) := by decide +kernel
theorem dX12_drawDeed_101 : decode cX12_drawDeed 101 = .ok (.iconst 4, 1) := by decide +kernel
theorem dX12_drawDeed_102 : decode cX12_drawDeed 102 = .ok (.if_icmp .ne 7, 3) := by decide +kernel
theorem dX12_drawDeed_105 : decode cX12_drawDeed 105 = .ok (.iconst 2, 1) := by decide +kernel
theorem dX12_drawDeed_106 : decode cX12_drawDeed 106 = .ok (.goto 4, 3) := by decide +kernel
theorem dX12_drawDeed_109 : decode cX12_drawDeed 109 = .ok (.iconst 3, 1) := by decide +kernel
theorem dX12_drawDeed_110 : decode cX12_drawDeed 110 = .ok (.iload_n 2, 1) := by decide +kernel
theorem dX12_drawDeed_111 : decode cX12_drawDeed 111 = .ok (.iload_n 3, 1) := by decide +kernel
theorem dX12_drawDeed_112 : decode cX12_drawDeed 112 = .ok (.iload_n 1, 1) := by decide +kernel
theorem dX12_drawDeed_113 : decode cX12_drawDeed 113 = .ok (.iconst 3, 1) := by decide +kernel
theorem dX12_drawDeed_114 : decode cX12_drawDeed 114 = .ok (.if_icmp .ge 7, 3) := by decide +kernel
theorem dX12_drawDeed_117 : decode cX12_drawDeed 117 = .ok (.iconst (-1), 1) := by decide +kernel
theorem dX12_drawDeed_118 : decode cX12_drawDeed 118 = .ok (.goto 10, 3) := by decide +kernel
theorem dX12_drawDeed_121 : decode cX12_drawDeed 121 = .ok (.iconst 1, 1) := by decide +kernel
theorem dX12_drawDeed_122 : decode cX12_drawDeed 122 = .ok (.aload_n 0, 1) := by decide +kernel
theorem dX12_drawDeed_123 : decode cX12_drawDeed 123 = .ok (.iconst 5, 1) := by decide +kernel
theorem dX12_drawDeed_124 : decode cX12_drawDeed 124 = .ok (.invokevirtual 424, 3) := by decide +kernel
theorem dX12_drawDeed_127 : decode cX12_drawDeed 127 = .ok (.iadd, 1) := by decide +kernel
theorem dX12_drawDeed_128 : decode cX12_drawDeed 128 = .ok (.invokevirtual 299, 3) := by decide +kernel
theorem dX12_drawDeed_131 : decode cX12_drawDeed 131 = .ok (.pop, 1) := by decide +kernel
theorem dX12_drawDeed_132 : decode cX12_drawDeed 132 = .ok (.return_, 1) := by decide +kernel
theorem dX12_drawn_0 : decode cX12_drawn 0 = .ok (.aload_n 0, 1) := by decide +kernel
theorem dX12_drawn_1 : decode cX12_drawn 1 = .ok (.iconst 0, 1) := by decide +kernel
theorem dX12_drawn_2 : decode cX12_drawn 2 = .ok (.putfield 78, 3) := by decide +kernel
theorem dX12_drawn_5 : decode cX12_drawn 5 = .ok (.iload_n 3, 1) := by decide +kernel
theorem dX12_drawn_6 : decode cX12_drawn 6 = .ok (.iconst 0, 1) := by decide +kernel
theorem dX12_drawn_7 : decode cX12_drawn 7 = .ok (.bipush 60, 2) := by decide +kernel
theorem dX12_drawn_9 : decode cX12_drawn 9 = .ok (.invokestatic 90, 3) := by decide +kernel
theorem dX12_drawn_12 : decode cX12_drawn 12 = .ok (.ifCond .eq 11, 3) := by decide +kernel
theorem dX12_drawn_15 : decode cX12_drawn 15 = .ok (.aload_n 0, 1) := by decide +kernel
theorem dX12_drawn_16 : decode cX12_drawn 16 = .ok (.iload_n 1, 1) := by decide +kernel
theorem dX12_drawn_17 : decode cX12_drawn 17 = .ok (.invokevirtual 257, 3) := by decide +kernel
theorem dX12_drawn_20 : decode cX12_drawn 20 = .ok (.ifCond .ne 5, 3) := by decide +kernel
theorem dX12_drawn_23 : decode cX12_drawn 23 = .ok (.iconst (-1), 1) := by decide +kernel
theorem dX12_drawn_24 : decode cX12_drawn 24 = .ok (.ireturn, 1) := by decide +kernel
theorem dX12_drawn_25 : decode cX12_drawn 25 = .ok (.aload_n 0, 1) := by decide +kernel
theorem dX12_drawn_26 : decode cX12_drawn 26 = .ok (.iload_n 2, 1) := by decide +kernel
theorem dX12_drawn_27 : decode cX12_drawn 27 = .ok (.putfield 420, 3) := by decide +kernel
theorem dX12_drawn_30 : decode cX12_drawn 30 = .ok (.iconst 0, 1) := by decide +kernel
theorem dX12_drawn_31 : decode cX12_drawn 31 = .ok (.istore 5, 2) := by decide +kernel
theorem dX12_drawn_33 : decode cX12_drawn 33 = .ok (.iload 5, 2) := by decide +kernel
theorem dX12_drawn_35 : decode cX12_drawn 35 = .ok (.iload_n 3, 1) := by decide +kernel
theorem dX12_drawn_36 : decode cX12_drawn 36 = .ok (.if_icmp .ge 13, 3) := by decide +kernel
theorem dX12_drawn_39 : decode cX12_drawn 39 = .ok (.aload_n 0, 1) := by decide +kernel
theorem dX12_drawn_40 : decode cX12_drawn 40 = .ok (.invokevirtual 427, 3) := by decide +kernel
theorem dX12_drawn_43 : decode cX12_drawn 43 = .ok (.iinc 5 1, 3) := by decide +kernel
theorem dX12_drawn_46 : decode cX12_drawn 46 = .ok (.goto (-13), 3) := by decide +kernel
theorem dX12_drawn_49 : decode cX12_drawn 49 = .ok (.aload_n 0, 1) := by decide +kernel
theorem dX12_drawn_50 : decode cX12_drawn 50 = .ok (.iload 4, 2) := by decide +kernel
theorem dX12_drawn_52 : decode cX12_drawn 52 = .ok (.invokevirtual 320, 3) := by decide +kernel
theorem dX12_drawn_55 : decode cX12_drawn 55 = .ok (.ireturn, 1) := by decide +kernel
theorem dX12_mutual_0 : decode cX12_mutual 0 = .ok (.iconst 0, 1) := by decide +kernel
theorem dX12_mutual_1 : decode cX12_mutual 1 = .ok (.istore_n 1, 1) := by decide +kernel
theorem dX12_mutual_2 : decode cX12_mutual 2 = .ok (.iconst 0, 1) := by decide +kernel
theorem dX12_mutual_3 : decode cX12_mutual 3 = .ok (.istore_n 2, 1) := by decide +kernel
theorem dX12_mutual_4 : decode cX12_mutual 4 = .ok (.iload_n 2, 1) := by decide +kernel
theorem dX12_mutual_5 : decode cX12_mutual 5 = .ok (.aload_n 0, 1) := by decide +kernel
theorem dX12_mutual_6 : decode cX12_mutual 6 = .ok (.getfield 230, 3) := by decide +kernel
theorem dX12_mutual_9 : decode cX12_mutual 9 = .ok (.if_icmp .ge 40, 3) := by decide +kernel
theorem dX12_mutual_12 : decode cX12_mutual 12 = .ok (.iconst 0, 1) := by decide +kernel
theorem dX12_mutual_13 : decode cX12_mutual 13 = .ok (.istore_n 3, 1) := by decide +kernel
theorem dX12_mutual_14 : decode cX12_mutual 14 = .ok (.iload_n 3, 1) := by decide +kernel
theorem dX12_mutual_15 : decode cX12_mutual 15 = .ok (.iload_n 2, 1) := by decide +kernel
theorem dX12_mutual_16 : decode cX12_mutual 16 = .ok (.if_icmp .ge 27, 3) := by decide +kernel
theorem dX12_mutual_19 : decode cX12_mutual 19 = .ok (.iload_n 1, 1) := by decide +kernel
theorem dX12_mutual_20 : decode cX12_mutual 20 = .ok (.aload_n 0, 1) := by decide +kernel
theorem dX12_mutual_21 : decode cX12_mutual 21 = .ok (.iload_n 2, 1) := by decide +kernel
theorem dX12_mutual_22 : decode cX12_mutual 22 = .ok (.iload_n 3, 1) := by decide +kernel
theorem dX12_mutual_23 : decode cX12_mutual 23 = .ok (.invokevirtual 254, 3) := by decide +kernel
theorem dX12_mutual_26 : decode cX12_mutual 26 = .ok (.aload_n 0, 1) := by decide +kernel
theorem dX12_mutual_27 : decode cX12_mutual 27 = .ok (.iload_n 3, 1) := by decide +kernel
theorem dX12_mutual_28 : decode cX12_mutual 28 = .ok (.iload_n 2, 1) := by decide +kernel
theorem dX12_mutual_29 : decode cX12_mutual 29 = .ok (.invokevirtual 254, 3) := by decide +kernel
theorem dX12_mutual_32 : decode cX12_mutual 32 = .ok (.invokestatic 281, 3) := by decide +kernel
theorem dX12_mutual_35 : decode cX12_mutual 35 = .ok (.iadd, 1) := by decide +kernel
theorem dX12_mutual_36 : decode cX12_mutual 36 = .ok (.istore_n 1, 1) := by decide +kernel
theorem dX12_mutual_37 : decode cX12_mutual 37 = .ok (.iinc 3 1, 3) := by decide +kernel
theorem dX12_mutual_40 : decode cX12_mutual 40 = .ok (.goto (-26), 3) := by decide +kernel
theorem dX12_mutual_43 : decode cX12_mutual 43 = .ok (.iinc 2 1, 3) := by decide +kernel
theorem dX12_mutual_46 : decode cX12_mutual 46 = .ok (.goto (-42), 3) := by decide +kernel
theorem dX12_mutual_49 : decode cX12_mutual 49 = .ok (.iload_n 1, 1) := by decide +kernel
theorem dX12_mutual_50 : decode cX12_mutual 50 = .ok (.ireturn, 1) := by decide +kernel
theorem dX12_creditors_0 : decode cX12_creditors 0 = .ok (.iconst 0, 1) := by decide +kernel
theorem dX12_creditors_1 : decode cX12_creditors 1 = .ok (.istore_n 2, 1) := by decide +kernel
theorem dX12_creditors_2 : decode cX12_creditors 2 = .ok (.iconst 0, 1) := by decide +kernel
theorem dX12_creditors_3 : decode cX12_creditors 3 = .ok (.istore_n 3, 1) := by decide +kernel
theorem dX12_creditors_4 : decode cX12_creditors 4 = .ok (.iload_n 3, 1) := by decide +kernel
theorem dX12_creditors_5 : decode cX12_creditors 5 = .ok (.aload_n 0, 1) := by decide +kernel
theorem dX12_creditors_6 : decode cX12_creditors 6 = .ok (.getfield 230, 3) := by decide +kernel
theorem dX12_creditors_9 : decode cX12_creditors 9 = .ok (.if_icmp .ge 28, 3) := by decide +kernel
theorem dX12_creditors_12 : decode cX12_creditors 12 = .ok (.iload_n 2, 1) := by decide +kernel
theorem dX12_creditors_13 : decode cX12_creditors 13 = .ok (.aload_n 0, 1) := by decide +kernel
theorem dX12_creditors_14 : decode cX12_creditors 14 = .ok (.iload_n 1, 1) := by decide +kernel
theorem dX12_creditors_15 : decode cX12_creditors 15 = .ok (.iload_n 3, 1) := by decide +kernel
theorem dX12_creditors_16 : decode cX12_creditors 16 = .ok (.invokevirtual 254, 3) := by decide +kernel
theorem dX12_creditors_19 : decode cX12_creditors 19 = .ok (.ifCond .le 9, 3) := by decide +kernel
theorem dX12_creditors_22 : decode cX12_creditors 22 = .ok (.iconst 1, 1) := by decide +kernel
theorem dX12_creditors_23 : decode cX12_creditors 23 = .ok (.iload_n 3, 1) := by decide +kernel
theorem dX12_creditors_24 : decode cX12_creditors 24 = .ok (.ishl, 1) := by decide +kernel
theorem dX12_creditors_25 : decode cX12_creditors 25 = .ok (.goto 4, 3) := by decide +kernel
theorem dX12_creditors_28 : decode cX12_creditors 28 = .ok (.iconst 0, 1) := by decide +kernel
theorem dX12_creditors_29 : decode cX12_creditors 29 = .ok (.ior, 1) := by decide +kernel
theorem dX12_creditors_30 : decode cX12_creditors 30 = .ok (.istore_n 2, 1) := by decide +kernel
theorem dX12_creditors_31 : decode cX12_creditors 31 = .ok (.iinc 3 1, 3) := by decide +kernel
theorem dX12_creditors_34 : decode cX12_creditors 34 = .ok (.goto (-30), 3) := by decide +kernel
theorem dX12_creditors_37 : decode cX12_creditors 37 = .ok (.iload_n 2, 1) := by decide +kernel
theorem dX12_creditors_38 : decode cX12_creditors 38 = .ok (.ireturn, 1) := by decide +kernel
theorem dX12_creditorsOf_0 : decode cX12_creditorsOf 0 = .ok (.iconst 0, 1) := by decide +kernel
theorem dX12_creditorsOf_1 : decode cX12_creditorsOf 1 = .ok (.istore_n 2, 1) := by decide +kernel
theorem dX12_creditorsOf_2 : decode cX12_creditorsOf 2 = .ok (.iconst 0, 1) := by decide +kernel
theorem dX12_creditorsOf_3 : decode cX12_creditorsOf 3 = .ok (.istore_n 3, 1) := by decide +kernel
theorem dX12_creditorsOf_4 : decode cX12_creditorsOf 4 = .ok (.iload_n 3, 1) := by decide +kernel
theorem dX12_creditorsOf_5 : decode cX12_creditorsOf 5 = .ok (.aload_n 0, 1) := by decide +kernel
theorem dX12_creditorsOf_6 : decode cX12_creditorsOf 6 = .ok (.getfield 230, 3) := by decide +kernel
theorem dX12_creditorsOf_9 : decode cX12_creditorsOf 9 = .ok (.if_icmp .ge 29, 3) := by decide +kernel
theorem dX12_creditorsOf_12 : decode cX12_creditorsOf 12 = .ok (.iload_n 2, 1) := by decide +kernel
theorem dX12_creditorsOf_13 : decode cX12_creditorsOf 13 = .ok (.iload_n 1, 1) := by decide +kernel
theorem dX12_creditorsOf_14 : decode cX12_creditorsOf 14 = .ok (.iload_n 3, 1) := by decide +kernel
theorem dX12_creditorsOf_15 : decode cX12_creditorsOf 15 = .ok (.invokestatic 82, 3) := by decide +kernel
theorem dX12_creditorsOf_18 : decode cX12_creditorsOf 18 = .ok (.ifCond .eq 11, 3) := by decide +kernel
theorem dX12_creditorsOf_21 : decode cX12_creditorsOf 21 = .ok (.aload_n 0, 1) := by decide +kernel
theorem dX12_creditorsOf_22 : decode cX12_creditorsOf 22 = .ok (.iload_n 3, 1) := by decide +kernel
theorem dX12_creditorsOf_23 : decode cX12_creditorsOf 23 = .ok (.invokevirtual 430, 3) := by decide +kernel
theorem dX12_creditorsOf_26 : decode cX12_creditorsOf 26 = .ok (.goto 4, 3) := by decide +kernel
theorem dX12_creditorsOf_29 : decode cX12_creditorsOf 29 = .ok (.iconst 0, 1) := by decide +kernel
theorem dX12_creditorsOf_30 : decode cX12_creditorsOf 30 = .ok (.ior, 1) := by decide +kernel
theorem dX12_creditorsOf_31 : decode cX12_creditorsOf 31 = .ok (.istore_n 2, 1) := by decide +kernel
theorem dX12_creditorsOf_32 : decode cX12_creditorsOf 32 = .ok (.iinc 3 1, 3) := by decide +kernel
theorem dX12_creditorsOf_35 : decode cX12_creditorsOf 35 = .ok (.goto (-31), 3) := by decide +kernel
theorem dX12_creditorsOf_38 : decode cX12_creditorsOf 38 = .ok (.iload_n 2, 1) := by decide +kernel
theorem dX12_creditorsOf_39 : decode cX12_creditorsOf 39 = .ok (.ireturn, 1) := by decide +kernel
theorem dX12_shortestRing_0 : decode cX12_shortestRing 0 = .ok (.ldc_w 407, 3) := by decide +kernel
theorem dX12_shortestRing_3 : decode cX12_shortestRing 3 = .ok (.istore_n 1, 1) := by decide +kernel
theorem dX12_shortestRing_4 : decode cX12_shortestRing 4 = .ok (.iconst 0, 1) := by decide +kernel
theorem dX12_shortestRing_5 : decode cX12_shortestRing 5 = .ok (.istore_n 2, 1) := by decide +kernel
theorem dX12_shortestRing_6 : decode cX12_shortestRing 6 = .ok (.iload_n 2, 1) := by decide +kernel
theorem dX12_shortestRing_7 : decode cX12_shortestRing 7 = .ok (.aload_n 0, 1) := by decide +kernel
theorem dX12_shortestRing_8 : decode cX12_shortestRing 8 = .ok (.getfield 230, 3) := by decide +kernel
theorem dX12_shortestRing_11 : decode cX12_shortestRing 11 = .ok (.if_icmp .ge 54, 3) := by decide +kernel
theorem dX12_shortestRing_14 : decode cX12_shortestRing 14 = .ok (.iconst 1, 1) := by decide +kernel
theorem dX12_shortestRing_15 : decode cX12_shortestRing 15 = .ok (.iload_n 2, 1) := by decide +kernel
theorem dX12_shortestRing_16 : decode cX12_shortestRing 16 = .ok (.ishl, 1) := by decide +kernel
theorem dX12_shortestRing_17 : decode cX12_shortestRing 17 = .ok (.istore_n 3, 1) := by decide +kernel
theorem dX12_shortestRing_18 : decode cX12_shortestRing 18 = .ok (.iconst 1, 1) := by decide +kernel
theorem dX12_shortestRing_19 : decode cX12_shortestRing 19 = .ok (.istore 4, 2) := by decide +kernel
theorem dX12_shortestRing_21 : decode cX12_shortestRing 21 = .ok (.iload 4, 2) := by decide +kernel
theorem dX12_shortestRing_23 : decode cX12_shortestRing 23 = .ok (.bipush 6, 2) := by decide +kernel
theorem dX12_shortestRing_25 : decode cX12_shortestRing 25 = .ok (.if_icmp .gt 34, 3) := by decide +kernel
theorem dX12_shortestRing_28 : decode cX12_shortestRing 28 = .ok (.aload_n 0, 1) := by decide +kernel
theorem dX12_shortestRing_29 : decode cX12_shortestRing 29 = .ok (.iload_n 3, 1) := by decide +kernel
theorem dX12_shortestRing_30 : decode cX12_shortestRing 30 = .ok (.invokevirtual 433, 3) := by decide +kernel
theorem dX12_shortestRing_33 : decode cX12_shortestRing 33 = .ok (.istore_n 3, 1) := by decide +kernel
theorem dX12_shortestRing_34 : decode cX12_shortestRing 34 = .ok (.iload_n 3, 1) := by decide +kernel
theorem dX12_shortestRing_35 : decode cX12_shortestRing 35 = .ok (.iload_n 2, 1) := by decide +kernel
theorem dX12_shortestRing_36 : decode cX12_shortestRing 36 = .ok (.invokestatic 82, 3) := by decide +kernel
theorem dX12_shortestRing_39 : decode cX12_shortestRing 39 = .ok (.ifCond .eq 12, 3) := by decide +kernel
theorem dX12_shortestRing_42 : decode cX12_shortestRing 42 = .ok (.iload_n 1, 1) := by decide +kernel
theorem dX12_shortestRing_43 : decode cX12_shortestRing 43 = .ok (.iload 4, 2) := by decide +kernel
theorem dX12_shortestRing_45 : decode cX12_shortestRing 45 = .ok (.invokestatic 281, 3) := by decide +kernel
theorem dX12_shortestRing_48 : decode cX12_shortestRing 48 = .ok (.goto 4, 3) := by decide +kernel
theorem dX12_shortestRing_51 : decode cX12_shortestRing 51 = .ok (.iload_n 1, 1) := by decide +kernel
theorem dX12_shortestRing_52 : decode cX12_shortestRing 52 = .ok (.istore_n 1, 1) := by decide +kernel
theorem dX12_shortestRing_53 : decode cX12_shortestRing 53 = .ok (.iinc 4 1, 3) := by decide +kernel
theorem dX12_shortestRing_56 : decode cX12_shortestRing 56 = .ok (.goto (-35), 3) := by decide +kernel
theorem dX12_shortestRing_59 : decode cX12_shortestRing 59 = .ok (.iinc 2 1, 3) := by decide +kernel
theorem dX12_shortestRing_62 : decode cX12_shortestRing 62 = .ok (.goto (-56), 3) := by decide +kernel
theorem dX12_shortestRing_65 : decode cX12_shortestRing 65 = .ok (.iload_n 1, 1) := by decide +kernel
theorem dX12_shortestRing_66 : decode cX12_shortestRing 66 = .ok (.ldc_w 407, 3) := by decide +kernel
theorem dX12_shortestRing_69 : decode cX12_shortestRing 69 = .ok (.if_icmp .ne 7, 3) := by decide +kernel
theorem dX12_shortestRing_72 : decode cX12_shortestRing 72 = .ok (.iconst (-1), 1) := by decide +kernel
theorem dX12_shortestRing_73 : decode cX12_shortestRing 73 = .ok (.goto 4, 3) := by decide +kernel
theorem dX12_shortestRing_76 : decode cX12_shortestRing 76 = .ok (.iload_n 1, 1) := by decide +kernel
theorem dX12_shortestRing_77 : decode cX12_shortestRing 77 = .ok (.ireturn, 1) := by decide +kernel
theorem dX12_wealthOf_0 : decode cX12_wealthOf 0 = .ok (.aload_n 0, 1) := by decide +kernel
theorem dX12_wealthOf_1 : decode cX12_wealthOf 1 = .ok (.getfield 41, 3) := by decide +kernel
theorem dX12_wealthOf_4 : decode cX12_wealthOf 4 = .ok (.iload_n 1, 1) := by decide +kernel
theorem dX12_wealthOf_5 : decode cX12_wealthOf 5 = .ok (.iaload, 1) := by decide +kernel
theorem dX12_wealthOf_6 : decode cX12_wealthOf 6 = .ok (.aload_n 0, 1) := by decide +kernel
theorem dX12_wealthOf_7 : decode cX12_wealthOf 7 = .ok (.iload_n 1, 1) := by decide +kernel
theorem dX12_wealthOf_8 : decode cX12_wealthOf 8 = .ok (.invokevirtual 332, 3) := by decide +kernel
theorem dX12_wealthOf_11 : decode cX12_wealthOf 11 = .ok (.iadd, 1) := by decide +kernel
theorem dX12_wealthOf_12 : decode cX12_wealthOf 12 = .ok (.ireturn, 1) := by decide +kernel
theorem dX12_debtors_0 : decode cX12_debtors 0 = .ok (.iconst 0, 1) := by decide +kernel
theorem dX12_debtors_1 : decode cX12_debtors 1 = .ok (.istore_n 2, 1) := by decide +kernel
theorem dX12_debtors_2 : decode cX12_debtors 2 = .ok (.iconst 0, 1) := by decide +kernel
theorem dX12_debtors_3 : decode cX12_debtors 3 = .ok (.istore_n 3, 1) := by decide +kernel
theorem dX12_debtors_4 : decode cX12_debtors 4 = .ok (.iload_n 3, 1) := by decide +kernel
theorem dX12_debtors_5 : decode cX12_debtors 5 = .ok (.aload_n 0, 1) := by decide +kernel
theorem dX12_debtors_6 : decode cX12_debtors 6 = .ok (.getfield 230, 3) := by decide +kernel
theorem dX12_debtors_9 : decode cX12_debtors 9 = .ok (.if_icmp .ge 26, 3) := by decide +kernel
theorem dX12_debtors_12 : decode cX12_debtors 12 = .ok (.iload_n 2, 1) := by decide +kernel
theorem dX12_debtors_13 : decode cX12_debtors 13 = .ok (.aload_n 0, 1) := by decide +kernel
theorem dX12_debtors_14 : decode cX12_debtors 14 = .ok (.iload_n 3, 1) := by decide +kernel
theorem dX12_debtors_15 : decode cX12_debtors 15 = .ok (.iload_n 1, 1) := by decide +kernel
theorem dX12_debtors_16 : decode cX12_debtors 16 = .ok (.invokevirtual 254, 3) := by decide +kernel
theorem dX12_debtors_19 : decode cX12_debtors 19 = .ok (.ifCond .le 7, 3) := by decide +kernel
theorem dX12_debtors_22 : decode cX12_debtors 22 = .ok (.iconst 1, 1) := by decide +kernel
theorem dX12_debtors_23 : decode cX12_debtors 23 = .ok (.goto 4, 3) := by decide +kernel
theorem dX12_debtors_26 : decode cX12_debtors 26 = .ok (.iconst 0, 1) := by decide +kernel
theorem dX12_debtors_27 : decode cX12_debtors 27 = .ok (.iadd, 1) := by decide +kernel
theorem dX12_debtors_28 : decode cX12_debtors 28 = .ok (.istore_n 2, 1) := by decide +kernel
theorem dX12_debtors_29 : decode cX12_debtors 29 = .ok (.iinc 3 1, 3) := by decide +kernel
theorem dX12_debtors_32 : decode cX12_debtors 32 = .ok (.goto (-28), 3) := by decide +kernel
theorem dX12_debtors_35 : decode cX12_debtors 35 = .ok (.iload_n 2, 1) := by decide +kernel
theorem dX12_debtors_36 : decode cX12_debtors 36 = .ok (.ireturn, 1) := by decide +kernel
theorem dX12_first_0 : decode cX12_first 0 = .ok (.iconst (-1), 1) := by decide +kernel
theorem dX12_first_1 : decode cX12_first 1 = .ok (.istore_n 2, 1) := by decide +kernel
theorem dX12_first_2 : decode cX12_first 2 = .ok (.iconst 0, 1) := by decide +kernel
theorem dX12_first_3 : decode cX12_first 3 = .ok (.istore_n 3, 1) := by decide +kernel
theorem dX12_first_4 : decode cX12_first 4 = .ok (.iload_n 3, 1) := by decide +kernel
theorem dX12_first_5 : decode cX12_first 5 = .ok (.aload_n 0, 1) := by decide +kernel
theorem dX12_first_6 : decode cX12_first 6 = .ok (.getfield 230, 3) := by decide +kernel
theorem dX12_first_9 : decode cX12_first 9 = .ok (.if_icmp .ge 65, 3) := by decide +kernel
theorem dX12_first_12 : decode cX12_first 12 = .ok (.iload_n 2, 1) := by decide +kernel
theorem dX12_first_13 : decode cX12_first 13 = .ok (.iconst (-1), 1) := by decide +kernel
theorem dX12_first_14 : decode cX12_first 14 = .ok (.if_icmp .eq 36, 3) := by decide +kernel
theorem dX12_first_17 : decode cX12_first 17 = .ok (.iload_n 1, 1) := by decide +kernel
theorem dX12_first_18 : decode cX12_first 18 = .ok (.ifCond .eq 19, 3) := by decide +kernel
theorem dX12_first_21 : decode cX12_first 21 = .ok (.aload_n 0, 1) := by decide +kernel
theorem dX12_first_22 : decode cX12_first 22 = .ok (.iload_n 3, 1) := by decide +kernel
theorem dX12_first_23 : decode cX12_first 23 = .ok (.invokevirtual 436, 3) := by decide +kernel
theorem dX12_first_26 : decode cX12_first 26 = .ok (.aload_n 0, 1) := by decide +kernel
theorem dX12_first_27 : decode cX12_first 27 = .ok (.iload_n 2, 1) := by decide +kernel
theorem dX12_first_28 : decode cX12_first 28 = .ok (.invokevirtual 436, 3) := by decide +kernel
theorem dX12_first_31 : decode cX12_first 31 = .ok (.if_icmp .le 23, 3) := by decide +kernel
theorem dX12_first_34 : decode cX12_first 34 = .ok (.goto 16, 3) := by decide +kernel
theorem dX12_first_37 : decode cX12_first 37 = .ok (.aload_n 0, 1) := by decide +kernel
theorem dX12_first_38 : decode cX12_first 38 = .ok (.iload_n 3, 1) := by decide +kernel
theorem dX12_first_39 : decode cX12_first 39 = .ok (.invokevirtual 439, 3) := by decide +kernel
theorem dX12_first_42 : decode cX12_first 42 = .ok (.aload_n 0, 1) := by decide +kernel
theorem dX12_first_43 : decode cX12_first 43 = .ok (.iload_n 2, 1) := by decide +kernel
theorem dX12_first_44 : decode cX12_first 44 = .ok (.invokevirtual 439, 3) := by decide +kernel
theorem dX12_first_47 : decode cX12_first 47 = .ok (.if_icmp .le 7, 3) := by decide +kernel
theorem dX12_first_50 : decode cX12_first 50 = .ok (.iconst 1, 1) := by decide +kernel
theorem dX12_first_51 : decode cX12_first 51 = .ok (.goto 4, 3) := by decide +kernel
theorem dX12_first_54 : decode cX12_first 54 = .ok (.iconst 0, 1) := by decide +kernel
theorem dX12_first_55 : decode cX12_first 55 = .ok (.istore 4, 2) := by decide +kernel
theorem dX12_first_57 : decode cX12_first 57 = .ok (.iload 4, 2) := by decide +kernel
theorem dX12_first_59 : decode cX12_first 59 = .ok (.ifCond .eq 7, 3) := by decide +kernel
theorem dX12_first_62 : decode cX12_first 62 = .ok (.iload_n 3, 1) := by decide +kernel
theorem dX12_first_63 : decode cX12_first 63 = .ok (.goto 4, 3) := by decide +kernel
theorem dX12_first_66 : decode cX12_first 66 = .ok (.iload_n 2, 1) := by decide +kernel
theorem dX12_first_67 : decode cX12_first 67 = .ok (.istore_n 2, 1) := by decide +kernel
theorem dX12_first_68 : decode cX12_first 68 = .ok (.iinc 3 1, 3) := by decide +kernel
theorem dX12_first_71 : decode cX12_first 71 = .ok (.goto (-67), 3) := by decide +kernel
theorem dX12_first_74 : decode cX12_first 74 = .ok (.iload_n 2, 1) := by decide +kernel
theorem dX12_first_75 : decode cX12_first 75 = .ok (.ireturn, 1) := by decide +kernel
theorem dX12_twins_0 : decode cX12_twins 0 = .ok (.iconst 0, 1) := by decide +kernel
theorem dX12_twins_1 : decode cX12_twins 1 = .ok (.istore_n 1, 1) := by decide +kernel
theorem dX12_twins_2 : decode cX12_twins 2 = .ok (.iconst 0, 1) := by decide +kernel
theorem dX12_twins_3 : decode cX12_twins 3 = .ok (.istore_n 2, 1) := by decide +kernel
theorem dX12_twins_4 : decode cX12_twins 4 = .ok (.iload_n 2, 1) := by decide +kernel
theorem dX12_twins_5 : decode cX12_twins 5 = .ok (.aload_n 0, 1) := by decide +kernel
theorem dX12_twins_6 : decode cX12_twins 6 = .ok (.getfield 230, 3) := by decide +kernel
theorem dX12_twins_9 : decode cX12_twins 9 = .ok (.if_icmp .ge 62, 3) := by decide +kernel
theorem dX12_twins_12 : decode cX12_twins 12 = .ok (.iconst 0, 1) := by decide +kernel
theorem dX12_twins_13 : decode cX12_twins 13 = .ok (.istore_n 3, 1) := by decide +kernel
theorem dX12_twins_14 : decode cX12_twins 14 = .ok (.iload_n 3, 1) := by decide +kernel
theorem dX12_twins_15 : decode cX12_twins 15 = .ok (.iload_n 2, 1) := by decide +kernel
theorem dX12_twins_16 : decode cX12_twins 16 = .ok (.if_icmp .ge 49, 3) := by decide +kernel
theorem dX12_twins_19 : decode cX12_twins 19 = .ok (.iload_n 1, 1) := by decide +kernel
theorem dX12_twins_20 : decode cX12_twins 20 = .ok (.aload_n 0, 1) := by decide +kernel
theorem dX12_twins_21 : decode cX12_twins 21 = .ok (.iconst 1, 1) := by decide +kernel
theorem dX12_twins_22 : decode cX12_twins 22 = .ok (.iload_n 2, 1) := by decide +kernel
theorem dX12_twins_23 : decode cX12_twins 23 = .ok (.iadd, 1) := by decide +kernel
theorem dX12_twins_24 : decode cX12_twins 24 = .ok (.invokevirtual 226, 3) := by decide +kernel
theorem dX12_twins_27 : decode cX12_twins 27 = .ok (.aload_n 0, 1) := by decide +kernel
theorem dX12_twins_28 : decode cX12_twins 28 = .ok (.iconst 1, 1) := by decide +kernel
theorem dX12_twins_29 : decode cX12_twins 29 = .ok (.iload_n 3, 1) := by decide +kernel
theorem dX12_twins_30 : decode cX12_twins 30 = .ok (.iadd, 1) := by decide +kernel
theorem dX12_twins_31 : decode cX12_twins 31 = .ok (.invokevirtual 226, 3) := by decide +kernel
theorem dX12_twins_34 : decode cX12_twins 34 = .ok (.if_icmp .ne 22, 3) := by decide +kernel
theorem dX12_twins_37 : decode cX12_twins 37 = .ok (.aload_n 0, 1) := by decide +kernel
theorem dX12_twins_38 : decode cX12_twins 38 = .ok (.getfield 41, 3) := by decide +kernel
theorem dX12_twins_41 : decode cX12_twins 41 = .ok (.iload_n 2, 1) := by decide +kernel
theorem dX12_twins_42 : decode cX12_twins 42 = .ok (.iaload, 1) := by decide +kernel
theorem dX12_twins_43 : decode cX12_twins 43 = .ok (.aload_n 0, 1) := by decide +kernel
theorem dX12_twins_44 : decode cX12_twins 44 = .ok (.getfield 41, 3) := by decide +kernel
theorem dX12_twins_47 : decode cX12_twins 47 = .ok (.iload_n 3, 1) := by decide +kernel
theorem dX12_twins_48 : decode cX12_twins 48 = .ok (.iaload, 1) := by decide +kernel
theorem dX12_twins_49 : decode cX12_twins 49 = .ok (.if_icmp .ne 7, 3) := by decide +kernel
theorem dX12_twins_52 : decode cX12_twins 52 = .ok (.iconst 1, 1) := by decide +kernel
theorem dX12_twins_53 : decode cX12_twins 53 = .ok (.goto 4, 3) := by decide +kernel
theorem dX12_twins_56 : decode cX12_twins 56 = .ok (.iconst 0, 1) := by decide +kernel
theorem dX12_twins_57 : decode cX12_twins 57 = .ok (.iadd, 1) := by decide +kernel
theorem dX12_twins_58 : decode cX12_twins 58 = .ok (.istore_n 1, 1) := by decide +kernel
theorem dX12_twins_59 : decode cX12_twins 59 = .ok (.iinc 3 1, 3) := by decide +kernel
theorem dX12_twins_62 : decode cX12_twins 62 = .ok (.goto (-48), 3) := by decide +kernel
theorem dX12_twins_65 : decode cX12_twins 65 = .ok (.iinc 2 1, 3) := by decide +kernel
theorem dX12_twins_68 : decode cX12_twins 68 = .ok (.goto (-64), 3) := by decide +kernel
theorem dX12_twins_71 : decode cX12_twins 71 = .ok (.iload_n 1, 1) := by decide +kernel
theorem dX12_twins_72 : decode cX12_twins 72 = .ok (.ireturn, 1) := by decide +kernel
theorem dX12_feudOf_0 : decode cX12_feudOf 0 = .ok (.iconst 1, 1) := by decide +kernel
theorem dX12_feudOf_1 : decode cX12_feudOf 1 = .ok (.iload_n 1, 1) := by decide +kernel
theorem dX12_feudOf_2 : decode cX12_feudOf 2 = .ok (.ishl, 1) := by decide +kernel
theorem dX12_feudOf_3 : decode cX12_feudOf 3 = .ok (.istore_n 2, 1) := by decide +kernel
theorem dX12_feudOf_4 : decode cX12_feudOf 4 = .ok (.iconst 0, 1) := by decide +kernel
theorem dX12_feudOf_5 : decode cX12_feudOf 5 = .ok (.istore_n 3, 1) := by decide +kernel
theorem dX12_feudOf_6 : decode cX12_feudOf 6 = .ok (.iload_n 3, 1) := by decide +kernel
theorem dX12_feudOf_7 : decode cX12_feudOf 7 = .ok (.bipush 6, 2) := by decide +kernel
theorem dX12_feudOf_9 : decode cX12_feudOf 9 = .ok (.if_icmp .ge 52, 3) := by decide +kernel
theorem dX12_feudOf_12 : decode cX12_feudOf 12 = .ok (.iconst 0, 1) := by decide +kernel
theorem dX12_feudOf_13 : decode cX12_feudOf 13 = .ok (.istore 4, 2) := by decide +kernel
theorem dX12_feudOf_15 : decode cX12_feudOf 15 = .ok (.iload 4, 2) := by decide +kernel
theorem dX12_feudOf_17 : decode cX12_feudOf 17 = .ok (.aload_n 0, 1) := by decide +kernel
theorem dX12_feudOf_18 : decode cX12_feudOf 18 = .ok (.getfield 230, 3) := by decide +kernel
theorem dX12_feudOf_21 : decode cX12_feudOf 21 = .ok (.if_icmp .ge 34, 3) := by decide +kernel
theorem dX12_feudOf_24 : decode cX12_feudOf 24 = .ok (.iload_n 2, 1) := by decide +kernel
theorem dX12_feudOf_25 : decode cX12_feudOf 25 = .ok (.iload_n 2, 1) := by decide +kernel
theorem dX12_feudOf_26 : decode cX12_feudOf 26 = .ok (.iload 4, 2) := by decide +kernel
theorem dX12_feudOf_28 : decode cX12_feudOf 28 = .ok (.invokestatic 82, 3) := by decide +kernel
theorem dX12_feudOf_31 : decode cX12_feudOf 31 = .ok (.ifCond .eq 15, 3) := by decide +kernel
theorem dX12_feudOf_34 : decode cX12_feudOf 34 = .ok (.aload_n 0, 1) := by decide +kernel
theorem dX12_feudOf_35 : decode cX12_feudOf 35 = .ok (.bipush 13, 2) := by decide +kernel
theorem dX12_feudOf_37 : decode cX12_feudOf 37 = .ok (.iload 4, 2) := by decide +kernel
theorem dX12_feudOf_39 : decode cX12_feudOf 39 = .ok (.iadd, 1) := by decide +kernel
theorem dX12_feudOf_40 : decode cX12_feudOf 40 = .ok (.invokevirtual 226, 3) := by decide +kernel
theorem dX12_feudOf_43 : decode cX12_feudOf 43 = .ok (.goto 4, 3) := by decide +kernel
theorem dX12_feudOf_46 : decode cX12_feudOf 46 = .ok (.iconst 0, 1) := by decide +kernel
theorem dX12_feudOf_47 : decode cX12_feudOf 47 = .ok (.ior, 1) := by decide +kernel
theorem dX12_feudOf_48 : decode cX12_feudOf 48 = .ok (.istore_n 2, 1) := by decide +kernel
theorem dX12_feudOf_49 : decode cX12_feudOf 49 = .ok (.iinc 4 1, 3) := by decide +kernel
theorem dX12_feudOf_52 : decode cX12_feudOf 52 = .ok (.goto (-37), 3) := by decide +kernel
theorem dX12_feudOf_55 : decode cX12_feudOf 55 = .ok (.iinc 3 1, 3) := by decide +kernel
theorem dX12_feudOf_58 : decode cX12_feudOf 58 = .ok (.goto (-52), 3) := by decide +kernel
theorem dX12_feudOf_61 : decode cX12_feudOf 61 = .ok (.iload_n 2, 1) := by decide +kernel
theorem dX12_feudOf_62 : decode cX12_feudOf 62 = .ok (.ireturn, 1) := by decide +kernel
theorem dX12_feuds_0 : decode cX12_feuds 0 = .ok (.iconst 0, 1) := by decide +kernel
theorem dX12_feuds_1 : decode cX12_feuds 1 = .ok (.istore_n 1, 1) := by decide +kernel
theorem dX12_feuds_2 : decode cX12_feuds 2 = .ok (.iconst 0, 1) := by decide +kernel
theorem dX12_feuds_3 : decode cX12_feuds 3 = .ok (.istore_n 2, 1) := by decide +kernel
theorem dX12_feuds_4 : decode cX12_feuds 4 = .ok (.iload_n 2, 1) := by decide +kernel
theorem dX12_feuds_5 : decode cX12_feuds 5 = .ok (.aload_n 0, 1) := by decide +kernel
theorem dX12_feuds_6 : decode cX12_feuds 6 = .ok (.getfield 230, 3) := by decide +kernel
theorem dX12_feuds_9 : decode cX12_feuds 9 = .ok (.if_icmp .ge 31, 3) := by decide +kernel
theorem dX12_feuds_12 : decode cX12_feuds 12 = .ok (.iload_n 1, 1) := by decide +kernel
theorem dX12_feuds_13 : decode cX12_feuds 13 = .ok (.aload_n 0, 1) := by decide +kernel
theorem dX12_feuds_14 : decode cX12_feuds 14 = .ok (.iload_n 2, 1) := by decide +kernel
theorem dX12_feuds_15 : decode cX12_feuds 15 = .ok (.invokevirtual 442, 3) := by decide +kernel
theorem dX12_feuds_18 : decode cX12_feuds 18 = .ok (.iconst 1, 1) := by decide +kernel
theorem dX12_feuds_19 : decode cX12_feuds 19 = .ok (.iload_n 2, 1) := by decide +kernel
theorem dX12_feuds_20 : decode cX12_feuds 20 = .ok (.ishl, 1) := by decide +kernel
theorem dX12_feuds_21 : decode cX12_feuds 21 = .ok (.iconst 1, 1) := by decide +kernel
theorem dX12_feuds_22 : decode cX12_feuds 22 = .ok (.isub, 1) := by decide +kernel
theorem dX12_feuds_23 : decode cX12_feuds 23 = .ok (.iand, 1) := by decide +kernel
theorem dX12_feuds_24 : decode cX12_feuds 24 = .ok (.ifCond .ne 7, 3) := by decide +kernel
theorem dX12_feuds_27 : decode cX12_feuds 27 = .ok (.iconst 1, 1) := by decide +kernel
theorem dX12_feuds_28 : decode cX12_feuds 28 = .ok (.goto 4, 3) := by decide +kernel
theorem dX12_feuds_31 : decode cX12_feuds 31 = .ok (.iconst 0, 1) := by decide +kernel
theorem dX12_feuds_32 : decode cX12_feuds 32 = .ok (.iadd, 1) := by decide +kernel
theorem dX12_feuds_33 : decode cX12_feuds 33 = .ok (.istore_n 1, 1) := by decide +kernel
theorem dX12_feuds_34 : decode cX12_feuds 34 = .ok (.iinc 2 1, 3) := by decide +kernel
theorem dX12_feuds_37 : decode cX12_feuds 37 = .ok (.goto (-33), 3) := by decide +kernel
theorem dX12_feuds_40 : decode cX12_feuds 40 = .ok (.iload_n 1, 1) := by decide +kernel
theorem dX12_feuds_41 : decode cX12_feuds 41 = .ok (.ireturn, 1) := by decide +kernel
theorem dX12_loners_0 : decode cX12_loners 0 = .ok (.iconst 0, 1) := by decide +kernel
theorem dX12_loners_1 : decode cX12_loners 1 = .ok (.istore_n 1, 1) := by decide +kernel
theorem dX12_loners_2 : decode cX12_loners 2 = .ok (.iconst 0, 1) := by decide +kernel
theorem dX12_loners_3 : decode cX12_loners 3 = .ok (.istore_n 2, 1) := by decide +kernel
theorem dX12_loners_4 : decode cX12_loners 4 = .ok (.iload_n 2, 1) := by decide +kernel
theorem dX12_loners_5 : decode cX12_loners 5 = .ok (.aload_n 0, 1) := by decide +kernel
theorem dX12_loners_6 : decode cX12_loners 6 = .ok (.getfield 230, 3) := by decide +kernel
theorem dX12_loners_9 : decode cX12_loners 9 = .ok (.if_icmp .ge 35, 3) := by decide +kernel
theorem dX12_loners_12 : decode cX12_loners 12 = .ok (.iload_n 1, 1) := by decide +kernel
theorem dX12_loners_13 : decode cX12_loners 13 = .ok (.aload_n 0, 1) := by decide +kernel
theorem dX12_loners_14 : decode cX12_loners 14 = .ok (.iload_n 2, 1) := by decide +kernel
theorem dX12_loners_15 : decode cX12_loners 15 = .ok (.invokevirtual 311, 3) := by decide +kernel
theorem dX12_loners_18 : decode cX12_loners 18 = .ok (.ifCond .ne 17, 3) := by decide +kernel
theorem dX12_loners_21 : decode cX12_loners 21 = .ok (.aload_n 0, 1) := by decide +kernel
theorem dX12_loners_22 : decode cX12_loners 22 = .ok (.iload_n 2, 1) := by decide +kernel
theorem dX12_loners_23 : decode cX12_loners 23 = .ok (.invokevirtual 329, 3) := by decide +kernel
theorem dX12_loners_26 : decode cX12_loners 26 = .ok (.ifCond .ne 9, 3) := by decide +kernel
theorem dX12_loners_29 : decode cX12_loners 29 = .ok (.iconst 1, 1) := by decide +kernel
theorem dX12_loners_30 : decode cX12_loners 30 = .ok (.iload_n 2, 1) := by decide +kernel
theorem dX12_loners_31 : decode cX12_loners 31 = .ok (.ishl, 1) := by decide +kernel
theorem dX12_loners_32 : decode cX12_loners 32 = .ok (.goto 4, 3) := by decide +kernel
theorem dX12_loners_35 : decode cX12_loners 35 = .ok (.iconst 0, 1) := by decide +kernel
theorem dX12_loners_36 : decode cX12_loners 36 = .ok (.ior, 1) := by decide +kernel
theorem dX12_loners_37 : decode cX12_loners 37 = .ok (.istore_n 1, 1) := by decide +kernel
theorem dX12_loners_38 : decode cX12_loners 38 = .ok (.iinc 2 1, 3) := by decide +kernel
theorem dX12_loners_41 : decode cX12_loners 41 = .ok (.goto (-37), 3) := by decide +kernel
theorem dX12_loners_44 : decode cX12_loners 44 = .ok (.iload_n 1, 1) := by decide +kernel
theorem dX12_loners_45 : decode cX12_loners 45 = .ok (.ireturn, 1) := by decide +kernel
theorem dX12_bore_0 : decode cX12_bore 0 = .ok (.iconst 0, 1) := by decide +kernel
theorem dX12_bore_1 : decode cX12_bore 1 = .ok (.istore_n 2, 1) := by decide +kernel
theorem dX12_bore_2 : decode cX12_bore 2 = .ok (.iconst (-1), 1) := by decide +kernel
theorem dX12_bore_3 : decode cX12_bore 3 = .ok (.istore_n 3, 1) := by decide +kernel
theorem dX12_bore_4 : decode cX12_bore 4 = .ok (.iconst 0, 1) := by decide +kernel
theorem dX12_bore_5 : decode cX12_bore 5 = .ok (.istore 4, 2) := by decide +kernel
theorem dX12_bore_7 : decode cX12_bore 7 = .ok (.iload 4, 2) := by decide +kernel
theorem dX12_bore_9 : decode cX12_bore 9 = .ok (.iload_n 1, 1) := by decide +kernel
theorem dX12_bore_10 : decode cX12_bore 10 = .ok (.if_icmp .gt 86, 3) := by decide +kernel
theorem dX12_bore_13 : decode cX12_bore 13 = .ok (.iconst (-1), 1) := by decide +kernel
theorem dX12_bore_14 : decode cX12_bore 14 = .ok (.istore_n 3, 1) := by decide +kernel
theorem dX12_bore_15 : decode cX12_bore 15 = .ok (.iconst 0, 1) := by decide +kernel
theorem dX12_bore_16 : decode cX12_bore 16 = .ok (.istore 5, 2) := by decide +kernel
theorem dX12_bore_18 : decode cX12_bore 18 = .ok (.iload 5, 2) := by decide +kernel
theorem dX12_bore_20 : decode cX12_bore 20 = .ok (.aload_n 0, 1) := by decide +kernel
theorem dX12_bore_21 : decode cX12_bore 21 = .ok (.getfield 230, 3) := by decide +kernel
theorem dX12_bore_24 : decode cX12_bore 24 = .ok (.if_icmp .ge 60, 3) := by decide +kernel
theorem dX12_bore_27 : decode cX12_bore 27 = .ok (.iload_n 3, 1) := by decide +kernel
theorem dX12_bore_28 : decode cX12_bore 28 = .ok (.iconst (-1), 1) := by decide +kernel
theorem dX12_bore_29 : decode cX12_bore 29 = .ok (.if_icmp .eq 21, 3) := by decide +kernel
theorem dX12_bore_32 : decode cX12_bore 32 = .ok (.aload_n 0, 1) := by decide +kernel
theorem dX12_bore_33 : decode cX12_bore 33 = .ok (.iconst 1, 1) := by decide +kernel
theorem dX12_bore_34 : decode cX12_bore 34 = .ok (.iload 5, 2) := by decide +kernel
theorem dX12_bore_36 : decode cX12_bore 36 = .ok (.iadd, 1) := by decide +kernel
theorem dX12_bore_37 : decode cX12_bore 37 = .ok (.invokevirtual 226, 3) := by decide +kernel
theorem dX12_bore_40 : decode cX12_bore 40 = .ok (.aload_n 0, 1) := by decide +kernel
theorem dX12_bore_41 : decode cX12_bore 41 = .ok (.iconst 1, 1) := by decide +kernel
theorem dX12_bore_42 : decode cX12_bore 42 = .ok (.iload_n 3, 1) := by decide +kernel
theorem dX12_bore_43 : decode cX12_bore 43 = .ok (.iadd, 1) := by decide +kernel
theorem dX12_bore_44 : decode cX12_bore 44 = .ok (.invokevirtual 226, 3) := by decide +kernel
theorem dX12_bore_47 : decode cX12_bore 47 = .ok (.if_icmp .ge 7, 3) := by decide +kernel
theorem dX12_bore_50 : decode cX12_bore 50 = .ok (.iconst 1, 1) := by decide +kernel
theorem dX12_bore_51 : decode cX12_bore 51 = .ok (.goto 4, 3) := by decide +kernel
theorem dX12_bore_54 : decode cX12_bore 54 = .ok (.iconst 0, 1) := by decide +kernel
theorem dX12_bore_55 : decode cX12_bore 55 = .ok (.istore 6, 2) := by decide +kernel
theorem dX12_bore_57 : decode cX12_bore 57 = .ok (.iload_n 2, 1) := by decide +kernel
theorem dX12_bore_58 : decode cX12_bore 58 = .ok (.iload 5, 2) := by decide +kernel
theorem dX12_bore_60 : decode cX12_bore 60 = .ok (.invokestatic 82, 3) := by decide +kernel
theorem dX12_bore_63 : decode cX12_bore 63 = .ok (.ifCond .ne 13, 3) := by decide +kernel
theorem dX12_bore_66 : decode cX12_bore 66 = .ok (.iload 6, 2) := by decide +kernel
theorem dX12_bore_68 : decode cX12_bore 68 = .ok (.ifCond .eq 8, 3) := by decide +kernel
theorem dX12_bore_71 : decode cX12_bore 71 = .ok (.iload 5, 2) := by decide +kernel
theorem dX12_bore_73 : decode cX12_bore 73 = .ok (.goto 4, 3) := by decide +kernel
theorem dX12_bore_76 : decode cX12_bore 76 = .ok (.iload_n 3, 1) := by decide +kernel
theorem dX12_bore_77 : decode cX12_bore 77 = .ok (.istore_n 3, 1) := by decide +kernel
theorem dX12_bore_78 : decode cX12_bore 78 = .ok (.iinc 5 1, 3) := by decide +kernel
theorem dX12_bore_81 : decode cX12_bore 81 = .ok (.goto (-63), 3) := by decide +kernel
theorem dX12_bore_84 : decode cX12_bore 84 = .ok (.iload_n 2, 1) := by decide +kernel
theorem dX12_bore_85 : decode cX12_bore 85 = .ok (.iconst 1, 1) := by decide +kernel
theorem dX12_bore_86 : decode cX12_bore 86 = .ok (.iload_n 3, 1) := by decide +kernel
theorem dX12_bore_87 : decode cX12_bore 87 = .ok (.ishl, 1) := by decide +kernel
theorem dX12_bore_88 : decode cX12_bore 88 = .ok (.ior, 1) := by decide +kernel
theorem dX12_bore_89 : decode cX12_bore 89 = .ok (.istore_n 2, 1) := by decide +kernel
theorem dX12_bore_90 : decode cX12_bore 90 = .ok (.iinc 4 1, 3) := by decide +kernel
theorem dX12_bore_93 : decode cX12_bore 93 = .ok (.goto (-86), 3) := by decide +kernel
theorem dX12_bore_96 : decode cX12_bore 96 = .ok (.iload_n 3, 1) := by decide +kernel
theorem dX12_bore_97 : decode cX12_bore 97 = .ok (.ireturn, 1) := by decide +kernel
theorem dX12_ring_0 : decode cX12_ring 0 = .ok (.aload_n 0, 1) := by decide +kernel
theorem dX12_ring_1 : decode cX12_ring 1 = .ok (.iconst 0, 1) := by decide +kernel
theorem dX12_ring_2 : decode cX12_ring 2 = .ok (.putfield 78, 3) := by decide +kernel
theorem dX12_ring_5 : decode cX12_ring 5 = .ok (.aload_n 0, 1) := by decide +kernel
theorem dX12_ring_6 : decode cX12_ring 6 = .ok (.iload_n 1, 1) := by decide +kernel
theorem dX12_ring_7 : decode cX12_ring 7 = .ok (.invokevirtual 257, 3) := by decide +kernel
theorem dX12_ring_10 : decode cX12_ring 10 = .ok (.ifCond .ne 6, 3) := by decide +kernel
theorem dX12_ring_13 : decode cX12_ring 13 = .ok (.bipush (-2), 2) := by decide +kernel
theorem dX12_ring_15 : decode cX12_ring 15 = .ok (.ireturn, 1) := by decide +kernel
theorem dX12_ring_16 : decode cX12_ring 16 = .ok (.iload_n 2, 1) := by decide +kernel
theorem dX12_ring_17 : decode cX12_ring 17 = .ok (.bipush 20, 2) := by decide +kernel
theorem dX12_ring_19 : decode cX12_ring 19 = .ok (.if_icmp .lt 28, 3) := by decide +kernel
theorem dX12_ring_22 : decode cX12_ring 22 = .ok (.aload_n 0, 1) := by decide +kernel
theorem dX12_ring_23 : decode cX12_ring 23 = .ok (.iload_n 2, 1) := by decide +kernel
theorem dX12_ring_24 : decode cX12_ring 24 = .ok (.bipush 20, 2) := by decide +kernel
theorem dX12_ring_26 : decode cX12_ring 26 = .ok (.isub, 1) := by decide +kernel
theorem dX12_ring_27 : decode cX12_ring 27 = .ok (.invokevirtual 260, 3) := by decide +kernel
theorem dX12_ring_30 : decode cX12_ring 30 = .ok (.ifCond .eq 14, 3) := by decide +kernel
theorem dX12_ring_33 : decode cX12_ring 33 = .ok (.aload_n 0, 1) := by decide +kernel
theorem dX12_ring_34 : decode cX12_ring 34 = .ok (.iload_n 2, 1) := by decide +kernel
theorem dX12_ring_35 : decode cX12_ring 35 = .ok (.bipush 20, 2) := by decide +kernel
theorem dX12_ring_37 : decode cX12_ring 37 = .ok (.isub, 1) := by decide +kernel
theorem dX12_ring_38 : decode cX12_ring 38 = .ok (.invokevirtual 442, 3) := by decide +kernel
theorem dX12_ring_41 : decode cX12_ring 41 = .ok (.goto 5, 3) := by decide +kernel
theorem dX12_ring_44 : decode cX12_ring 44 = .ok (.bipush (-2), 2) := by decide +kernel
theorem dX12_ring_46 : decode cX12_ring 46 = .ok (.ireturn, 1) := by decide +kernel
theorem dX12_ring_47 : decode cX12_ring 47 = .ok (.iload_n 2, 1) := by decide +kernel
theorem dX12_ring_48 : decode cX12_ring 48 = .ok (.bipush 10, 2) := by decide +kernel
theorem dX12_ring_50 : decode cX12_ring 50 = .ok (.if_icmp .lt 28, 3) := by decide +kernel
theorem dX12_ring_53 : decode cX12_ring 53 = .ok (.aload_n 0, 1) := by decide +kernel
theorem dX12_ring_54 : decode cX12_ring 54 = .ok (.iload_n 2, 1) := by decide +kernel
theorem dX12_ring_55 : decode cX12_ring 55 = .ok (.bipush 10, 2) := by decide +kernel
theorem dX12_ring_57 : decode cX12_ring 57 = .ok (.isub, 1) := by decide +kernel
theorem dX12_ring_58 : decode cX12_ring 58 = .ok (.invokevirtual 260, 3) := by decide +kernel
theorem dX12_ring_61 : decode cX12_ring 61 = .ok (.ifCond .eq 14, 3) := by decide +kernel
theorem dX12_ring_64 : decode cX12_ring 64 = .ok (.aload_n 0, 1) := by decide +kernel
theorem dX12_ring_65 : decode cX12_ring 65 = .ok (.iload_n 2, 1) := by decide +kernel
theorem dX12_ring_66 : decode cX12_ring 66 = .ok (.bipush 10, 2) := by decide +kernel
theorem dX12_ring_68 : decode cX12_ring 68 = .ok (.isub, 1) := by decide +kernel
theorem dX12_ring_69 : decode cX12_ring 69 = .ok (.invokevirtual 445, 3) := by decide +kernel
theorem dX12_ring_72 : decode cX12_ring 72 = .ok (.goto 5, 3) := by decide +kernel
theorem dX12_ring_75 : decode cX12_ring 75 = .ok (.bipush (-2), 2) := by decide +kernel
theorem dX12_ring_77 : decode cX12_ring 77 = .ok (.ireturn, 1) := by decide +kernel
theorem dX12_ring_78 : decode cX12_ring 78 = .ok (.iload_n 2, 1) := by decide +kernel
theorem dX12_ring_79 : decode cX12_ring 79 = .ok (.tableswitch 81 0 6 #[41, 46, 51, 66, 51, 71, 76], 41) := by decide +kernel
theorem dX12_ring_120 : decode cX12_ring 120 = .ok (.aload_n 0, 1) := by decide +kernel
theorem dX12_ring_121 : decode cX12_ring 121 = .ok (.invokevirtual 448, 3) := by decide +kernel
theorem dX12_ring_124 : decode cX12_ring 124 = .ok (.ireturn, 1) := by decide +kernel
theorem dX12_ring_125 : decode cX12_ring 125 = .ok (.aload_n 0, 1) := by decide +kernel
theorem dX12_ring_126 : decode cX12_ring 126 = .ok (.invokevirtual 451, 3) := by decide +kernel
theorem dX12_ring_129 : decode cX12_ring 129 = .ok (.ireturn, 1) := by decide +kernel
theorem dX12_ring_130 : decode cX12_ring 130 = .ok (.aload_n 0, 1) := by decide +kernel
theorem dX12_ring_131 : decode cX12_ring 131 = .ok (.iload_n 2, 1) := by decide +kernel
theorem dX12_ring_132 : decode cX12_ring 132 = .ok (.iconst 2, 1) := by decide +kernel
theorem dX12_ring_133 : decode cX12_ring 133 = .ok (.if_icmp .ne 7, 3) := by decide +kernel
theorem dX12_ring_136 : decode cX12_ring 136 = .ok (.iconst 1, 1) := by decide +kernel
theorem dX12_ring_137 : decode cX12_ring 137 = .ok (.goto 4, 3) := by decide +kernel
theorem dX12_ring_140 : decode cX12_ring 140 = .ok (.iconst 0, 1) := by decide +kernel
theorem dX12_ring_141 : decode cX12_ring 141 = .ok (.invokevirtual 454, 3) := by decide +kernel
theorem dX12_ring_144 : decode cX12_ring 144 = .ok (.ireturn, 1) := by decide +kernel
theorem dX12_ring_145 : decode cX12_ring 145 = .ok (.aload_n 0, 1) := by decide +kernel
theorem dX12_ring_146 : decode cX12_ring 146 = .ok (.invokevirtual 458, 3) := by decide +kernel
theorem dX12_ring_149 : decode cX12_ring 149 = .ok (.ireturn, 1) := by decide +kernel
theorem dX12_ring_150 : decode cX12_ring 150 = .ok (.aload_n 0, 1) := by decide +kernel
theorem dX12_ring_151 : decode cX12_ring 151 = .ok (.invokevirtual 461, 3) := by decide +kernel
theorem dX12_ring_154 : decode cX12_ring 154 = .ok (.ireturn, 1) := by decide +kernel
theorem dX12_ring_155 : decode cX12_ring 155 = .ok (.aload_n 0, 1) := by decide +kernel
theorem dX12_ring_156 : decode cX12_ring 156 = .ok (.invokevirtual 464, 3) := by decide +kernel
theorem dX12_ring_159 : decode cX12_ring 159 = .ok (.ireturn, 1) := by decide +kernel
theorem dX12_ring_160 : decode cX12_ring 160 = .ok (.bipush (-2), 2) := by decide +kernel
theorem dX12_ring_162 : decode cX12_ring 162 = .ok (.ireturn, 1) := by decide +kernel
theorem dX12_chainBy_0 : decode cX12_chainBy 0 = .ok (.iload_n 1, 1) := by decide +kernel
theorem dX12_chainBy_1 : decode cX12_chainBy 1 = .ok (.iload_n 3, 1) := by decide +kernel
theorem dX12_chainBy_2 : decode cX12_chainBy 2 = .ok (.invokestatic 82, 3) := by decide +kernel
theorem dX12_chainBy_5 : decode cX12_chainBy 5 = .ok (.ifCond .ne 22, 3) := by decide +kernel
theorem dX12_chainBy_8 : decode cX12_chainBy 8 = .ok (.iload_n 2, 1) := by decide +kernel
theorem dX12_chainBy_9 : decode cX12_chainBy 9 = .ok (.bipush 6, 2) := by decide +kernel
theorem dX12_chainBy_11 : decode cX12_chainBy 11 = .ok (.if_icmp .eq 12, 3) := by decide +kernel
theorem dX12_chainBy_14 : decode cX12_chainBy 14 = .ok (.aload_n 0, 1) := by decide +kernel
theorem dX12_chainBy_15 : decode cX12_chainBy 15 = .ok (.iload_n 2, 1) := by decide +kernel
theorem dX12_chainBy_16 : decode cX12_chainBy 16 = .ok (.iload_n 3, 1) := by decide +kernel
theorem dX12_chainBy_17 : decode cX12_chainBy 17 = .ok (.invokevirtual 254, 3) := by decide +kernel
theorem dX12_chainBy_20 : decode cX12_chainBy 20 = .ok (.ifCond .le 7, 3) := by decide +kernel
theorem dX12_chainBy_23 : decode cX12_chainBy 23 = .ok (.iconst 1, 1) := by decide +kernel
theorem dX12_chainBy_24 : decode cX12_chainBy 24 = .ok (.goto 4, 3) := by decide +kernel
theorem dX12_chainBy_27 : decode cX12_chainBy 27 = .ok (.iconst 0, 1) := by decide +kernel
theorem dX12_chainBy_28 : decode cX12_chainBy 28 = .ok (.istore 4, 2) := by decide +kernel
theorem dX12_chainBy_30 : decode cX12_chainBy 30 = .ok (.iload 4, 2) := by decide +kernel
theorem dX12_chainBy_32 : decode cX12_chainBy 32 = .ok (.ifCond .eq 23, 3) := by decide +kernel
theorem dX12_chainBy_35 : decode cX12_chainBy 35 = .ok (.iconst 1, 1) := by decide +kernel
theorem dX12_chainBy_36 : decode cX12_chainBy 36 = .ok (.aload_n 0, 1) := by decide +kernel
theorem dX12_chainBy_37 : decode cX12_chainBy 37 = .ok (.getfield 62, 3) := by decide +kernel
theorem dX12_chainBy_40 : decode cX12_chainBy 40 = .ok (.bipush 64, 2) := by decide +kernel
theorem dX12_chainBy_42 : decode cX12_chainBy 42 = .ok (.iload_n 3, 1) := by decide +kernel
theorem dX12_chainBy_43 : decode cX12_chainBy 43 = .ok (.imul, 1) := by decide +kernel
theorem dX12_chainBy_44 : decode cX12_chainBy 44 = .ok (.iload_n 1, 1) := by decide +kernel
theorem dX12_chainBy_45 : decode cX12_chainBy 45 = .ok (.iconst 1, 1) := by decide +kernel
theorem dX12_chainBy_46 : decode cX12_chainBy 46 = .ok (.iload_n 3, 1) := by decide +kernel
theorem dX12_chainBy_47 : decode cX12_chainBy 47 = .ok (.ishl, 1) := by decide +kernel
theorem dX12_chainBy_48 : decode cX12_chainBy 48 = .ok (.ior, 1) := by decide +kernel
theorem dX12_chainBy_49 : decode cX12_chainBy 49 = .ok (.iadd, 1) := by decide +kernel
theorem dX12_chainBy_50 : decode cX12_chainBy 50 = .ok (.iaload, 1) := by decide +kernel
theorem dX12_chainBy_51 : decode cX12_chainBy 51 = .ok (.iadd, 1) := by decide +kernel
theorem dX12_chainBy_52 : decode cX12_chainBy 52 = .ok (.goto 4, 3) := by decide +kernel
theorem dX12_chainBy_55 : decode cX12_chainBy 55 = .ok (.iconst 0, 1) := by decide +kernel
theorem dX12_chainBy_56 : decode cX12_chainBy 56 = .ok (.ireturn, 1) := by decide +kernel
theorem dX12_findChains_0 : decode cX12_findChains 0 = .ok (.iconst 1, 1) := by decide +kernel
theorem dX12_findChains_1 : decode cX12_findChains 1 = .ok (.aload_n 0, 1) := by decide +kernel
theorem dX12_findChains_2 : decode cX12_findChains 2 = .ok (.getfield 230, 3) := by decide +kernel
theorem dX12_findChains_5 : decode cX12_findChains 5 = .ok (.ishl, 1) := by decide +kernel
theorem dX12_findChains_6 : decode cX12_findChains 6 = .ok (.iconst 1, 1) := by decide +kernel
theorem dX12_findChains_7 : decode cX12_findChains 7 = .ok (.isub, 1) := by decide +kernel
theorem dX12_findChains_8 : decode cX12_findChains 8 = .ok (.istore_n 1, 1) := by decide +kernel
theorem dX12_findChains_9 : decode cX12_findChains 9 = .ok (.iload_n 1, 1) := by decide +kernel
theorem dX12_findChains_10 : decode cX12_findChains 10 = .ok (.ifCond .lt 82, 3) := by decide +kernel
theorem dX12_findChains_13 : decode cX12_findChains 13 = .ok (.iconst 0, 1) := by decide +kernel
theorem dX12_findChains_14 : decode cX12_findChains 14 = .ok (.istore_n 2, 1) := by decide +kernel
theorem dX12_findChains_15 : decode cX12_findChains 15 = .ok (.iload_n 2, 1) := by decide +kernel
theorem dX12_findChains_16 : decode cX12_findChains 16 = .ok (.bipush 6, 2) := by decide +kernel
theorem dX12_findChains_18 : decode cX12_findChains 18 = .ok (.if_icmp .gt 68, 3) := by decide +kernel
theorem dX12_findChains_21 : decode cX12_findChains 21 = .ok (.iconst 0, 1) := by decide +kernel
theorem dX12_findChains_22 : decode cX12_findChains 22 = .ok (.istore_n 3, 1) := by decide +kernel
theorem dX12_findChains_23 : decode cX12_findChains 23 = .ok (.iconst 0, 1) := by decide +kernel
theorem dX12_findChains_24 : decode cX12_findChains 24 = .ok (.istore 4, 2) := by decide +kernel
theorem dX12_findChains_26 : decode cX12_findChains 26 = .ok (.iload 4, 2) := by decide +kernel
theorem dX12_findChains_28 : decode cX12_findChains 28 = .ok (.aload_n 0, 1) := by decide +kernel
theorem dX12_findChains_29 : decode cX12_findChains 29 = .ok (.getfield 230, 3) := by decide +kernel
theorem dX12_findChains_32 : decode cX12_findChains 32 = .ok (.if_icmp .ge 36, 3) := by decide +kernel
theorem dX12_findChains_35 : decode cX12_findChains 35 = .ok (.iload_n 2, 1) := by decide +kernel
theorem dX12_findChains_36 : decode cX12_findChains 36 = .ok (.aload_n 0, 1) := by decide +kernel
theorem dX12_findChains_37 : decode cX12_findChains 37 = .ok (.getfield 230, 3) := by decide +kernel
theorem dX12_findChains_40 : decode cX12_findChains 40 = .ok (.if_icmp .lt 9, 3) := by decide +kernel
theorem dX12_findChains_43 : decode cX12_findChains 43 = .ok (.iload_n 2, 1) := by decide +kernel
theorem dX12_findChains_44 : decode cX12_findChains 44 = .ok (.bipush 6, 2) := by decide +kernel
theorem dX12_findChains_46 : decode cX12_findChains 46 = .ok (.if_icmp .ne 22, 3) := by decide +kernel
theorem dX12_findChains_49 : decode cX12_findChains 49 = .ok (.iload_n 3, 1) := by decide +kernel
theorem dX12_findChains_50 : decode cX12_findChains 50 = .ok (.aload_n 0, 1) := by decide +kernel
theorem dX12_findChains_51 : decode cX12_findChains 51 = .ok (.iload_n 1, 1) := by decide +kernel
theorem dX12_findChains_52 : decode cX12_findChains 52 = .ok (.iload_n 2, 1) := by decide +kernel
theorem dX12_findChains_53 : decode cX12_findChains 53 = .ok (.iload 4, 2) := by decide +kernel
theorem dX12_findChains_55 : decode cX12_findChains 55 = .ok (.invokevirtual 467, 3) := by decide +kernel
theorem dX12_findChains_58 : decode cX12_findChains 58 = .ok (.invokestatic 171, 3) := by decide +kernel
theorem dX12_findChains_61 : decode cX12_findChains 61 = .ok (.istore_n 3, 1) := by decide +kernel
theorem dX12_findChains_62 : decode cX12_findChains 62 = .ok (.iinc 4 1, 3) := by decide +kernel
theorem dX12_findChains_65 : decode cX12_findChains 65 = .ok (.goto (-39), 3) := by decide +kernel
theorem dX12_findChains_68 : decode cX12_findChains 68 = .ok (.aload_n 0, 1) := by decide +kernel
theorem dX12_findChains_69 : decode cX12_findChains 69 = .ok (.getfield 62, 3) := by decide +kernel
theorem dX12_findChains_72 : decode cX12_findChains 72 = .ok (.bipush 64, 2) := by decide +kernel
theorem dX12_findChains_74 : decode cX12_findChains 74 = .ok (.iload_n 2, 1) := by decide +kernel
theorem dX12_findChains_75 : decode cX12_findChains 75 = .ok (.imul, 1) := by decide +kernel
theorem dX12_findChains_76 : decode cX12_findChains 76 = .ok (.iload_n 1, 1) := by decide +kernel
theorem dX12_findChains_77 : decode cX12_findChains 77 = .ok (.iadd, 1) := by decide +kernel
theorem dX12_findChains_78 : decode cX12_findChains 78 = .ok (.iload_n 3, 1) := by decide +kernel
theorem dX12_findChains_79 : decode cX12_findChains 79 = .ok (.iastore, 1) := by decide +kernel
theorem dX12_findChains_80 : decode cX12_findChains 80 = .ok (.iinc 2 1, 3) := by decide +kernel
theorem dX12_findChains_83 : decode cX12_findChains 83 = .ok (.goto (-68), 3) := by decide +kernel
theorem dX12_findChains_86 : decode cX12_findChains 86 = .ok (.iinc 1 (-1), 3) := by decide +kernel
theorem dX12_findChains_89 : decode cX12_findChains 89 = .ok (.goto (-80), 3) := by decide +kernel
theorem dX12_findChains_92 : decode cX12_findChains 92 = .ok (.return_, 1) := by decide +kernel
theorem dX12_chain_0 : decode cX12_chain 0 = .ok (.aload_n 0, 1) := by decide +kernel
theorem dX12_chain_1 : decode cX12_chain 1 = .ok (.iconst 0, 1) := by decide +kernel
theorem dX12_chain_2 : decode cX12_chain 2 = .ok (.putfield 78, 3) := by decide +kernel
theorem dX12_chain_5 : decode cX12_chain 5 = .ok (.aload_n 0, 1) := by decide +kernel
theorem dX12_chain_6 : decode cX12_chain 6 = .ok (.iload_n 1, 1) := by decide +kernel
theorem dX12_chain_7 : decode cX12_chain 7 = .ok (.invokevirtual 257, 3) := by decide +kernel
theorem dX12_chain_10 : decode cX12_chain 10 = .ok (.ifCond .ne 5, 3) := by decide +kernel
theorem dX12_chain_13 : decode cX12_chain 13 = .ok (.iconst (-1), 1) := by decide +kernel
theorem dX12_chain_14 : decode cX12_chain 14 = .ok (.ireturn, 1) := by decide +kernel
theorem dX12_chain_15 : decode cX12_chain 15 = .ok (.aload_n 0, 1) := by decide +kernel
theorem dX12_chain_16 : decode cX12_chain 16 = .ok (.invokevirtual 470, 3) := by decide +kernel
theorem dX12_chain_19 : decode cX12_chain 19 = .ok (.aload_n 0, 1) := by decide +kernel
theorem dX12_chain_20 : decode cX12_chain 20 = .ok (.getfield 62, 3) := by decide +kernel
theorem dX12_chain_23 : decode cX12_chain 23 = .ok (.sipush 384, 3) := by decide +kernel
theorem dX12_chain_26 : decode cX12_chain 26 = .ok (.iaload, 1) := by decide +kernel
theorem dX12_chain_27 : decode cX12_chain 27 = .ok (.istore_n 3, 1) := by decide +kernel
theorem dX12_chain_28 : decode cX12_chain 28 = .ok (.iload_n 2, 1) := by decide +kernel
theorem dX12_chain_29 : decode cX12_chain 29 = .ok (.iconst (-1), 1) := by decide +kernel
theorem dX12_chain_30 : decode cX12_chain 30 = .ok (.if_icmp .eq 14, 3) := by decide +kernel
theorem dX12_chain_33 : decode cX12_chain 33 = .ok (.iload_n 2, 1) := by decide +kernel
theorem dX12_chain_34 : decode cX12_chain 34 = .ok (.iconst 0, 1) := by decide +kernel
theorem dX12_chain_35 : decode cX12_chain 35 = .ok (.iload_n 3, 1) := by decide +kernel
theorem dX12_chain_36 : decode cX12_chain 36 = .ok (.iconst 1, 1) := by decide +kernel
theorem dX12_chain_37 : decode cX12_chain 37 = .ok (.isub, 1) := by decide +kernel
theorem dX12_chain_38 : decode cX12_chain 38 = .ok (.invokestatic 90, 3) := by decide +kernel
theorem dX12_chain_41 : decode cX12_chain 41 = .ok (.ifCond .ne 14, 3) := by decide +kernel
theorem dX12_chain_44 : decode cX12_chain 44 = .ok (.iload_n 2, 1) := by decide +kernel
theorem dX12_chain_45 : decode cX12_chain 45 = .ok (.iconst (-1), 1) := by decide +kernel
theorem dX12_chain_46 : decode cX12_chain 46 = .ok (.if_icmp .ne 7, 3) := by decide +kernel
theorem dX12_chain_49 : decode cX12_chain 49 = .ok (.iload_n 3, 1) := by decide +kernel
theorem dX12_chain_50 : decode cX12_chain 50 = .ok (.goto 4, 3) := by decide +kernel
theorem dX12_chain_53 : decode cX12_chain 53 = .ok (.iconst (-1), 1) := by decide +kernel
theorem dX12_chain_54 : decode cX12_chain 54 = .ok (.ireturn, 1) := by decide +kernel
theorem dX12_chain_55 : decode cX12_chain 55 = .ok (.iconst 0, 1) := by decide +kernel
theorem dX12_chain_56 : decode cX12_chain 56 = .ok (.istore 4, 2) := by decide +kernel
theorem dX12_chain_58 : decode cX12_chain 58 = .ok (.bipush 6, 2) := by decide +kernel
theorem dX12_chain_60 : decode cX12_chain 60 = .ok (.istore 5, 2) := by decide +kernel
theorem dX12_chain_62 : decode cX12_chain 62 = .ok (.iconst 0, 1) := by decide +kernel
theorem dX12_chain_63 : decode cX12_chain 63 = .ok (.istore 6, 2) := by decide +kernel
theorem dX12_chain_65 : decode cX12_chain 65 = .ok (.iload 6, 2) := by decide +kernel
theorem dX12_chain_67 : decode cX12_chain 67 = .ok (.iload_n 2, 1) := by decide +kernel
theorem dX12_chain_68 : decode cX12_chain 68 = .ok (.if_icmp .gt 57, 3) := by decide +kernel
theorem dX12_chain_71 : decode cX12_chain 71 = .ok (.iconst 0, 1) := by decide +kernel
theorem dX12_chain_72 : decode cX12_chain 72 = .ok (.istore 7, 2) := by decide +kernel
theorem dX12_chain_74 : decode cX12_chain 74 = .ok (.aload_n 0, 1) := by decide +kernel
theorem dX12_chain_75 : decode cX12_chain 75 = .ok (.iload 4, 2) := by decide +kernel
theorem dX12_chain_77 : decode cX12_chain 77 = .ok (.iload 5, 2) := by decide +kernel
theorem dX12_chain_79 : decode cX12_chain 79 = .ok (.iload 7, 2) := by decide +kernel
theorem dX12_chain_81 : decode cX12_chain 81 = .ok (.invokevirtual 467, 3) := by decide +kernel
theorem dX12_chain_84 : decode cX12_chain 84 = .ok (.aload_n 0, 1) := by decide +kernel
theorem dX12_chain_85 : decode cX12_chain 85 = .ok (.getfield 62, 3) := by decide +kernel
theorem dX12_chain_88 : decode cX12_chain 88 = .ok (.bipush 64, 2) := by decide +kernel
theorem dX12_chain_90 : decode cX12_chain 90 = .ok (.iload 5, 2) := by decide +kernel
theorem dX12_chain_92 : decode cX12_chain 92 = .ok (.imul, 1) := by decide +kernel
theorem dX12_chain_93 : decode cX12_chain 93 = .ok (.iload 4, 2) := by decide +kernel
theorem dX12_chain_95 : decode cX12_chain 95 = .ok (.iadd, 1) := by decide +kernel
theorem dX12_chain_96 : decode cX12_chain 96 = .ok (.iaload, 1) := by decide +kernel
theorem dX12_chain_97 : decode cX12_chain 97 = .ok (.if_icmp .eq 9, 3) := by decide +kernel
theorem dX12_chain_100 : decode cX12_chain 100 = .ok (.iinc 7 1, 3) := by decide +kernel
theorem dX12_chain_103 : decode cX12_chain 103 = .ok (.goto (-29), 3) := by decide +kernel
theorem dX12_chain_106 : decode cX12_chain 106 = .ok (.iload 4, 2) := by decide +kernel
theorem dX12_chain_108 : decode cX12_chain 108 = .ok (.iconst 1, 1) := by decide +kernel
theorem dX12_chain_109 : decode cX12_chain 109 = .ok (.iload 7, 2) := by decide +kernel
theorem dX12_chain_111 : decode cX12_chain 111 = .ok (.ishl, 1) := by decide +kernel
theorem dX12_chain_112 : decode cX12_chain 112 = .ok (.ior, 1) := by decide +kernel
theorem dX12_chain_113 : decode cX12_chain 113 = .ok (.istore 4, 2) := by decide +kernel
theorem dX12_chain_115 : decode cX12_chain 115 = .ok (.iload 7, 2) := by decide +kernel
theorem dX12_chain_117 : decode cX12_chain 117 = .ok (.istore 5, 2) := by decide +kernel
theorem dX12_chain_119 : decode cX12_chain 119 = .ok (.iinc 6 1, 3) := by decide +kernel
theorem dX12_chain_122 : decode cX12_chain 122 = .ok (.goto (-57), 3) := by decide +kernel
theorem dX12_chain_125 : decode cX12_chain 125 = .ok (.iload 5, 2) := by decide +kernel
theorem dX12_chain_127 : decode cX12_chain 127 = .ok (.ireturn, 1) := by decide +kernel
theorem dX12_wealth_0 : decode cX12_wealth 0 = .ok (.aload_n 0, 1) := by decide +kernel
theorem dX12_wealth_1 : decode cX12_wealth 1 = .ok (.iconst 0, 1) := by decide +kernel
theorem dX12_wealth_2 : decode cX12_wealth 2 = .ok (.putfield 78, 3) := by decide +kernel
theorem dX12_wealth_5 : decode cX12_wealth 5 = .ok (.aload_n 0, 1) := by decide +kernel
theorem dX12_wealth_6 : decode cX12_wealth 6 = .ok (.iload_n 1, 1) := by decide +kernel
theorem dX12_wealth_7 : decode cX12_wealth 7 = .ok (.invokevirtual 257, 3) := by decide +kernel
theorem dX12_wealth_10 : decode cX12_wealth 10 = .ok (.ifCond .eq 19, 3) := by decide +kernel
theorem dX12_wealth_13 : decode cX12_wealth 13 = .ok (.aload_n 0, 1) := by decide +kernel
theorem dX12_wealth_14 : decode cX12_wealth 14 = .ok (.iload_n 2, 1) := by decide +kernel
theorem dX12_wealth_15 : decode cX12_wealth 15 = .ok (.invokevirtual 260, 3) := by decide +kernel
theorem dX12_wealth_18 : decode cX12_wealth 18 = .ok (.ifCond .eq 11, 3) := by decide +kernel
theorem dX12_wealth_21 : decode cX12_wealth 21 = .ok (.aload_n 0, 1) := by decide +kernel
theorem dX12_wealth_22 : decode cX12_wealth 22 = .ok (.iload_n 2, 1) := by decide +kernel
theorem dX12_wealth_23 : decode cX12_wealth 23 = .ok (.invokevirtual 436, 3) := by decide +kernel
theorem dX12_wealth_26 : decode cX12_wealth 26 = .ok (.goto 6, 3) := by decide +kernel
theorem dX12_wealth_29 : decode cX12_wealth 29 = .ok (.sipush (-999), 3) := by decide +kernel
theorem dX12_wealth_32 : decode cX12_wealth 32 = .ok (.ireturn, 1) := by decide +kernel
theorem dX12_relief_0 : decode cX12_relief 0 = .ok (.aload_n 0, 1) := by decide +kernel
theorem dX12_relief_1 : decode cX12_relief 1 = .ok (.iconst 0, 1) := by decide +kernel
theorem dX12_relief_2 : decode cX12_relief 2 = .ok (.putfield 78, 3) := by decide +kernel
theorem dX12_relief_5 : decode cX12_relief 5 = .ok (.iload_n 2, 1) := by decide +kernel
theorem dX12_relief_6 : decode cX12_relief 6 = .ok (.iconst 0, 1) := by decide +kernel
theorem dX12_relief_7 : decode cX12_relief 7 = .ok (.bipush 99, 2) := by decide +kernel
theorem dX12_relief_9 : decode cX12_relief 9 = .ok (.invokestatic 90, 3) := by decide +kernel
theorem dX12_relief_12 : decode cX12_relief 12 = .ok (.ifCond .eq 11, 3) := by decide +kernel
theorem dX12_relief_15 : decode cX12_relief 15 = .ok (.aload_n 0, 1) := by decide +kernel
theorem dX12_relief_16 : decode cX12_relief 16 = .ok (.iload_n 1, 1) := by decide +kernel
theorem dX12_relief_17 : decode cX12_relief 17 = .ok (.invokevirtual 257, 3) := by decide +kernel
theorem dX12_relief_20 : decode cX12_relief 20 = .ok (.ifCond .ne 5, 3) := by decide +kernel
theorem dX12_relief_23 : decode cX12_relief 23 = .ok (.iconst (-1), 1) := by decide +kernel
theorem dX12_relief_24 : decode cX12_relief 24 = .ok (.ireturn, 1) := by decide +kernel
theorem dX12_relief_25 : decode cX12_relief 25 = .ok (.iconst 0, 1) := by decide +kernel
theorem dX12_relief_26 : decode cX12_relief 26 = .ok (.istore_n 3, 1) := by decide +kernel
theorem dX12_relief_27 : decode cX12_relief 27 = .ok (.iconst 0, 1) := by decide +kernel
theorem dX12_relief_28 : decode cX12_relief 28 = .ok (.istore 4, 2) := by decide +kernel
theorem dX12_relief_30 : decode cX12_relief 30 = .ok (.iload 4, 2) := by decide +kernel
theorem dX12_relief_32 : decode cX12_relief 32 = .ok (.aload_n 0, 1) := by decide +kernel
theorem dX12_relief_33 : decode cX12_relief 33 = .ok (.getfield 230, 3) := by decide +kernel
theorem dX12_relief_36 : decode cX12_relief 36 = .ok (.if_icmp .ge 24, 3) := by decide +kernel
theorem dX12_relief_39 : decode cX12_relief 39 = .ok (.iload_n 3, 1) := by decide +kernel
theorem dX12_relief_40 : decode cX12_relief 40 = .ok (.iconst 0, 1) := by decide +kernel
theorem dX12_relief_41 : decode cX12_relief 41 = .ok (.aload_n 0, 1) := by decide +kernel
theorem dX12_relief_42 : decode cX12_relief 42 = .ok (.iload 4, 2) := by decide +kernel
theorem dX12_relief_44 : decode cX12_relief 44 = .ok (.invokevirtual 311, 3) := by decide +kernel
theorem dX12_relief_47 : decode cX12_relief 47 = .ok (.iload_n 2, 1) := by decide +kernel
theorem dX12_relief_48 : decode cX12_relief 48 = .ok (.isub, 1) := by decide +kernel
theorem dX12_relief_49 : decode cX12_relief 49 = .ok (.invokestatic 171, 3) := by decide +kernel
theorem dX12_relief_52 : decode cX12_relief 52 = .ok (.iadd, 1) := by decide +kernel
theorem dX12_relief_53 : decode cX12_relief 53 = .ok (.istore_n 3, 1) := by decide +kernel
theorem dX12_relief_54 : decode cX12_relief 54 = .ok (.iinc 4 1, 3) := by decide +kernel
theorem dX12_relief_57 : decode cX12_relief 57 = .ok (.goto (-27), 3) := by decide +kernel
theorem dX12_relief_60 : decode cX12_relief 60 = .ok (.iload_n 3, 1) := by decide +kernel
theorem dX12_relief_61 : decode cX12_relief 61 = .ok (.ireturn, 1) := by decide +kernel
theorem dX12_witsOf_0 : decode cX12_witsOf 0 = .ok (.iconst 0, 1) := by decide +kernel
theorem dX12_witsOf_1 : decode cX12_witsOf 1 = .ok (.istore_n 2, 1) := by decide +kernel
theorem dX12_witsOf_2 : decode cX12_witsOf 2 = .ok (.iconst 0, 1) := by decide +kernel
theorem dX12_witsOf_3 : decode cX12_witsOf 3 = .ok (.istore_n 3, 1) := by decide +kernel
theorem dX12_witsOf_4 : decode cX12_witsOf 4 = .ok (.iload_n 3, 1) := by decide +kernel
theorem dX12_witsOf_5 : decode cX12_witsOf 5 = .ok (.aload_n 0, 1) := by decide +kernel
theorem dX12_witsOf_6 : decode cX12_witsOf 6 = .ok (.getfield 230, 3) := by decide +kernel
theorem dX12_witsOf_9 : decode cX12_witsOf 9 = .ok (.if_icmp .ge 31, 3) := by decide +kernel
theorem dX12_witsOf_12 : decode cX12_witsOf 12 = .ok (.iload_n 2, 1) := by decide +kernel
theorem dX12_witsOf_13 : decode cX12_witsOf 13 = .ok (.iload_n 1, 1) := by decide +kernel
theorem dX12_witsOf_14 : decode cX12_witsOf 14 = .ok (.iload_n 3, 1) := by decide +kernel
theorem dX12_witsOf_15 : decode cX12_witsOf 15 = .ok (.invokestatic 82, 3) := by decide +kernel
theorem dX12_witsOf_18 : decode cX12_witsOf 18 = .ok (.ifCond .eq 13, 3) := by decide +kernel
theorem dX12_witsOf_21 : decode cX12_witsOf 21 = .ok (.aload_n 0, 1) := by decide +kernel
theorem dX12_witsOf_22 : decode cX12_witsOf 22 = .ok (.iconst 1, 1) := by decide +kernel
theorem dX12_witsOf_23 : decode cX12_witsOf 23 = .ok (.iload_n 3, 1) := by decide +kernel
theorem dX12_witsOf_24 : decode cX12_witsOf 24 = .ok (.iadd, 1) := by decide +kernel
theorem dX12_witsOf_25 : decode cX12_witsOf 25 = .ok (.invokevirtual 226, 3) := by decide +kernel
theorem dX12_witsOf_28 : decode cX12_witsOf 28 = .ok (.goto 4, 3) := by decide +kernel
theorem dX12_witsOf_31 : decode cX12_witsOf 31 = .ok (.iconst 0, 1) := by decide +kernel
theorem dX12_witsOf_32 : decode cX12_witsOf 32 = .ok (.iadd, 1) := by decide +kernel
theorem dX12_witsOf_33 : decode cX12_witsOf 33 = .ok (.istore_n 2, 1) := by decide +kernel
theorem dX12_witsOf_34 : decode cX12_witsOf 34 = .ok (.iinc 3 1, 3) := by decide +kernel
theorem dX12_witsOf_37 : decode cX12_witsOf 37 = .ok (.goto (-33), 3) := by decide +kernel
theorem dX12_witsOf_40 : decode cX12_witsOf 40 = .ok (.iload_n 2, 1) := by decide +kernel
theorem dX12_witsOf_41 : decode cX12_witsOf 41 = .ok (.ireturn, 1) := by decide +kernel
theorem dX12_party_0 : decode cX12_party 0 = .ok (.aload_n 0, 1) := by decide +kernel
theorem dX12_party_1 : decode cX12_party 1 = .ok (.iconst 0, 1) := by decide +kernel
theorem dX12_party_2 : decode cX12_party 2 = .ok (.putfield 78, 3) := by decide +kernel
theorem dX12_party_5 : decode cX12_party 5 = .ok (.iload_n 2, 1) := by decide +kernel
theorem dX12_party_6 : decode cX12_party 6 = .ok (.iconst 0, 1) := by decide +kernel
theorem dX12_party_7 : decode cX12_party 7 = .ok (.bipush 6, 2) := by decide +kernel
theorem dX12_party_9 : decode cX12_party 9 = .ok (.invokestatic 90, 3) := by decide +kernel
theorem dX12_party_12 : decode cX12_party 12 = .ok (.ifCond .eq 11, 3) := by decide +kernel
theorem dX12_party_15 : decode cX12_party 15 = .ok (.aload_n 0, 1) := by decide +kernel
theorem dX12_party_16 : decode cX12_party 16 = .ok (.iload_n 1, 1) := by decide +kernel
theorem dX12_party_17 : decode cX12_party 17 = .ok (.invokevirtual 257, 3) := by decide +kernel
theorem dX12_party_20 : decode cX12_party 20 = .ok (.ifCond .ne 5, 3) := by decide +kernel
theorem dX12_party_23 : decode cX12_party 23 = .ok (.iconst (-1), 1) := by decide +kernel
theorem dX12_party_24 : decode cX12_party 24 = .ok (.ireturn, 1) := by decide +kernel
theorem dX12_party_25 : decode cX12_party 25 = .ok (.iconst (-1), 1) := by decide +kernel
theorem dX12_party_26 : decode cX12_party 26 = .ok (.istore 4, 2) := by decide +kernel
theorem dX12_party_28 : decode cX12_party 28 = .ok (.iconst 0, 1) := by decide +kernel
theorem dX12_party_29 : decode cX12_party 29 = .ok (.istore 5, 2) := by decide +kernel
theorem dX12_party_31 : decode cX12_party 31 = .ok (.iload 5, 2) := by decide +kernel
theorem dX12_party_33 : decode cX12_party 33 = .ok (.iconst 1, 1) := by decide +kernel
theorem dX12_party_34 : decode cX12_party 34 = .ok (.aload_n 0, 1) := by decide +kernel
theorem dX12_party_35 : decode cX12_party 35 = .ok (.getfield 230, 3) := by decide +kernel
theorem dX12_party_38 : decode cX12_party 38 = .ok (.ishl, 1) := by decide +kernel
theorem dX12_party_39 : decode cX12_party 39 = .ok (.if_icmp .ge 69, 3) := by decide +kernel
theorem dX12_party_42 : decode cX12_party 42 = .ok (.iload 5, 2) := by decide +kernel
theorem dX12_party_44 : decode cX12_party 44 = .ok (.invokestatic 358, 3) := by decide +kernel
theorem dX12_party_47 : decode cX12_party 47 = .ok (.iload_n 2, 1) := by decide +kernel
theorem dX12_party_48 : decode cX12_party 48 = .ok (.if_icmp .ne 16, 3) := by decide +kernel
theorem dX12_party_51 : decode cX12_party 51 = .ok (.aload_n 0, 1) := by decide +kernel
theorem dX12_party_52 : decode cX12_party 52 = .ok (.iload 5, 2) := by decide +kernel
theorem dX12_party_54 : decode cX12_party 54 = .ok (.invokevirtual 395, 3) := by decide +kernel
theorem dX12_party_57 : decode cX12_party 57 = .ok (.ifCond .eq 7, 3) := by decide +kernel
theorem dX12_party_60 : decode cX12_party 60 = .ok (.iconst 1, 1) := by decide +kernel
theorem dX12_party_61 : decode cX12_party 61 = .ok (.goto 4, 3) := by decide +kernel
theorem dX12_party_64 : decode cX12_party 64 = .ok (.iconst 0, 1) := by decide +kernel
theorem dX12_party_65 : decode cX12_party 65 = .ok (.istore 6, 2) := by decide +kernel
theorem dX12_party_67 : decode cX12_party 67 = .ok (.iload 6, 2) := by decide +kernel
theorem dX12_party_69 : decode cX12_party 69 = .ok (.ifCond .eq 29, 3) := by decide +kernel
theorem dX12_party_72 : decode cX12_party 72 = .ok (.iload 4, 2) := by decide +kernel
theorem dX12_party_74 : decode cX12_party 74 = .ok (.iconst (-1), 1) := by decide +kernel
theorem dX12_party_75 : decode cX12_party 75 = .ok (.if_icmp .eq 18, 3) := by decide +kernel
theorem dX12_party_78 : decode cX12_party 78 = .ok (.aload_n 0, 1) := by decide +kernel
theorem dX12_party_79 : decode cX12_party 79 = .ok (.iload 5, 2) := by decide +kernel
theorem dX12_party_81 : decode cX12_party 81 = .ok (.invokevirtual 473, 3) := by decide +kernel
theorem dX12_party_84 : decode cX12_party 84 = .ok (.aload_n 0, 1) := by decide +kernel
theorem dX12_party_85 : decode cX12_party 85 = .ok (.iload 4, 2) := by decide +kernel
theorem dX12_party_87 : decode cX12_party 87 = .ok (.invokevirtual 473, 3) := by decide +kernel
theorem dX12_party_90 : decode cX12_party 90 = .ok (.if_icmp .le 8, 3) := by decide +kernel
theorem dX12_party_93 : decode cX12_party 93 = .ok (.iload 5, 2) := by decide +kernel
theorem dX12_party_95 : decode cX12_party 95 = .ok (.goto 5, 3) := by decide +kernel
theorem dX12_party_98 : decode cX12_party 98 = .ok (.iload 4, 2) := by decide +kernel
theorem dX12_party_100 : decode cX12_party 100 = .ok (.istore 4, 2) := by decide +kernel
theorem dX12_party_102 : decode cX12_party 102 = .ok (.iinc 5 1, 3) := by decide +kernel
theorem dX12_party_105 : decode cX12_party 105 = .ok (.goto (-74), 3) := by decide +kernel
theorem dX12_party_108 : decode cX12_party 108 = .ok (.iload 4, 2) := by decide +kernel
theorem dX12_party_110 : decode cX12_party 110 = .ok (.iconst (-1), 1) := by decide +kernel
theorem dX12_party_111 : decode cX12_party 111 = .ok (.if_icmp .eq 7, 3) := by decide +kernel
theorem dX12_party_114 : decode cX12_party 114 = .ok (.iload_n 3, 1) := by decide +kernel
theorem dX12_party_115 : decode cX12_party 115 = .ok (.ifCond .eq 8, 3) := by decide +kernel
theorem dX12_party_118 : decode cX12_party 118 = .ok (.iload 4, 2) := by decide +kernel
theorem dX12_party_120 : decode cX12_party 120 = .ok (.goto 9, 3) := by decide +kernel
theorem dX12_party_123 : decode cX12_party 123 = .ok (.aload_n 0, 1) := by decide +kernel
theorem dX12_party_124 : decode cX12_party 124 = .ok (.iload 4, 2) := by decide +kernel
theorem dX12_party_126 : decode cX12_party 126 = .ok (.invokevirtual 473, 3) := by decide +kernel
theorem dX12_party_129 : decode cX12_party 129 = .ok (.ireturn, 1) := by decide +kernel
theorem dX12_layRow_0 : decode cX12_layRow 0 = .ok (.iload_n 1, 1) := by decide +kernel
theorem dX12_layRow_1 : decode cX12_layRow 1 = .ok (.istore_n 3, 1) := by decide +kernel
theorem dX12_layRow_2 : decode cX12_layRow 2 = .ok (.aload_n 0, 1) := by decide +kernel
theorem dX12_layRow_3 : decode cX12_layRow 3 = .ok (.getfield 230, 3) := by decide +kernel
theorem dX12_layRow_6 : decode cX12_layRow 6 = .ok (.iconst 1, 1) := by decide +kernel
theorem dX12_layRow_7 : decode cX12_layRow 7 = .ok (.isub, 1) := by decide +kernel
theorem dX12_layRow_8 : decode cX12_layRow 8 = .ok (.istore 4, 2) := by decide +kernel
theorem dX12_layRow_10 : decode cX12_layRow 10 = .ok (.iload 4, 2) := by decide +kernel
theorem dX12_layRow_12 : decode cX12_layRow 12 = .ok (.ifCond .lt 23, 3) := by decide +kernel
theorem dX12_layRow_15 : decode cX12_layRow 15 = .ok (.aload_n 0, 1) := by decide +kernel
theorem dX12_layRow_16 : decode cX12_layRow 16 = .ok (.getfield 71, 3) := by decide +kernel
theorem dX12_layRow_19 : decode cX12_layRow 19 = .ok (.iload 4, 2) := by decide +kernel
theorem dX12_layRow_21 : decode cX12_layRow 21 = .ok (.iload_n 3, 1) := by decide +kernel
theorem dX12_layRow_22 : decode cX12_layRow 22 = .ok (.iload_n 2, 1) := by decide +kernel
theorem dX12_layRow_23 : decode cX12_layRow 23 = .ok (.irem, 1) := by decide +kernel
theorem dX12_layRow_24 : decode cX12_layRow 24 = .ok (.iastore, 1) := by decide +kernel
theorem dX12_layRow_25 : decode cX12_layRow 25 = .ok (.iload_n 3, 1) := by decide +kernel
theorem dX12_layRow_26 : decode cX12_layRow 26 = .ok (.iload_n 2, 1) := by decide +kernel
theorem dX12_layRow_27 : decode cX12_layRow 27 = .ok (.idiv, 1) := by decide +kernel
theorem dX12_layRow_28 : decode cX12_layRow 28 = .ok (.istore_n 3, 1) := by decide +kernel
theorem dX12_layRow_29 : decode cX12_layRow 29 = .ok (.iinc 4 (-1), 3) := by decide +kernel
theorem dX12_layRow_32 : decode cX12_layRow 32 = .ok (.goto (-22), 3) := by decide +kernel
theorem dX12_layRow_35 : decode cX12_layRow 35 = .ok (.return_, 1) := by decide +kernel
theorem dX12_rowsOf_0 : decode cX12_rowsOf 0 = .ok (.iconst 1, 1) := by decide +kernel
theorem dX12_rowsOf_1 : decode cX12_rowsOf 1 = .ok (.istore_n 2, 1) := by decide +kernel
theorem dX12_rowsOf_2 : decode cX12_rowsOf 2 = .ok (.iconst 0, 1) := by decide +kernel
theorem dX12_rowsOf_3 : decode cX12_rowsOf 3 = .ok (.istore_n 3, 1) := by decide +kernel
theorem dX12_rowsOf_4 : decode cX12_rowsOf 4 = .ok (.iload_n 3, 1) := by decide +kernel
theorem dX12_rowsOf_5 : decode cX12_rowsOf 5 = .ok (.aload_n 0, 1) := by decide +kernel
theorem dX12_rowsOf_6 : decode cX12_rowsOf 6 = .ok (.getfield 230, 3) := by decide +kernel
theorem dX12_rowsOf_9 : decode cX12_rowsOf 9 = .ok (.if_icmp .ge 13, 3) := by decide +kernel
theorem dX12_rowsOf_12 : decode cX12_rowsOf 12 = .ok (.iload_n 2, 1) := by decide +kernel
theorem dX12_rowsOf_13 : decode cX12_rowsOf 13 = .ok (.iload_n 1, 1) := by decide +kernel
theorem dX12_rowsOf_14 : decode cX12_rowsOf 14 = .ok (.imul, 1) := by decide +kernel
theorem dX12_rowsOf_15 : decode cX12_rowsOf 15 = .ok (.istore_n 2, 1) := by decide +kernel
theorem dX12_rowsOf_16 : decode cX12_rowsOf 16 = .ok (.iinc 3 1, 3) := by decide +kernel
theorem dX12_rowsOf_19 : decode cX12_rowsOf 19 = .ok (.goto (-15), 3) := by decide +kernel
theorem dX12_rowsOf_22 : decode cX12_rowsOf 22 = .ok (.iload_n 2, 1) := by decide +kernel
theorem dX12_rowsOf_23 : decode cX12_rowsOf 23 = .ok (.ireturn, 1) := by decide +kernel
theorem dX12_isCalm_0 : decode cX12_isCalm 0 = .ok (.iconst 0, 1) := by decide +kernel
theorem dX12_isCalm_1 : decode cX12_isCalm 1 = .ok (.istore_n 1, 1) := by decide +kernel
theorem dX12_isCalm_2 : decode cX12_isCalm 2 = .ok (.iload_n 1, 1) := by decide +kernel
theorem dX12_isCalm_3 : decode cX12_isCalm 3 = .ok (.aload_n 0, 1) := by decide +kernel
theorem dX12_isCalm_4 : decode cX12_isCalm 4 = .ok (.getfield 230, 3) := by decide +kernel
theorem dX12_isCalm_7 : decode cX12_isCalm 7 = .ok (.if_icmp .ge 59, 3) := by decide +kernel
theorem dX12_isCalm_10 : decode cX12_isCalm 10 = .ok (.iconst 0, 1) := by decide +kernel
theorem dX12_isCalm_11 : decode cX12_isCalm 11 = .ok (.istore_n 2, 1) := by decide +kernel
theorem dX12_isCalm_12 : decode cX12_isCalm 12 = .ok (.iload_n 2, 1) := by decide +kernel
theorem dX12_isCalm_13 : decode cX12_isCalm 13 = .ok (.iload_n 1, 1) := by decide +kernel
theorem dX12_isCalm_14 : decode cX12_isCalm 14 = .ok (.if_icmp .ge 46, 3) := by decide +kernel
theorem dX12_isCalm_17 : decode cX12_isCalm 17 = .ok (.aload_n 0, 1) := by decide +kernel
theorem dX12_isCalm_18 : decode cX12_isCalm 18 = .ok (.getfield 71, 3) := by decide +kernel
theorem dX12_isCalm_21 : decode cX12_isCalm 21 = .ok (.iload_n 1, 1) := by decide +kernel
theorem dX12_isCalm_22 : decode cX12_isCalm 22 = .ok (.iaload, 1) := by decide +kernel
theorem dX12_isCalm_23 : decode cX12_isCalm 23 = .ok (.aload_n 0, 1) := by decide +kernel
theorem dX12_isCalm_24 : decode cX12_isCalm 24 = .ok (.getfield 71, 3) := by decide +kernel
theorem dX12_isCalm_27 : decode cX12_isCalm 27 = .ok (.iload_n 2, 1) := by decide +kernel
theorem dX12_isCalm_28 : decode cX12_isCalm 28 = .ok (.iaload, 1) := by decide +kernel
theorem dX12_isCalm_29 : decode cX12_isCalm 29 = .ok (.if_icmp .ne 25, 3) := by decide +kernel
theorem dX12_isCalm_32 : decode cX12_isCalm 32 = .ok (.aload_n 0, 1) := by decide +kernel
theorem dX12_isCalm_33 : decode cX12_isCalm 33 = .ok (.getfield 71, 3) := by decide +kernel
theorem dX12_isCalm_36 : decode cX12_isCalm 36 = .ok (.iload_n 1, 1) := by decide +kernel
theorem dX12_isCalm_37 : decode cX12_isCalm 37 = .ok (.iaload, 1) := by decide +kernel
theorem dX12_isCalm_38 : decode cX12_isCalm 38 = .ok (.bipush 6, 2) := by decide +kernel
theorem dX12_isCalm_40 : decode cX12_isCalm 40 = .ok (.if_icmp .ge 14, 3) := by decide +kernel
theorem dX12_isCalm_43 : decode cX12_isCalm 43 = .ok (.aload_n 0, 1) := by decide +kernel
theorem dX12_isCalm_44 : decode cX12_isCalm 44 = .ok (.iload_n 1, 1) := by decide +kernel
theorem dX12_isCalm_45 : decode cX12_isCalm 45 = .ok (.iload_n 2, 1) := by decide +kernel
theorem dX12_isCalm_46 : decode cX12_isCalm 46 = .ok (.invokevirtual 275, 3) := by decide +kernel
theorem dX12_isCalm_49 : decode cX12_isCalm 49 = .ok (.ifCond .eq 5, 3) := by decide +kernel
theorem dX12_isCalm_52 : decode cX12_isCalm 52 = .ok (.iconst 0, 1) := by decide +kernel
theorem dX12_isCalm_53 : decode cX12_isCalm 53 = .ok (.ireturn, 1) := by decide +kernel
theorem dX12_isCalm_54 : decode cX12_isCalm 54 = .ok (.iinc 2 1, 3) := by decide +kernel
theorem dX12_isCalm_57 : decode cX12_isCalm 57 = .ok (.goto (-45), 3) := by decide +kernel
theorem dX12_isCalm_60 : decode cX12_isCalm 60 = .ok (.iinc 1 1, 3) := by decide +kernel
theorem dX12_isCalm_63 : decode cX12_isCalm 63 = .ok (.goto (-61), 3) := by decide +kernel
theorem dX12_isCalm_66 : decode cX12_isCalm 66 = .ok (.iconst 1, 1) := by decide +kernel
theorem dX12_isCalm_67 : decode cX12_isCalm 67 = .ok (.ireturn, 1) := by decide +kernel
theorem dX12_tables_0 : decode cX12_tables 0 = .ok (.aload_n 0, 1) := by decide +kernel
theorem dX12_tables_1 : decode cX12_tables 1 = .ok (.iconst 0, 1) := by decide +kernel
theorem dX12_tables_2 : decode cX12_tables 2 = .ok (.putfield 78, 3) := by decide +kernel
theorem dX12_tables_5 : decode cX12_tables 5 = .ok (.aload_n 0, 1) := by decide +kernel
theorem dX12_tables_6 : decode cX12_tables 6 = .ok (.iload_n 1, 1) := by decide +kernel
theorem dX12_tables_7 : decode cX12_tables 7 = .ok (.invokevirtual 257, 3) := by decide +kernel
theorem dX12_tables_10 : decode cX12_tables 10 = .ok (.ifCond .eq 17, 3) := by decide +kernel
theorem dX12_tables_13 : decode cX12_tables 13 = .ok (.iload_n 2, 1) := by decide +kernel
theorem dX12_tables_14 : decode cX12_tables 14 = .ok (.iconst (-1), 1) := by decide +kernel
theorem dX12_tables_15 : decode cX12_tables 15 = .ok (.aload_n 0, 1) := by decide +kernel
theorem dX12_tables_16 : decode cX12_tables 16 = .ok (.getfield 230, 3) := by decide +kernel
theorem dX12_tables_19 : decode cX12_tables 19 = .ok (.iconst 1, 1) := by decide +kernel
theorem dX12_tables_20 : decode cX12_tables 20 = .ok (.isub, 1) := by decide +kernel
theorem dX12_tables_21 : decode cX12_tables 21 = .ok (.invokestatic 90, 3) := by decide +kernel
theorem dX12_tables_24 : decode cX12_tables 24 = .ok (.ifCond .ne 5, 3) := by decide +kernel
theorem dX12_tables_27 : decode cX12_tables 27 = .ok (.iconst (-1), 1) := by decide +kernel
theorem dX12_tables_28 : decode cX12_tables 28 = .ok (.ireturn, 1) := by decide +kernel
theorem dX12_tables_29 : decode cX12_tables 29 = .ok (.iconst 1, 1) := by decide +kernel
theorem dX12_tables_30 : decode cX12_tables 30 = .ok (.istore_n 3, 1) := by decide +kernel
theorem dX12_tables_31 : decode cX12_tables 31 = .ok (.iload_n 3, 1) := by decide +kernel
theorem dX12_tables_32 : decode cX12_tables 32 = .ok (.aload_n 0, 1) := by decide +kernel
theorem dX12_tables_33 : decode cX12_tables 33 = .ok (.getfield 230, 3) := by decide +kernel
theorem dX12_tables_36 : decode cX12_tables 36 = .ok (.if_icmp .gt 58, 3) := by decide +kernel
theorem dX12_tables_39 : decode cX12_tables 39 = .ok (.iconst 0, 1) := by decide +kernel
theorem dX12_tables_40 : decode cX12_tables 40 = .ok (.istore 4, 2) := by decide +kernel
theorem dX12_tables_42 : decode cX12_tables 42 = .ok (.iload 4, 2) := by decide +kernel
theorem dX12_tables_44 : decode cX12_tables 44 = .ok (.aload_n 0, 1) := by decide +kernel
theorem dX12_tables_45 : decode cX12_tables 45 = .ok (.iload_n 3, 1) := by decide +kernel
theorem dX12_tables_46 : decode cX12_tables 46 = .ok (.invokevirtual 476, 3) := by decide +kernel
theorem dX12_tables_49 : decode cX12_tables 49 = .ok (.if_icmp .ge 39, 3) := by decide +kernel
theorem dX12_tables_52 : decode cX12_tables 52 = .ok (.aload_n 0, 1) := by decide +kernel
theorem dX12_tables_53 : decode cX12_tables 53 = .ok (.iload 4, 2) := by decide +kernel
theorem dX12_tables_55 : decode cX12_tables 55 = .ok (.iload_n 3, 1) := by decide +kernel
theorem dX12_tables_56 : decode cX12_tables 56 = .ok (.invokevirtual 479, 3) := by decide +kernel
theorem dX12_tables_59 : decode cX12_tables 59 = .ok (.aload_n 0, 1) := by decide +kernel
theorem dX12_tables_60 : decode cX12_tables 60 = .ok (.invokevirtual 482, 3) := by decide +kernel
theorem dX12_tables_63 : decode cX12_tables 63 = .ok (.ifCond .eq 19, 3) := by decide +kernel
theorem dX12_tables_66 : decode cX12_tables 66 = .ok (.iload_n 2, 1) := by decide +kernel
theorem dX12_tables_67 : decode cX12_tables 67 = .ok (.iconst (-1), 1) := by decide +kernel
theorem dX12_tables_68 : decode cX12_tables 68 = .ok (.if_icmp .ne 7, 3) := by decide +kernel
theorem dX12_tables_71 : decode cX12_tables 71 = .ok (.iload_n 3, 1) := by decide +kernel
theorem dX12_tables_72 : decode cX12_tables 72 = .ok (.goto 9, 3) := by decide +kernel
theorem dX12_tables_75 : decode cX12_tables 75 = .ok (.aload_n 0, 1) := by decide +kernel
theorem dX12_tables_76 : decode cX12_tables 76 = .ok (.getfield 71, 3) := by decide +kernel
theorem dX12_tables_79 : decode cX12_tables 79 = .ok (.iload_n 2, 1) := by decide +kernel
theorem dX12_tables_80 : decode cX12_tables 80 = .ok (.iaload, 1) := by decide +kernel
theorem dX12_tables_81 : decode cX12_tables 81 = .ok (.ireturn, 1) := by decide +kernel
theorem dX12_tables_82 : decode cX12_tables 82 = .ok (.iinc 4 1, 3) := by decide +kernel
theorem dX12_tables_85 : decode cX12_tables 85 = .ok (.goto (-43), 3) := by decide +kernel
theorem dX12_tables_88 : decode cX12_tables 88 = .ok (.iinc 3 1, 3) := by decide +kernel
theorem dX12_tables_91 : decode cX12_tables 91 = .ok (.goto (-60), 3) := by decide +kernel
theorem dX12_tables_94 : decode cX12_tables 94 = .ok (.iconst 0, 1) := by decide +kernel
theorem dX12_tables_95 : decode cX12_tables 95 = .ok (.ireturn, 1) := by decide +kernel
theorem dX12_sittingBy_0 : decode cX12_sittingBy 0 = .ok (.iconst 0, 1) := by decide +kernel
theorem dX12_sittingBy_1 : decode cX12_sittingBy 1 = .ok (.istore_n 1, 1) := by decide +kernel
theorem dX12_sittingBy_2 : decode cX12_sittingBy 2 = .ok (.iconst 0, 1) := by decide +kernel
theorem dX12_sittingBy_3 : decode cX12_sittingBy 3 = .ok (.istore_n 2, 1) := by decide +kernel
theorem dX12_sittingBy_4 : decode cX12_sittingBy 4 = .ok (.iload_n 2, 1) := by decide +kernel
theorem dX12_sittingBy_5 : decode cX12_sittingBy 5 = .ok (.aload_n 0, 1) := by decide +kernel
theorem dX12_sittingBy_6 : decode cX12_sittingBy 6 = .ok (.getfield 230, 3) := by decide +kernel
theorem dX12_sittingBy_9 : decode cX12_sittingBy 9 = .ok (.if_icmp .ge 52, 3) := by decide +kernel
theorem dX12_sittingBy_12 : decode cX12_sittingBy 12 = .ok (.aload_n 0, 1) := by decide +kernel
theorem dX12_sittingBy_13 : decode cX12_sittingBy 13 = .ok (.getfield 71, 3) := by decide +kernel
theorem dX12_sittingBy_16 : decode cX12_sittingBy 16 = .ok (.iload_n 2, 1) := by decide +kernel
theorem dX12_sittingBy_17 : decode cX12_sittingBy 17 = .ok (.iaload, 1) := by decide +kernel
theorem dX12_sittingBy_18 : decode cX12_sittingBy 18 = .ok (.bipush 6, 2) := by decide +kernel
theorem dX12_sittingBy_20 : decode cX12_sittingBy 20 = .ok (.if_icmp .ge 35, 3) := by decide +kernel
theorem dX12_sittingBy_23 : decode cX12_sittingBy 23 = .ok (.aload_n 0, 1) := by decide +kernel
theorem dX12_sittingBy_24 : decode cX12_sittingBy 24 = .ok (.getfield 71, 3) := by decide +kernel
theorem dX12_sittingBy_27 : decode cX12_sittingBy 27 = .ok (.iload_n 2, 1) := by decide +kernel
theorem dX12_sittingBy_28 : decode cX12_sittingBy 28 = .ok (.iaload, 1) := by decide +kernel
theorem dX12_sittingBy_29 : decode cX12_sittingBy 29 = .ok (.aload_n 0, 1) := by decide +kernel
theorem dX12_sittingBy_30 : decode cX12_sittingBy 30 = .ok (.getfield 230, 3) := by decide +kernel
theorem dX12_sittingBy_33 : decode cX12_sittingBy 33 = .ok (.if_icmp .ge 17, 3) := by decide +kernel
theorem dX12_sittingBy_36 : decode cX12_sittingBy 36 = .ok (.aload_n 0, 1) := by decide +kernel
theorem dX12_sittingBy_37 : decode cX12_sittingBy 37 = .ok (.aload_n 0, 1) := by decide +kernel
theorem dX12_sittingBy_38 : decode cX12_sittingBy 38 = .ok (.getfield 71, 3) := by decide +kernel
theorem dX12_sittingBy_41 : decode cX12_sittingBy 41 = .ok (.iload_n 2, 1) := by decide +kernel
theorem dX12_sittingBy_42 : decode cX12_sittingBy 42 = .ok (.iaload, 1) := by decide +kernel
theorem dX12_sittingBy_43 : decode cX12_sittingBy 43 = .ok (.iload_n 2, 1) := by decide +kernel
theorem dX12_sittingBy_44 : decode cX12_sittingBy 44 = .ok (.invokevirtual 254, 3) := by decide +kernel
theorem dX12_sittingBy_47 : decode cX12_sittingBy 47 = .ok (.ifCond .ne 5, 3) := by decide +kernel
theorem dX12_sittingBy_50 : decode cX12_sittingBy 50 = .ok (.iconst (-1), 1) := by decide +kernel
theorem dX12_sittingBy_51 : decode cX12_sittingBy 51 = .ok (.ireturn, 1) := by decide +kernel
theorem dX12_sittingBy_52 : decode cX12_sittingBy 52 = .ok (.iinc 1 1, 3) := by decide +kernel
theorem dX12_sittingBy_55 : decode cX12_sittingBy 55 = .ok (.iinc 2 1, 3) := by decide +kernel
theorem dX12_sittingBy_58 : decode cX12_sittingBy 58 = .ok (.goto (-54), 3) := by decide +kernel
theorem dX12_sittingBy_61 : decode cX12_sittingBy 61 = .ok (.aload_n 0, 1) := by decide +kernel
theorem dX12_sittingBy_62 : decode cX12_sittingBy 62 = .ok (.invokevirtual 482, 3) := by decide +kernel
theorem dX12_sittingBy_65 : decode cX12_sittingBy 65 = .ok (.ifCond .eq 7, 3) := by decide +kernel
theorem dX12_sittingBy_68 : decode cX12_sittingBy 68 = .ok (.iload_n 1, 1) := by decide +kernel
theorem dX12_sittingBy_69 : decode cX12_sittingBy 69 = .ok (.goto 4, 3) := by decide +kernel
theorem dX12_sittingBy_72 : decode cX12_sittingBy 72 = .ok (.iconst (-1), 1) := by decide +kernel
theorem dX12_sittingBy_73 : decode cX12_sittingBy 73 = .ok (.ireturn, 1) := by decide +kernel
theorem dX12_hour_0 : decode cX12_hour 0 = .ok (.aload_n 0, 1) := by decide +kernel
theorem dX12_hour_1 : decode cX12_hour 1 = .ok (.iconst 0, 1) := by decide +kernel
theorem dX12_hour_2 : decode cX12_hour 2 = .ok (.putfield 78, 3) := by decide +kernel
theorem dX12_hour_5 : decode cX12_hour 5 = .ok (.aload_n 0, 1) := by decide +kernel
theorem dX12_hour_6 : decode cX12_hour 6 = .ok (.iload_n 1, 1) := by decide +kernel
theorem dX12_hour_7 : decode cX12_hour 7 = .ok (.invokevirtual 257, 3) := by decide +kernel
theorem dX12_hour_10 : decode cX12_hour 10 = .ok (.ifCond .eq 17, 3) := by decide +kernel
theorem dX12_hour_13 : decode cX12_hour 13 = .ok (.iload_n 2, 1) := by decide +kernel
theorem dX12_hour_14 : decode cX12_hour 14 = .ok (.iconst (-1), 1) := by decide +kernel
theorem dX12_hour_15 : decode cX12_hour 15 = .ok (.aload_n 0, 1) := by decide +kernel
theorem dX12_hour_16 : decode cX12_hour 16 = .ok (.getfield 230, 3) := by decide +kernel
theorem dX12_hour_19 : decode cX12_hour 19 = .ok (.iconst 1, 1) := by decide +kernel
theorem dX12_hour_20 : decode cX12_hour 20 = .ok (.isub, 1) := by decide +kernel
theorem dX12_hour_21 : decode cX12_hour 21 = .ok (.invokestatic 90, 3) := by decide +kernel
theorem dX12_hour_24 : decode cX12_hour 24 = .ok (.ifCond .ne 5, 3) := by decide +kernel
theorem dX12_hour_27 : decode cX12_hour 27 = .ok (.iconst (-1), 1) := by decide +kernel
theorem dX12_hour_28 : decode cX12_hour 28 = .ok (.ireturn, 1) := by decide +kernel
theorem dX12_hour_29 : decode cX12_hour 29 = .ok (.iconst (-1), 1) := by decide +kernel
theorem dX12_hour_30 : decode cX12_hour 30 = .ok (.istore_n 3, 1) := by decide +kernel
theorem dX12_hour_31 : decode cX12_hour 31 = .ok (.iconst 0, 1) := by decide +kernel
theorem dX12_hour_32 : decode cX12_hour 32 = .ok (.istore 4, 2) := by decide +kernel
theorem dX12_hour_34 : decode cX12_hour 34 = .ok (.aload_n 0, 1) := by decide +kernel
theorem dX12_hour_35 : decode cX12_hour 35 = .ok (.bipush 7, 2) := by decide +kernel
theorem dX12_hour_37 : decode cX12_hour 37 = .ok (.invokevirtual 476, 3) := by decide +kernel
theorem dX12_hour_40 : decode cX12_hour 40 = .ok (.istore 5, 2) := by decide +kernel
theorem dX12_hour_42 : decode cX12_hour 42 = .ok (.iconst 0, 1) := by decide +kernel
theorem dX12_hour_43 : decode cX12_hour 43 = .ok (.istore 6, 2) := by decide +kernel
theorem dX12_hour_45 : decode cX12_hour 45 = .ok (.iload 6, 2) := by decide +kernel
theorem dX12_hour_47 : decode cX12_hour 47 = .ok (.iload 5, 2) := by decide +kernel
theorem dX12_hour_49 : decode cX12_hour 49 = .ok (.if_icmp .ge 45, 3) := by decide +kernel
theorem dX12_hour_52 : decode cX12_hour 52 = .ok (.aload_n 0, 1) := by decide +kernel
theorem dX12_hour_53 : decode cX12_hour 53 = .ok (.iload 6, 2) := by decide +kernel
theorem dX12_hour_55 : decode cX12_hour 55 = .ok (.bipush 7, 2) := by decide +kernel
theorem dX12_hour_57 : decode cX12_hour 57 = .ok (.invokevirtual 479, 3) := by decide +kernel
theorem dX12_hour_60 : decode cX12_hour 60 = .ok (.aload_n 0, 1) := by decide +kernel
theorem dX12_hour_61 : decode cX12_hour 61 = .ok (.invokevirtual 485, 3) := by decide +kernel
theorem dX12_hour_64 : decode cX12_hour 64 = .ok (.istore 7, 2) := by decide +kernel
theorem dX12_hour_66 : decode cX12_hour 66 = .ok (.iload 7, 2) := by decide +kernel
theorem dX12_hour_68 : decode cX12_hour 68 = .ok (.iload_n 3, 1) := by decide +kernel
theorem dX12_hour_69 : decode cX12_hour 69 = .ok (.if_icmp .le 8, 3) := by decide +kernel
theorem dX12_hour_72 : decode cX12_hour 72 = .ok (.iload 6, 2) := by decide +kernel
theorem dX12_hour_74 : decode cX12_hour 74 = .ok (.goto 5, 3) := by decide +kernel
theorem dX12_hour_77 : decode cX12_hour 77 = .ok (.iload 4, 2) := by decide +kernel
theorem dX12_hour_79 : decode cX12_hour 79 = .ok (.istore 4, 2) := by decide +kernel
theorem dX12_hour_81 : decode cX12_hour 81 = .ok (.iload_n 3, 1) := by decide +kernel
theorem dX12_hour_82 : decode cX12_hour 82 = .ok (.iload 7, 2) := by decide +kernel
theorem dX12_hour_84 : decode cX12_hour 84 = .ok (.invokestatic 171, 3) := by decide +kernel
theorem dX12_hour_87 : decode cX12_hour 87 = .ok (.istore_n 3, 1) := by decide +kernel
theorem dX12_hour_88 : decode cX12_hour 88 = .ok (.iinc 6 1, 3) := by decide +kernel
theorem dX12_hour_91 : decode cX12_hour 91 = .ok (.goto (-46), 3) := by decide +kernel
theorem dX12_hour_94 : decode cX12_hour 94 = .ok (.aload_n 0, 1) := by decide +kernel
theorem dX12_hour_95 : decode cX12_hour 95 = .ok (.iload 4, 2) := by decide +kernel
theorem dX12_hour_97 : decode cX12_hour 97 = .ok (.bipush 7, 2) := by decide +kernel
theorem dX12_hour_99 : decode cX12_hour 99 = .ok (.invokevirtual 479, 3) := by decide +kernel
theorem dX12_hour_102 : decode cX12_hour 102 = .ok (.iload_n 2, 1) := by decide +kernel
theorem dX12_hour_103 : decode cX12_hour 103 = .ok (.iconst (-1), 1) := by decide +kernel
theorem dX12_hour_104 : decode cX12_hour 104 = .ok (.if_icmp .ne 7, 3) := by decide +kernel
theorem dX12_hour_107 : decode cX12_hour 107 = .ok (.iload_n 3, 1) := by decide +kernel
theorem dX12_hour_108 : decode cX12_hour 108 = .ok (.goto 9, 3) := by decide +kernel
theorem dX12_hour_111 : decode cX12_hour 111 = .ok (.aload_n 0, 1) := by decide +kernel
theorem dX12_hour_112 : decode cX12_hour 112 = .ok (.getfield 71, 3) := by decide +kernel
theorem dX12_hour_115 : decode cX12_hour 115 = .ok (.iload_n 2, 1) := by decide +kernel
theorem dX12_hour_116 : decode cX12_hour 116 = .ok (.iaload, 1) := by decide +kernel
theorem dX12_hour_117 : decode cX12_hour 117 = .ok (.ireturn, 1) := by decide +kernel
theorem dX12_grown_0 : decode cX12_grown 0 = .ok (.aload_n 0, 1) := by decide +kernel
theorem dX12_grown_1 : decode cX12_grown 1 = .ok (.iconst 0, 1) := by decide +kernel
theorem dX12_grown_2 : decode cX12_grown 2 = .ok (.putfield 78, 3) := by decide +kernel
theorem dX12_grown_5 : decode cX12_grown 5 = .ok (.iload_n 1, 1) := by decide +kernel
theorem dX12_grown_6 : decode cX12_grown 6 = .ok (.iconst 0, 1) := by decide +kernel
theorem dX12_grown_7 : decode cX12_grown 7 = .ok (.bipush 99, 2) := by decide +kernel
theorem dX12_grown_9 : decode cX12_grown 9 = .ok (.invokestatic 90, 3) := by decide +kernel
theorem dX12_grown_12 : decode cX12_grown 12 = .ok (.ifCond .eq 23, 3) := by decide +kernel
theorem dX12_grown_15 : decode cX12_grown 15 = .ok (.iload_n 2, 1) := by decide +kernel
theorem dX12_grown_16 : decode cX12_grown 16 = .ok (.iconst 0, 1) := by decide +kernel
theorem dX12_grown_17 : decode cX12_grown 17 = .ok (.bipush 9, 2) := by decide +kernel
theorem dX12_grown_19 : decode cX12_grown 19 = .ok (.invokestatic 90, 3) := by decide +kernel
theorem dX12_grown_22 : decode cX12_grown 22 = .ok (.ifCond .eq 13, 3) := by decide +kernel
theorem dX12_grown_25 : decode cX12_grown 25 = .ok (.iload_n 3, 1) := by decide +kernel
theorem dX12_grown_26 : decode cX12_grown 26 = .ok (.iconst 0, 1) := by decide +kernel
theorem dX12_grown_27 : decode cX12_grown 27 = .ok (.bipush 99, 2) := by decide +kernel
theorem dX12_grown_29 : decode cX12_grown 29 = .ok (.invokestatic 90, 3) := by decide +kernel
theorem dX12_grown_32 : decode cX12_grown 32 = .ok (.ifCond .ne 5, 3) := by decide +kernel
theorem dX12_grown_35 : decode cX12_grown 35 = .ok (.iconst (-1), 1) := by decide +kernel
theorem dX12_grown_36 : decode cX12_grown 36 = .ok (.ireturn, 1) := by decide +kernel
theorem dX12_grown_37 : decode cX12_grown 37 = .ok (.iload_n 1, 1) := by decide +kernel
theorem dX12_grown_38 : decode cX12_grown 38 = .ok (.istore 4, 2) := by decide +kernel
theorem dX12_grown_40 : decode cX12_grown 40 = .ok (.iconst 1, 1) := by decide +kernel
theorem dX12_grown_41 : decode cX12_grown 41 = .ok (.istore 5, 2) := by decide +kernel
theorem dX12_grown_43 : decode cX12_grown 43 = .ok (.iload 5, 2) := by decide +kernel
theorem dX12_grown_45 : decode cX12_grown 45 = .ok (.iload_n 3, 1) := by decide +kernel
theorem dX12_grown_46 : decode cX12_grown 46 = .ok (.if_icmp .gt 48, 3) := by decide +kernel
theorem dX12_grown_49 : decode cX12_grown 49 = .ok (.iconst 0, 1) := by decide +kernel
theorem dX12_grown_50 : decode cX12_grown 50 = .ok (.iload 4, 2) := by decide +kernel
theorem dX12_grown_52 : decode cX12_grown 52 = .ok (.iload_n 2, 1) := by decide +kernel
theorem dX12_grown_53 : decode cX12_grown 53 = .ok (.isub, 1) := by decide +kernel
theorem dX12_grown_54 : decode cX12_grown 54 = .ok (.invokestatic 171, 3) := by decide +kernel
theorem dX12_grown_57 : decode cX12_grown 57 = .ok (.istore 4, 2) := by decide +kernel
theorem dX12_grown_59 : decode cX12_grown 59 = .ok (.iload 5, 2) := by decide +kernel
theorem dX12_grown_61 : decode cX12_grown 61 = .ok (.bipush 10, 2) := by decide +kernel
theorem dX12_grown_63 : decode cX12_grown 63 = .ok (.irem, 1) := by decide +kernel
theorem dX12_grown_64 : decode cX12_grown 64 = .ok (.ifCond .ne 20, 3) := by decide +kernel
theorem dX12_grown_67 : decode cX12_grown 67 = .ok (.iload 4, 2) := by decide +kernel
theorem dX12_grown_69 : decode cX12_grown 69 = .ok (.ifCond .le 15, 3) := by decide +kernel
theorem dX12_grown_72 : decode cX12_grown 72 = .ok (.bipush 99, 2) := by decide +kernel
theorem dX12_grown_74 : decode cX12_grown 74 = .ok (.iload 4, 2) := by decide +kernel
theorem dX12_grown_76 : decode cX12_grown 76 = .ok (.iconst 1, 1) := by decide +kernel
theorem dX12_grown_77 : decode cX12_grown 77 = .ok (.iadd, 1) := by decide +kernel
theorem dX12_grown_78 : decode cX12_grown 78 = .ok (.invokestatic 281, 3) := by decide +kernel
theorem dX12_grown_81 : decode cX12_grown 81 = .ok (.goto 5, 3) := by decide +kernel
theorem dX12_grown_84 : decode cX12_grown 84 = .ok (.iload 4, 2) := by decide +kernel
theorem dX12_grown_86 : decode cX12_grown 86 = .ok (.istore 4, 2) := by decide +kernel
theorem dX12_grown_88 : decode cX12_grown 88 = .ok (.iinc 5 1, 3) := by decide +kernel
theorem dX12_grown_91 : decode cX12_grown 91 = .ok (.goto (-48), 3) := by decide +kernel
theorem dX12_grown_94 : decode cX12_grown 94 = .ok (.iload 4, 2) := by decide +kernel
theorem dX12_grown_96 : decode cX12_grown 96 = .ok (.ireturn, 1) := by decide +kernel
theorem dX12_meet_0 : decode cX12_meet 0 = .ok (.aload_n 0, 1) := by decide +kernel
theorem dX12_meet_1 : decode cX12_meet 1 = .ok (.iconst 0, 1) := by decide +kernel
theorem dX12_meet_2 : decode cX12_meet 2 = .ok (.putfield 78, 3) := by decide +kernel
theorem dX12_meet_5 : decode cX12_meet 5 = .ok (.aload_n 0, 1) := by decide +kernel
theorem dX12_meet_6 : decode cX12_meet 6 = .ok (.iload_n 1, 1) := by decide +kernel
theorem dX12_meet_7 : decode cX12_meet 7 = .ok (.invokevirtual 257, 3) := by decide +kernel
theorem dX12_meet_10 : decode cX12_meet 10 = .ok (.ifCond .eq 11, 3) := by decide +kernel
theorem dX12_meet_13 : decode cX12_meet 13 = .ok (.aload_n 0, 1) := by decide +kernel
theorem dX12_meet_14 : decode cX12_meet 14 = .ok (.getfield 230, 3) := by decide +kernel
theorem dX12_meet_17 : decode cX12_meet 17 = .ok (.iconst 2, 1) := by decide +kernel
theorem dX12_meet_18 : decode cX12_meet 18 = .ok (.if_icmp .ge 7, 3) := by decide +kernel
theorem dX12_meet_21 : decode cX12_meet 21 = .ok (.ldc2_w 371, 3) := by decide +kernel
theorem dX12_meet_24 : decode cX12_meet 24 = .ok (.lreturn, 1) := by decide +kernel
theorem dX12_meet_25 : decode cX12_meet 25 = .ok (.lconst 0, 1) := by decide +kernel
theorem dX12_meet_26 : decode cX12_meet 26 = .ok (.lstore 4, 2) := by decide +kernel
theorem dX12_meet_28 : decode cX12_meet 28 = .ok (.iconst 0, 1) := by decide +kernel
theorem dX12_meet_29 : decode cX12_meet 29 = .ok (.istore 6, 2) := by decide +kernel
theorem dX12_meet_31 : decode cX12_meet 31 = .ok (.iload 6, 2) := by decide +kernel
theorem dX12_meet_33 : decode cX12_meet 33 = .ok (.aload_n 0, 1) := by decide +kernel
theorem dX12_meet_34 : decode cX12_meet 34 = .ok (.getfield 230, 3) := by decide +kernel
theorem dX12_meet_37 : decode cX12_meet 37 = .ok (.if_icmp .ge 84, 3) := by decide +kernel
theorem dX12_meet_40 : decode cX12_meet 40 = .ok (.iconst 0, 1) := by decide +kernel
theorem dX12_meet_41 : decode cX12_meet 41 = .ok (.istore 7, 2) := by decide +kernel
theorem dX12_meet_43 : decode cX12_meet 43 = .ok (.iload 7, 2) := by decide +kernel
theorem dX12_meet_45 : decode cX12_meet 45 = .ok (.iload 6, 2) := by decide +kernel
theorem dX12_meet_47 : decode cX12_meet 47 = .ok (.if_icmp .ge 68, 3) := by decide +kernel
theorem dX12_meet_50 : decode cX12_meet 50 = .ok (.iload_n 2, 1) := by decide +kernel
theorem dX12_meet_51 : decode cX12_meet 51 = .ok (.ifCond .eq 33, 3) := by decide +kernel
theorem dX12_meet_54 : decode cX12_meet 54 = .ok (.aload_n 0, 1) := by decide +kernel
theorem dX12_meet_55 : decode cX12_meet 55 = .ok (.iload 6, 2) := by decide +kernel
theorem dX12_meet_57 : decode cX12_meet 57 = .ok (.iload 7, 2) := by decide +kernel
theorem dX12_meet_59 : decode cX12_meet 59 = .ok (.invokevirtual 254, 3) := by decide +kernel
theorem dX12_meet_62 : decode cX12_meet 62 = .ok (.ifCond .gt 14, 3) := by decide +kernel
theorem dX12_meet_65 : decode cX12_meet 65 = .ok (.aload_n 0, 1) := by decide +kernel
theorem dX12_meet_66 : decode cX12_meet 66 = .ok (.iload 7, 2) := by decide +kernel
theorem dX12_meet_68 : decode cX12_meet 68 = .ok (.iload 6, 2) := by decide +kernel
theorem dX12_meet_70 : decode cX12_meet 70 = .ok (.invokevirtual 254, 3) := by decide +kernel
theorem dX12_meet_73 : decode cX12_meet 73 = .ok (.ifCond .le 7, 3) := by decide +kernel
theorem dX12_meet_76 : decode cX12_meet 76 = .ok (.iconst 1, 1) := by decide +kernel
theorem dX12_meet_77 : decode cX12_meet 77 = .ok (.goto 15, 3) := by decide +kernel
theorem dX12_meet_80 : decode cX12_meet 80 = .ok (.iconst 0, 1) := by decide +kernel
theorem dX12_meet_81 : decode cX12_meet 81 = .ok (.goto 11, 3) := by decide +kernel
theorem dX12_meet_84 : decode cX12_meet 84 = .ok (.aload_n 0, 1) := by decide +kernel
theorem dX12_meet_85 : decode cX12_meet 85 = .ok (.iload 6, 2) := by decide +kernel
theorem dX12_meet_87 : decode cX12_meet 87 = .ok (.iload 7, 2) := by decide +kernel
theorem dX12_meet_89 : decode cX12_meet 89 = .ok (.invokevirtual 275, 3) := by decide +kernel
theorem dX12_meet_92 : decode cX12_meet 92 = .ok (.istore 8, 2) := by decide +kernel
theorem dX12_meet_94 : decode cX12_meet 94 = .ok (.lload 4, 2) := by decide +kernel
theorem dX12_meet_96 : decode cX12_meet 96 = .ok (.iload 8, 2) := by decide +kernel
theorem dX12_meet_98 : decode cX12_meet 98 = .ok (.ifCond .eq 7, 3) := by decide +kernel
theorem dX12_meet_101 : decode cX12_meet 101 = .ok (.lconst 1, 1) := by decide +kernel
theorem dX12_meet_102 : decode cX12_meet 102 = .ok (.goto 4, 3) := by decide +kernel
theorem dX12_meet_105 : decode cX12_meet 105 = .ok (.lconst 0, 1) := by decide +kernel
theorem dX12_meet_106 : decode cX12_meet 106 = .ok (.ladd, 1) := by decide +kernel
theorem dX12_meet_107 : decode cX12_meet 107 = .ok (.lstore 4, 2) := by decide +kernel
theorem dX12_meet_109 : decode cX12_meet 109 = .ok (.iinc 7 1, 3) := by decide +kernel
theorem dX12_meet_112 : decode cX12_meet 112 = .ok (.goto (-69), 3) := by decide +kernel
theorem dX12_meet_115 : decode cX12_meet 115 = .ok (.iinc 6 1, 3) := by decide +kernel
theorem dX12_meet_118 : decode cX12_meet 118 = .ok (.goto (-87), 3) := by decide +kernel
theorem dX12_meet_121 : decode cX12_meet 121 = .ok (.lload 4, 2) := by decide +kernel
theorem dX12_meet_123 : decode cX12_meet 123 = .ok (.aload_n 0, 1) := by decide +kernel
theorem dX12_meet_124 : decode cX12_meet 124 = .ok (.getfield 230, 3) := by decide +kernel
theorem dX12_meet_127 : decode cX12_meet 127 = .ok (.i2l, 1) := by decide +kernel
theorem dX12_meet_128 : decode cX12_meet 128 = .ok (.aload_n 0, 1) := by decide +kernel
theorem dX12_meet_129 : decode cX12_meet 129 = .ok (.getfield 230, 3) := by decide +kernel
theorem dX12_meet_132 : decode cX12_meet 132 = .ok (.iconst 1, 1) := by decide +kernel
theorem dX12_meet_133 : decode cX12_meet 133 = .ok (.isub, 1) := by decide +kernel
theorem dX12_meet_134 : decode cX12_meet 134 = .ok (.i2l, 1) := by decide +kernel
theorem dX12_meet_135 : decode cX12_meet 135 = .ok (.lmul, 1) := by decide +kernel
theorem dX12_meet_136 : decode cX12_meet 136 = .ok (.ldc2_w 488, 3) := by decide +kernel
theorem dX12_meet_139 : decode cX12_meet 139 = .ok (.ldiv, 1) := by decide +kernel
theorem dX12_meet_140 : decode cX12_meet 140 = .ok (.iload_n 3, 1) := by decide +kernel
theorem dX12_meet_141 : decode cX12_meet 141 = .ok (.invokestatic 379, 3) := by decide +kernel
theorem dX12_meet_144 : decode cX12_meet 144 = .ok (.lreturn, 1) := by decide +kernel
theorem dX12_guest_0 : decode cX12_guest 0 = .ok (.aload_n 0, 1) := by decide +kernel
theorem dX12_guest_1 : decode cX12_guest 1 = .ok (.iconst 0, 1) := by decide +kernel
theorem dX12_guest_2 : decode cX12_guest 2 = .ok (.putfield 78, 3) := by decide +kernel
theorem dX12_guest_5 : decode cX12_guest 5 = .ok (.iload_n 2, 1) := by decide +kernel
theorem dX12_guest_6 : decode cX12_guest 6 = .ok (.iconst 0, 1) := by decide +kernel
theorem dX12_guest_7 : decode cX12_guest 7 = .ok (.bipush 99, 2) := by decide +kernel
theorem dX12_guest_9 : decode cX12_guest 9 = .ok (.invokestatic 90, 3) := by decide +kernel
theorem dX12_guest_12 : decode cX12_guest 12 = .ok (.ifCond .eq 18, 3) := by decide +kernel
theorem dX12_guest_15 : decode cX12_guest 15 = .ok (.aload_n 0, 1) := by decide +kernel
theorem dX12_guest_16 : decode cX12_guest 16 = .ok (.iload_n 1, 1) := by decide +kernel
theorem dX12_guest_17 : decode cX12_guest 17 = .ok (.invokevirtual 257, 3) := by decide +kernel
theorem dX12_guest_20 : decode cX12_guest 20 = .ok (.ifCond .eq 10, 3) := by decide +kernel
theorem dX12_guest_23 : decode cX12_guest 23 = .ok (.aload_n 0, 1) := by decide +kernel
theorem dX12_guest_24 : decode cX12_guest 24 = .ok (.getfield 230, 3) := by decide +kernel
theorem dX12_guest_27 : decode cX12_guest 27 = .ok (.ifCond .ne 7, 3) := by decide +kernel
theorem dX12_guest_30 : decode cX12_guest 30 = .ok (.ldc2_w 371, 3) := by decide +kernel
theorem dX12_guest_33 : decode cX12_guest 33 = .ok (.lreturn, 1) := by decide +kernel
theorem dX12_guest_34 : decode cX12_guest 34 = .ok (.lconst 0, 1) := by decide +kernel
theorem dX12_guest_35 : decode cX12_guest 35 = .ok (.lstore 4, 2) := by decide +kernel
theorem dX12_guest_37 : decode cX12_guest 37 = .ok (.iconst 0, 1) := by decide +kernel
theorem dX12_guest_38 : decode cX12_guest 38 = .ok (.istore 6, 2) := by decide +kernel
theorem dX12_guest_40 : decode cX12_guest 40 = .ok (.iload 6, 2) := by decide +kernel
theorem dX12_guest_42 : decode cX12_guest 42 = .ok (.aload_n 0, 1) := by decide +kernel
theorem dX12_guest_43 : decode cX12_guest 43 = .ok (.getfield 230, 3) := by decide +kernel
theorem dX12_guest_46 : decode cX12_guest 46 = .ok (.if_icmp .ge 30, 3) := by decide +kernel
theorem dX12_guest_49 : decode cX12_guest 49 = .ok (.lload 4, 2) := by decide +kernel
theorem dX12_guest_51 : decode cX12_guest 51 = .ok (.aload_n 0, 1) := by decide +kernel
theorem dX12_guest_52 : decode cX12_guest 52 = .ok (.getfield 41, 3) := by decide +kernel
theorem dX12_guest_55 : decode cX12_guest 55 = .ok (.iload 6, 2) := by decide +kernel
theorem dX12_guest_57 : decode cX12_guest 57 = .ok (.iaload, 1) := by decide +kernel
theorem dX12_guest_58 : decode cX12_guest 58 = .ok (.iload_n 2, 1) := by decide +kernel
theorem dX12_guest_59 : decode cX12_guest 59 = .ok (.if_icmp .lt 7, 3) := by decide +kernel
theorem dX12_guest_62 : decode cX12_guest 62 = .ok (.lconst 1, 1) := by decide +kernel
theorem dX12_guest_63 : decode cX12_guest 63 = .ok (.goto 4, 3) := by decide +kernel
theorem dX12_guest_66 : decode cX12_guest 66 = .ok (.lconst 0, 1) := by decide +kernel
theorem dX12_guest_67 : decode cX12_guest 67 = .ok (.ladd, 1) := by decide +kernel
theorem dX12_guest_68 : decode cX12_guest 68 = .ok (.lstore 4, 2) := by decide +kernel
theorem dX12_guest_70 : decode cX12_guest 70 = .ok (.iinc 6 1, 3) := by decide +kernel
theorem dX12_guest_73 : decode cX12_guest 73 = .ok (.goto (-33), 3) := by decide +kernel
theorem dX12_guest_76 : decode cX12_guest 76 = .ok (.lload 4, 2) := by decide +kernel
theorem dX12_guest_78 : decode cX12_guest 78 = .ok (.aload_n 0, 1) := by decide +kernel
theorem dX12_guest_79 : decode cX12_guest 79 = .ok (.getfield 230, 3) := by decide +kernel
theorem dX12_guest_82 : decode cX12_guest 82 = .ok (.i2l, 1) := by decide +kernel
theorem dX12_guest_83 : decode cX12_guest 83 = .ok (.iload_n 3, 1) := by decide +kernel
theorem dX12_guest_84 : decode cX12_guest 84 = .ok (.invokestatic 379, 3) := by decide +kernel
theorem dX12_guest_87 : decode cX12_guest 87 = .ok (.lreturn, 1) := by decide +kernel
theorem dX12_mostOf_0 : decode cX12_mostOf 0 = .ok (.iconst (-1), 1) := by decide +kernel
theorem dX12_mostOf_1 : decode cX12_mostOf 1 = .ok (.istore_n 2, 1) := by decide +kernel
theorem dX12_mostOf_2 : decode cX12_mostOf 2 = .ok (.iconst 0, 1) := by decide +kernel
theorem dX12_mostOf_3 : decode cX12_mostOf 3 = .ok (.istore_n 3, 1) := by decide +kernel
theorem dX12_mostOf_4 : decode cX12_mostOf 4 = .ok (.iconst 0, 1) := by decide +kernel
theorem dX12_mostOf_5 : decode cX12_mostOf 5 = .ok (.istore 4, 2) := by decide +kernel
theorem dX12_mostOf_7 : decode cX12_mostOf 7 = .ok (.iload 4, 2) := by decide +kernel
theorem dX12_mostOf_9 : decode cX12_mostOf 9 = .ok (.aload_n 0, 1) := by decide +kernel
theorem dX12_mostOf_10 : decode cX12_mostOf 10 = .ok (.getfield 230, 3) := by decide +kernel
theorem dX12_mostOf_13 : decode cX12_mostOf 13 = .ok (.if_icmp .ge 52, 3) := by decide +kernel
theorem dX12_mostOf_16 : decode cX12_mostOf 16 = .ok (.iload_n 1, 1) := by decide +kernel
theorem dX12_mostOf_17 : decode cX12_mostOf 17 = .ok (.ifCond .eq 13, 3) := by decide +kernel
theorem dX12_mostOf_20 : decode cX12_mostOf 20 = .ok (.aload_n 0, 1) := by decide +kernel
theorem dX12_mostOf_21 : decode cX12_mostOf 21 = .ok (.getfield 53, 3) := by decide +kernel
theorem dX12_mostOf_24 : decode cX12_mostOf 24 = .ok (.iload 4, 2) := by decide +kernel
theorem dX12_mostOf_26 : decode cX12_mostOf 26 = .ok (.iaload, 1) := by decide +kernel
theorem dX12_mostOf_27 : decode cX12_mostOf 27 = .ok (.goto 10, 3) := by decide +kernel
theorem dX12_mostOf_30 : decode cX12_mostOf 30 = .ok (.aload_n 0, 1) := by decide +kernel
theorem dX12_mostOf_31 : decode cX12_mostOf 31 = .ok (.getfield 50, 3) := by decide +kernel
theorem dX12_mostOf_34 : decode cX12_mostOf 34 = .ok (.iload 4, 2) := by decide +kernel
theorem dX12_mostOf_36 : decode cX12_mostOf 36 = .ok (.iaload, 1) := by decide +kernel
theorem dX12_mostOf_37 : decode cX12_mostOf 37 = .ok (.istore 5, 2) := by decide +kernel
theorem dX12_mostOf_39 : decode cX12_mostOf 39 = .ok (.iload 5, 2) := by decide +kernel
theorem dX12_mostOf_41 : decode cX12_mostOf 41 = .ok (.iload_n 3, 1) := by decide +kernel
theorem dX12_mostOf_42 : decode cX12_mostOf 42 = .ok (.if_icmp .le 8, 3) := by decide +kernel
theorem dX12_mostOf_45 : decode cX12_mostOf 45 = .ok (.iload 4, 2) := by decide +kernel
theorem dX12_mostOf_47 : decode cX12_mostOf 47 = .ok (.goto 4, 3) := by decide +kernel
theorem dX12_mostOf_50 : decode cX12_mostOf 50 = .ok (.iload_n 2, 1) := by decide +kernel
theorem dX12_mostOf_51 : decode cX12_mostOf 51 = .ok (.istore_n 2, 1) := by decide +kernel
theorem dX12_mostOf_52 : decode cX12_mostOf 52 = .ok (.iload_n 3, 1) := by decide +kernel
theorem dX12_mostOf_53 : decode cX12_mostOf 53 = .ok (.iload 5, 2) := by decide +kernel
theorem dX12_mostOf_55 : decode cX12_mostOf 55 = .ok (.invokestatic 171, 3) := by decide +kernel
theorem dX12_mostOf_58 : decode cX12_mostOf 58 = .ok (.istore_n 3, 1) := by decide +kernel
theorem dX12_mostOf_59 : decode cX12_mostOf 59 = .ok (.iinc 4 1, 3) := by decide +kernel
theorem dX12_mostOf_62 : decode cX12_mostOf 62 = .ok (.goto (-55), 3) := by decide +kernel
theorem dX12_mostOf_65 : decode cX12_mostOf 65 = .ok (.iload_n 2, 1) := by decide +kernel
theorem dX12_mostOf_66 : decode cX12_mostOf 66 = .ok (.ireturn, 1) := by decide +kernel
theorem dX12_freeOnes_0 : decode cX12_freeOnes 0 = .ok (.iconst 0, 1) := by decide +kernel
theorem dX12_freeOnes_1 : decode cX12_freeOnes 1 = .ok (.istore_n 1, 1) := by decide +kernel
theorem dX12_freeOnes_2 : decode cX12_freeOnes 2 = .ok (.iconst 0, 1) := by decide +kernel
theorem dX12_freeOnes_3 : decode cX12_freeOnes 3 = .ok (.istore_n 2, 1) := by decide +kernel
theorem dX12_freeOnes_4 : decode cX12_freeOnes 4 = .ok (.iload_n 2, 1) := by decide +kernel
theorem dX12_freeOnes_5 : decode cX12_freeOnes 5 = .ok (.aload_n 0, 1) := by decide +kernel
theorem dX12_freeOnes_6 : decode cX12_freeOnes 6 = .ok (.getfield 230, 3) := by decide +kernel
theorem dX12_freeOnes_9 : decode cX12_freeOnes 9 = .ok (.if_icmp .ge 27, 3) := by decide +kernel
theorem dX12_freeOnes_12 : decode cX12_freeOnes 12 = .ok (.iload_n 1, 1) := by decide +kernel
theorem dX12_freeOnes_13 : decode cX12_freeOnes 13 = .ok (.aload_n 0, 1) := by decide +kernel
theorem dX12_freeOnes_14 : decode cX12_freeOnes 14 = .ok (.iload_n 2, 1) := by decide +kernel
theorem dX12_freeOnes_15 : decode cX12_freeOnes 15 = .ok (.invokevirtual 311, 3) := by decide +kernel
theorem dX12_freeOnes_18 : decode cX12_freeOnes 18 = .ok (.ifCond .ne 9, 3) := by decide +kernel
theorem dX12_freeOnes_21 : decode cX12_freeOnes 21 = .ok (.iconst 1, 1) := by decide +kernel
theorem dX12_freeOnes_22 : decode cX12_freeOnes 22 = .ok (.iload_n 2, 1) := by decide +kernel
theorem dX12_freeOnes_23 : decode cX12_freeOnes 23 = .ok (.ishl, 1) := by decide +kernel
theorem dX12_freeOnes_24 : decode cX12_freeOnes 24 = .ok (.goto 4, 3) := by decide +kernel
theorem dX12_freeOnes_27 : decode cX12_freeOnes 27 = .ok (.iconst 0, 1) := by decide +kernel
theorem dX12_freeOnes_28 : decode cX12_freeOnes 28 = .ok (.ior, 1) := by decide +kernel
theorem dX12_freeOnes_29 : decode cX12_freeOnes 29 = .ok (.istore_n 1, 1) := by decide +kernel
theorem dX12_freeOnes_30 : decode cX12_freeOnes 30 = .ok (.iinc 2 1, 3) := by decide +kernel
theorem dX12_freeOnes_33 : decode cX12_freeOnes 33 = .ok (.goto (-29), 3) := by decide +kernel
theorem dX12_freeOnes_36 : decode cX12_freeOnes 36 = .ok (.iload_n 1, 1) := by decide +kernel
theorem dX12_freeOnes_37 : decode cX12_freeOnes 37 = .ok (.ireturn, 1) := by decide +kernel
theorem dX12_after_0 : decode cX12_after 0 = .ok (.aload_n 0, 1) := by decide +kernel
theorem dX12_after_1 : decode cX12_after 1 = .ok (.iconst 0, 1) := by decide +kernel
theorem dX12_after_2 : decode cX12_after 2 = .ok (.putfield 78, 3) := by decide +kernel
theorem dX12_after_5 : decode cX12_after 5 = .ok (.aload_n 0, 1) := by decide +kernel
theorem dX12_after_6 : decode cX12_after 6 = .ok (.iload_n 1, 1) := by decide +kernel
theorem dX12_after_7 : decode cX12_after 7 = .ok (.iload_n 2, 1) := by decide +kernel
theorem dX12_after_8 : decode cX12_after 8 = .ok (.invokevirtual 305, 3) := by decide +kernel
theorem dX12_after_11 : decode cX12_after 11 = .ok (.ifCond .eq 13, 3) := by decide +kernel
theorem dX12_after_14 : decode cX12_after 14 = .ok (.iload_n 3, 1) := by decide +kernel
theorem dX12_after_15 : decode cX12_after 15 = .ok (.iconst 0, 1) := by decide +kernel
theorem dX12_after_16 : decode cX12_after 16 = .ok (.bipush 7, 2) := by decide +kernel
theorem dX12_after_18 : decode cX12_after 18 = .ok (.invokestatic 90, 3) := by decide +kernel
theorem dX12_after_21 : decode cX12_after 21 = .ok (.ifCond .ne 6, 3) := by decide +kernel
theorem dX12_after_24 : decode cX12_after 24 = .ok (.bipush (-2), 2) := by decide +kernel
theorem dX12_after_26 : decode cX12_after 26 = .ok (.ireturn, 1) := by decide +kernel
theorem dX12_after_27 : decode cX12_after 27 = .ok (.iconst (-1), 1) := by decide +kernel
theorem dX12_after_28 : decode cX12_after 28 = .ok (.istore 4, 2) := by decide +kernel
theorem dX12_after_30 : decode cX12_after 30 = .ok (.iconst 1, 1) := by decide +kernel
theorem dX12_after_31 : decode cX12_after 31 = .ok (.istore 5, 2) := by decide +kernel
theorem dX12_after_33 : decode cX12_after 33 = .ok (.iconst 0, 1) := by decide +kernel
theorem dX12_after_34 : decode cX12_after 34 = .ok (.istore 6, 2) := by decide +kernel
theorem dX12_after_36 : decode cX12_after 36 = .ok (.iload 5, 2) := by decide +kernel
theorem dX12_after_38 : decode cX12_after 38 = .ok (.ifCond .eq 56, 3) := by decide +kernel
theorem dX12_after_41 : decode cX12_after 41 = .ok (.iload 6, 2) := by decide +kernel
theorem dX12_after_43 : decode cX12_after 43 = .ok (.aload_n 0, 1) := by decide +kernel
theorem dX12_after_44 : decode cX12_after 44 = .ok (.invokevirtual 269, 3) := by decide +kernel
theorem dX12_after_47 : decode cX12_after 47 = .ok (.if_icmp .ge 16, 3) := by decide +kernel
theorem dX12_after_50 : decode cX12_after 50 = .ok (.aload_n 0, 1) := by decide +kernel
theorem dX12_after_51 : decode cX12_after 51 = .ok (.iload 6, 2) := by decide +kernel
theorem dX12_after_53 : decode cX12_after 53 = .ok (.invokevirtual 302, 3) := by decide +kernel
theorem dX12_after_56 : decode cX12_after 56 = .ok (.ifCond .eq 7, 3) := by decide +kernel
theorem dX12_after_59 : decode cX12_after 59 = .ok (.iconst 1, 1) := by decide +kernel
theorem dX12_after_60 : decode cX12_after 60 = .ok (.goto 4, 3) := by decide +kernel
theorem dX12_after_63 : decode cX12_after 63 = .ok (.iconst 0, 1) := by decide +kernel
theorem dX12_after_64 : decode cX12_after 64 = .ok (.istore 5, 2) := by decide +kernel
theorem dX12_after_66 : decode cX12_after 66 = .ok (.iload 4, 2) := by decide +kernel
theorem dX12_after_68 : decode cX12_after 68 = .ok (.iconst (-1), 1) := by decide +kernel
theorem dX12_after_69 : decode cX12_after 69 = .ok (.if_icmp .ne 15, 3) := by decide +kernel
theorem dX12_after_72 : decode cX12_after 72 = .ok (.aload_n 0, 1) := by decide +kernel
theorem dX12_after_73 : decode cX12_after 73 = .ok (.getfield 236, 3) := by decide +kernel
theorem dX12_after_76 : decode cX12_after 76 = .ok (.ifCond .le 8, 3) := by decide +kernel
theorem dX12_after_79 : decode cX12_after 79 = .ok (.iload 6, 2) := by decide +kernel
theorem dX12_after_81 : decode cX12_after 81 = .ok (.goto 5, 3) := by decide +kernel
theorem dX12_after_84 : decode cX12_after 84 = .ok (.iload 4, 2) := by decide +kernel
theorem dX12_after_86 : decode cX12_after 86 = .ok (.istore 4, 2) := by decide +kernel
theorem dX12_after_88 : decode cX12_after 88 = .ok (.iinc 6 1, 3) := by decide +kernel
theorem dX12_after_91 : decode cX12_after 91 = .ok (.goto (-55), 3) := by decide +kernel
theorem dX12_after_94 : decode cX12_after 94 = .ok (.iload_n 3, 1) := by decide +kernel
theorem dX12_after_95 : decode cX12_after 95 = .ok (.tableswitch 79 0 6 #[41, 44, 44, 59, 64, 69, 74], 41) := by decide +kernel
theorem dX12_after_136 : decode cX12_after 136 = .ok (.iload 4, 2) := by decide +kernel
theorem dX12_after_138 : decode cX12_after 138 = .ok (.ireturn, 1) := by decide +kernel
theorem dX12_after_139 : decode cX12_after 139 = .ok (.aload_n 0, 1) := by decide +kernel
theorem dX12_after_140 : decode cX12_after 140 = .ok (.iload_n 3, 1) := by decide +kernel
theorem dX12_after_141 : decode cX12_after 141 = .ok (.iconst 2, 1) := by decide +kernel
theorem dX12_after_142 : decode cX12_after 142 = .ok (.if_icmp .ne 7, 3) := by decide +kernel
theorem dX12_after_145 : decode cX12_after 145 = .ok (.iconst 1, 1) := by decide +kernel
theorem dX12_after_146 : decode cX12_after 146 = .ok (.goto 4, 3) := by decide +kernel
theorem dX12_after_149 : decode cX12_after 149 = .ok (.iconst 0, 1) := by decide +kernel
theorem dX12_after_150 : decode cX12_after 150 = .ok (.invokevirtual 490, 3) := by decide +kernel
theorem dX12_after_153 : decode cX12_after 153 = .ok (.ireturn, 1) := by decide +kernel
theorem dX12_after_154 : decode cX12_after 154 = .ok (.aload_n 0, 1) := by decide +kernel
theorem dX12_after_155 : decode cX12_after 155 = .ok (.getfield 242, 3) := by decide +kernel
theorem dX12_after_158 : decode cX12_after 158 = .ok (.ireturn, 1) := by decide +kernel
theorem dX12_after_159 : decode cX12_after 159 = .ok (.aload_n 0, 1) := by decide +kernel
theorem dX12_after_160 : decode cX12_after 160 = .ok (.getfield 245, 3) := by decide +kernel
theorem dX12_after_163 : decode cX12_after 163 = .ok (.ireturn, 1) := by decide +kernel
theorem dX12_after_164 : decode cX12_after 164 = .ok (.aload_n 0, 1) := by decide +kernel
theorem dX12_after_165 : decode cX12_after 165 = .ok (.getfield 248, 3) := by decide +kernel
theorem dX12_after_168 : decode cX12_after 168 = .ok (.ireturn, 1) := by decide +kernel
theorem dX12_after_169 : decode cX12_after 169 = .ok (.aload_n 0, 1) := by decide +kernel
theorem dX12_after_170 : decode cX12_after 170 = .ok (.getfield 251, 3) := by decide +kernel
theorem dX12_after_173 : decode cX12_after 173 = .ok (.ireturn, 1) := by decide +kernel
theorem dX12_after_174 : decode cX12_after 174 = .ok (.aload_n 0, 1) := by decide +kernel
theorem dX12_after_175 : decode cX12_after 175 = .ok (.invokevirtual 493, 3) := by decide +kernel
theorem dX12_after_178 : decode cX12_after 178 = .ok (.ireturn, 1) := by decide +kernel
theorem dX12_share_0 : decode cX12_share 0 = .ok (.aload_n 0, 1) := by decide +kernel
theorem dX12_share_1 : decode cX12_share 1 = .ok (.iconst 0, 1) := by decide +kernel
theorem dX12_share_2 : decode cX12_share 2 = .ok (.putfield 78, 3) := by decide +kernel
theorem dX12_share_5 : decode cX12_share 5 = .ok (.aload_n 0, 1) := by decide +kernel
theorem dX12_share_6 : decode cX12_share 6 = .ok (.iload_n 1, 1) := by decide +kernel
theorem dX12_share_7 : decode cX12_share 7 = .ok (.iload_n 2, 1) := by decide +kernel
theorem dX12_share_8 : decode cX12_share 8 = .ok (.invokevirtual 411, 3) := by decide +kernel
theorem dX12_share_11 : decode cX12_share 11 = .ok (.ifCond .eq 33, 3) := by decide +kernel
theorem dX12_share_14 : decode cX12_share 14 = .ok (.aload_n 0, 1) := by decide +kernel
theorem dX12_share_15 : decode cX12_share 15 = .ok (.iload_n 3, 1) := by decide +kernel
theorem dX12_share_16 : decode cX12_share 16 = .ok (.invokevirtual 260, 3) := by decide +kernel
theorem dX12_share_19 : decode cX12_share 19 = .ok (.ifCond .eq 25, 3) := by decide +kernel
theorem dX12_share_22 : decode cX12_share 22 = .ok (.aload_n 0, 1) := by decide +kernel
theorem dX12_share_23 : decode cX12_share 23 = .ok (.iload 4, 2) := by decide +kernel
theorem dX12_share_25 : decode cX12_share 25 = .ok (.invokevirtual 260, 3) := by decide +kernel
theorem dX12_share_28 : decode cX12_share 28 = .ok (.ifCond .eq 16, 3) := by decide +kernel
theorem dX12_share_31 : decode cX12_share 31 = .ok (.iload_n 3, 1) := by decide +kernel
theorem dX12_share_32 : decode cX12_share 32 = .ok (.iload 4, 2) := by decide +kernel
theorem dX12_share_34 : decode cX12_share 34 = .ok (.if_icmp .eq 10, 3) := by decide +kernel
theorem dX12_share_37 : decode cX12_share 37 = .ok (.aload_n 0, 1) := by decide +kernel
theorem dX12_share_38 : decode cX12_share 38 = .ok (.getfield 398, 3) := by decide +kernel
theorem dX12_share_41 : decode cX12_share 41 = .ok (.ifCond .ne 7, 3) := by decide +kernel
theorem dX12_share_44 : decode cX12_share 44 = .ok (.ldc2_w 371, 3) := by decide +kernel
theorem dX12_share_47 : decode cX12_share 47 = .ok (.lreturn, 1) := by decide +kernel
theorem dX12_share_48 : decode cX12_share 48 = .ok (.aload_n 0, 1) := by decide +kernel
theorem dX12_share_49 : decode cX12_share 49 = .ok (.iload_n 3, 1) := by decide +kernel
theorem dX12_share_50 : decode cX12_share 50 = .ok (.iload 4, 2) := by decide +kernel
theorem dX12_share_52 : decode cX12_share 52 = .ok (.invokevirtual 408, 3) := by decide +kernel
theorem dX12_share_55 : decode cX12_share 55 = .ok (.i2l, 1) := by decide +kernel
theorem dX12_share_56 : decode cX12_share 56 = .ok (.aload_n 0, 1) := by decide +kernel
theorem dX12_share_57 : decode cX12_share 57 = .ok (.getfield 398, 3) := by decide +kernel
theorem dX12_share_60 : decode cX12_share 60 = .ok (.i2l, 1) := by decide +kernel
theorem dX12_share_61 : decode cX12_share 61 = .ok (.iload 5, 2) := by decide +kernel
theorem dX12_share_63 : decode cX12_share 63 = .ok (.invokestatic 379, 3) := by decide +kernel
theorem dX12_share_66 : decode cX12_share 66 = .ok (.lreturn, 1) := by decide +kernel
theorem dX12_fewest_0 : decode cX12_fewest 0 = .ok (.aload_n 0, 1) := by decide +kernel
theorem dX12_fewest_1 : decode cX12_fewest 1 = .ok (.iconst 0, 1) := by decide +kernel
theorem dX12_fewest_2 : decode cX12_fewest 2 = .ok (.putfield 78, 3) := by decide +kernel
theorem dX12_fewest_5 : decode cX12_fewest 5 = .ok (.aload_n 0, 1) := by decide +kernel
theorem dX12_fewest_6 : decode cX12_fewest 6 = .ok (.iload_n 1, 1) := by decide +kernel
theorem dX12_fewest_7 : decode cX12_fewest 7 = .ok (.iload_n 2, 1) := by decide +kernel
theorem dX12_fewest_8 : decode cX12_fewest 8 = .ok (.invokevirtual 411, 3) := by decide +kernel
theorem dX12_fewest_11 : decode cX12_fewest 11 = .ok (.ifCond .eq 10, 3) := by decide +kernel
theorem dX12_fewest_14 : decode cX12_fewest 14 = .ok (.aload_n 0, 1) := by decide +kernel
theorem dX12_fewest_15 : decode cX12_fewest 15 = .ok (.getfield 398, 3) := by decide +kernel
theorem dX12_fewest_18 : decode cX12_fewest 18 = .ok (.ifCond .ne 5, 3) := by decide +kernel
theorem dX12_fewest_21 : decode cX12_fewest 21 = .ok (.iconst (-1), 1) := by decide +kernel
theorem dX12_fewest_22 : decode cX12_fewest 22 = .ok (.ireturn, 1) := by decide +kernel
theorem dX12_fewest_23 : decode cX12_fewest 23 = .ok (.aload_n 0, 1) := by decide +kernel
theorem dX12_fewest_24 : decode cX12_fewest 24 = .ok (.getfield 68, 3) := by decide +kernel
theorem dX12_fewest_27 : decode cX12_fewest 27 = .ok (.iconst 0, 1) := by decide +kernel
theorem dX12_fewest_28 : decode cX12_fewest 28 = .ok (.iaload, 1) := by decide +kernel
theorem dX12_fewest_29 : decode cX12_fewest 29 = .ok (.bipush 100, 2) := by decide +kernel
theorem dX12_fewest_31 : decode cX12_fewest 31 = .ok (.irem, 1) := by decide +kernel
theorem dX12_fewest_32 : decode cX12_fewest 32 = .ok (.invokestatic 358, 3) := by decide +kernel
theorem dX12_fewest_35 : decode cX12_fewest 35 = .ok (.istore 4, 2) := by decide +kernel
theorem dX12_fewest_37 : decode cX12_fewest 37 = .ok (.iconst 0, 1) := by decide +kernel
theorem dX12_fewest_38 : decode cX12_fewest 38 = .ok (.istore 5, 2) := by decide +kernel
theorem dX12_fewest_40 : decode cX12_fewest 40 = .ok (.iload 5, 2) := by decide +kernel
theorem dX12_fewest_42 : decode cX12_fewest 42 = .ok (.aload_n 0, 1) := by decide +kernel
theorem dX12_fewest_43 : decode cX12_fewest 43 = .ok (.getfield 398, 3) := by decide +kernel
theorem dX12_fewest_46 : decode cX12_fewest 46 = .ok (.if_icmp .ge 47, 3) := by decide +kernel
theorem dX12_fewest_49 : decode cX12_fewest 49 = .ok (.aload_n 0, 1) := by decide +kernel
theorem dX12_fewest_50 : decode cX12_fewest 50 = .ok (.getfield 68, 3) := by decide +kernel
theorem dX12_fewest_53 : decode cX12_fewest 53 = .ok (.iload 5, 2) := by decide +kernel
theorem dX12_fewest_55 : decode cX12_fewest 55 = .ok (.iaload, 1) := by decide +kernel
theorem dX12_fewest_56 : decode cX12_fewest 56 = .ok (.bipush 100, 2) := by decide +kernel
theorem dX12_fewest_58 : decode cX12_fewest 58 = .ok (.irem, 1) := by decide +kernel
theorem dX12_fewest_59 : decode cX12_fewest 59 = .ok (.invokestatic 358, 3) := by decide +kernel
theorem dX12_fewest_62 : decode cX12_fewest 62 = .ok (.istore 6, 2) := by decide +kernel
theorem dX12_fewest_64 : decode cX12_fewest 64 = .ok (.iload_n 3, 1) := by decide +kernel
theorem dX12_fewest_65 : decode cX12_fewest 65 = .ok (.ifCond .eq 13, 3) := by decide +kernel
theorem dX12_fewest_68 : decode cX12_fewest 68 = .ok (.iload 4, 2) := by decide +kernel
theorem dX12_fewest_70 : decode cX12_fewest 70 = .ok (.iload 6, 2) := by decide +kernel
theorem dX12_fewest_72 : decode cX12_fewest 72 = .ok (.invokestatic 171, 3) := by decide +kernel
theorem dX12_fewest_75 : decode cX12_fewest 75 = .ok (.goto 10, 3) := by decide +kernel
theorem dX12_fewest_78 : decode cX12_fewest 78 = .ok (.iload 4, 2) := by decide +kernel
theorem dX12_fewest_80 : decode cX12_fewest 80 = .ok (.iload 6, 2) := by decide +kernel
theorem dX12_fewest_82 : decode cX12_fewest 82 = .ok (.invokestatic 281, 3) := by decide +kernel
theorem dX12_fewest_85 : decode cX12_fewest 85 = .ok (.istore 4, 2) := by decide +kernel
theorem dX12_fewest_87 : decode cX12_fewest 87 = .ok (.iinc 5 1, 3) := by decide +kernel
theorem dX12_fewest_90 : decode cX12_fewest 90 = .ok (.goto (-50), 3) := by decide +kernel
theorem dX12_fewest_93 : decode cX12_fewest 93 = .ok (.iload 4, 2) := by decide +kernel
theorem dX12_fewest_95 : decode cX12_fewest 95 = .ok (.ireturn, 1) := by decide +kernel
theorem dX12_count_0 : decode cX12_count 0 = .ok (.aload_n 0, 1) := by decide +kernel
theorem dX12_count_1 : decode cX12_count 1 = .ok (.iconst 0, 1) := by decide +kernel
theorem dX12_count_2 : decode cX12_count 2 = .ok (.putfield 78, 3) := by decide +kernel
theorem dX12_count_5 : decode cX12_count 5 = .ok (.iload_n 1, 1) := by decide +kernel
theorem dX12_count_6 : decode cX12_count 6 = .ok (.iconst 0, 1) := by decide +kernel
theorem dX12_count_7 : decode cX12_count 7 = .ok (.iconst 2, 1) := by decide +kernel
theorem dX12_count_8 : decode cX12_count 8 = .ok (.invokestatic 90, 3) := by decide +kernel
theorem dX12_count_11 : decode cX12_count 11 = .ok (.ifCond .eq 12, 3) := by decide +kernel
theorem dX12_count_14 : decode cX12_count 14 = .ok (.aload_n 0, 1) := by decide +kernel
theorem dX12_count_15 : decode cX12_count 15 = .ok (.getfield 23, 3) := by decide +kernel
theorem dX12_count_18 : decode cX12_count 18 = .ok (.iload_n 1, 1) := by decide +kernel
theorem dX12_count_19 : decode cX12_count 19 = .ok (.iaload, 1) := by decide +kernel
theorem dX12_count_20 : decode cX12_count 20 = .ok (.goto 5, 3) := by decide +kernel
theorem dX12_count_23 : decode cX12_count 23 = .ok (.bipush (-2), 2) := by decide +kernel
theorem dX12_count_25 : decode cX12_count 25 = .ok (.ireturn, 1) := by decide +kernel
theorem dX12_image_0 : decode cX12_image 0 = .ok (.aload_n 0, 1) := by decide +kernel
theorem dX12_image_1 : decode cX12_image 1 = .ok (.iconst 0, 1) := by decide +kernel
theorem dX12_image_2 : decode cX12_image 2 = .ok (.putfield 78, 3) := by decide +kernel
theorem dX12_image_5 : decode cX12_image 5 = .ok (.iload_n 1, 1) := by decide +kernel
theorem dX12_image_6 : decode cX12_image 6 = .ok (.iconst 0, 1) := by decide +kernel
theorem dX12_image_7 : decode cX12_image 7 = .ok (.iconst 2, 1) := by decide +kernel
theorem dX12_image_8 : decode cX12_image 8 = .ok (.invokestatic 90, 3) := by decide +kernel
theorem dX12_image_11 : decode cX12_image 11 = .ok (.ifCond .ne 5, 3) := by decide +kernel
theorem dX12_image_14 : decode cX12_image 14 = .ok (.iconst 0, 1) := by decide +kernel
theorem dX12_image_15 : decode cX12_image 15 = .ok (.ireturn, 1) := by decide +kernel
theorem dX12_image_16 : decode cX12_image 16 = .ok (.aload_n 0, 1) := by decide +kernel
theorem dX12_image_17 : decode cX12_image 17 = .ok (.iconst 0, 1) := by decide +kernel
theorem dX12_image_18 : decode cX12_image 18 = .ok (.iload_n 1, 1) := by decide +kernel
theorem dX12_image_19 : decode cX12_image 19 = .ok (.iconst 1, 1) := by decide +kernel
theorem dX12_image_20 : decode cX12_image 20 = .ok (.iadd, 1) := by decide +kernel
theorem dX12_image_21 : decode cX12_image 21 = .ok (.invokevirtual 496, 3) := by decide +kernel
theorem dX12_image_24 : decode cX12_image 24 = .ok (.aload_n 0, 1) := by decide +kernel
theorem dX12_image_25 : decode cX12_image 25 = .ok (.getfield 74, 3) := by decide +kernel
theorem dX12_image_28 : decode cX12_image 28 = .ok (.iload_n 1, 1) := by decide +kernel
theorem dX12_image_29 : decode cX12_image 29 = .ok (.iconst 1, 1) := by decide +kernel
theorem dX12_image_30 : decode cX12_image 30 = .ok (.bastore, 1) := by decide +kernel
theorem dX12_image_31 : decode cX12_image 31 = .ok (.iconst 1, 1) := by decide +kernel
theorem dX12_image_32 : decode cX12_image 32 = .ok (.ireturn, 1) := by decide +kernel
theorem dX12_again_0 : decode cX12_again 0 = .ok (.aload_n 0, 1) := by decide +kernel
theorem dX12_again_1 : decode cX12_again 1 = .ok (.iconst 0, 1) := by decide +kernel
theorem dX12_again_2 : decode cX12_again 2 = .ok (.putfield 78, 3) := by decide +kernel
theorem dX12_again_5 : decode cX12_again 5 = .ok (.iload_n 1, 1) := by decide +kernel
theorem dX12_again_6 : decode cX12_again 6 = .ok (.iconst 0, 1) := by decide +kernel
theorem dX12_again_7 : decode cX12_again 7 = .ok (.iconst 2, 1) := by decide +kernel
theorem dX12_again_8 : decode cX12_again 8 = .ok (.invokestatic 90, 3) := by decide +kernel
theorem dX12_again_11 : decode cX12_again 11 = .ok (.ifCond .eq 12, 3) := by decide +kernel
theorem dX12_again_14 : decode cX12_again 14 = .ok (.aload_n 0, 1) := by decide +kernel
theorem dX12_again_15 : decode cX12_again 15 = .ok (.getfield 74, 3) := by decide +kernel
theorem dX12_again_18 : decode cX12_again 18 = .ok (.iload_n 1, 1) := by decide +kernel
theorem dX12_again_19 : decode cX12_again 19 = .ok (.baload, 1) := by decide +kernel
theorem dX12_again_20 : decode cX12_again 20 = .ok (.ifCond .ne 5, 3) := by decide +kernel
theorem dX12_again_23 : decode cX12_again 23 = .ok (.iconst 0, 1) := by decide +kernel
theorem dX12_again_24 : decode cX12_again 24 = .ok (.ireturn, 1) := by decide +kernel
theorem dX12_again_25 : decode cX12_again 25 = .ok (.aload_n 0, 1) := by decide +kernel
theorem dX12_again_26 : decode cX12_again 26 = .ok (.iload_n 1, 1) := by decide +kernel
theorem dX12_again_27 : decode cX12_again 27 = .ok (.iconst 1, 1) := by decide +kernel
theorem dX12_again_28 : decode cX12_again 28 = .ok (.iadd, 1) := by decide +kernel
theorem dX12_again_29 : decode cX12_again 29 = .ok (.iconst 0, 1) := by decide +kernel
theorem dX12_again_30 : decode cX12_again 30 = .ok (.invokevirtual 496, 3) := by decide +kernel
theorem dX12_again_33 : decode cX12_again 33 = .ok (.iconst 1, 1) := by decide +kernel
theorem dX12_again_34 : decode cX12_again 34 = .ok (.ireturn, 1) := by decide +kernel
