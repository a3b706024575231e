theorem dX9_init_0 : decode cX9_init 0 = .ok (.aload_n 0, 1) := by decide +kernel
theorem dX9_init_1 : decode cX9_init 1 = .ok (.invokespecial 3, 3) := by decide +kernel
theorem dX9_init_4 : decode cX9_init 4 = .ok (.aload_n 0, 1) := by decide +kernel
theorem dX9_init_5 : decode cX9_init 5 = .ok (.iconst 0, 1) := by decide +kernel
theorem dX9_init_6 : decode cX9_init 6 = .ok (.putfield 9, 3) := by decide +kernel
theorem dX9_init_9 : decode cX9_init 9 = .ok (.aload_n 0, 1) := by decide +kernel
theorem dX9_init_10 : decode cX9_init 10 = .ok (.bipush 6, 2) := by decide +kernel
theorem dX9_init_12 : decode cX9_init 12 = .ok (.newarray .int, 2) := by decide +kernel
theorem dX9_init_14 : decode cX9_init 14 = .ok (.putfield 15, 3) := by decide +kernel
theorem dX9_init_17 : decode cX9_init 17 = .ok (.aload_n 0, 1) := by decide +kernel
theorem dX9_init_18 : decode cX9_init 18 = .ok (.bipush 6, 2) := by decide +kernel
theorem dX9_init_20 : decode cX9_init 20 = .ok (.newarray .int, 2) := by decide +kernel
theorem dX9_init_22 : decode cX9_init 22 = .ok (.putfield 19, 3) := by decide +kernel
theorem dX9_init_25 : decode cX9_init 25 = .ok (.aload_n 0, 1) := by decide +kernel
theorem dX9_init_26 : decode cX9_init 26 = .ok (.bipush 6, 2) := by decide +kernel
theorem dX9_init_28 : decode cX9_init 28 = .ok (.newarray .int, 2) := by decide +kernel
theorem dX9_init_30 : decode cX9_init 30 = .ok (.putfield 22, 3) := by decide +kernel
theorem dX9_init_33 : decode cX9_init 33 = .ok (.aload_n 0, 1) := by decide +kernel
theorem dX9_init_34 : decode cX9_init 34 = .ok (.bipush 36, 2) := by decide +kernel
theorem dX9_init_36 : decode cX9_init 36 = .ok (.newarray .int, 2) := by decide +kernel
theorem dX9_init_38 : decode cX9_init 38 = .ok (.putfield 25, 3) := by decide +kernel
theorem dX9_init_41 : decode cX9_init 41 = .ok (.return_, 1) := by decide +kernel
theorem dX9_clear_0 : decode cX9_clear 0 = .ok (.aload_n 0, 1) := by decide +kernel
theorem dX9_clear_1 : decode cX9_clear 1 = .ok (.iconst 0, 1) := by decide +kernel
theorem dX9_clear_2 : decode cX9_clear 2 = .ok (.putfield 9, 3) := by decide +kernel
theorem dX9_clear_5 : decode cX9_clear 5 = .ok (.aload_n 0, 1) := by decide +kernel
theorem dX9_clear_6 : decode cX9_clear 6 = .ok (.getfield 22, 3) := by decide +kernel
theorem dX9_clear_9 : decode cX9_clear 9 = .ok (.iconst 0, 1) := by decide +kernel
theorem dX9_clear_10 : decode cX9_clear 10 = .ok (.invokestatic 28, 3) := by decide +kernel
theorem dX9_clear_13 : decode cX9_clear 13 = .ok (.aload_n 0, 1) := by decide +kernel
theorem dX9_clear_14 : decode cX9_clear 14 = .ok (.getfield 25, 3) := by decide +kernel
theorem dX9_clear_17 : decode cX9_clear 17 = .ok (.iconst 0, 1) := by decide +kernel
theorem dX9_clear_18 : decode cX9_clear 18 = .ok (.invokestatic 28, 3) := by decide +kernel
theorem dX9_clear_21 : decode cX9_clear 21 = .ok (.return_, 1) := by decide +kernel
theorem dX9_copy_0 : decode cX9_copy 0 = .ok (.aload_n 0, 1) := by decide +kernel
theorem dX9_copy_1 : decode cX9_copy 1 = .ok (.aload_n 1, 1) := by decide +kernel
theorem dX9_copy_2 : decode cX9_copy 2 = .ok (.getfield 9, 3) := by decide +kernel
theorem dX9_copy_5 : decode cX9_copy 5 = .ok (.putfield 9, 3) := by decide +kernel
theorem dX9_copy_8 : decode cX9_copy 8 = .ok (.aload_n 1, 1) := by decide +kernel
theorem dX9_copy_9 : decode cX9_copy 9 = .ok (.getfield 15, 3) := by decide +kernel
theorem dX9_copy_12 : decode cX9_copy 12 = .ok (.iconst 0, 1) := by decide +kernel
theorem dX9_copy_13 : decode cX9_copy 13 = .ok (.aload_n 0, 1) := by decide +kernel
theorem dX9_copy_14 : decode cX9_copy 14 = .ok (.getfield 15, 3) := by decide +kernel
theorem dX9_copy_17 : decode cX9_copy 17 = .ok (.iconst 0, 1) := by decide +kernel
theorem dX9_copy_18 : decode cX9_copy 18 = .ok (.bipush 6, 2) := by decide +kernel
theorem dX9_copy_20 : decode cX9_copy 20 = .ok (.invokestatic 34, 3) := by decide +kernel
theorem dX9_copy_23 : decode cX9_copy 23 = .ok (.aload_n 1, 1) := by decide +kernel
theorem dX9_copy_24 : decode cX9_copy 24 = .ok (.getfield 19, 3) := by decide +kernel
theorem dX9_copy_27 : decode cX9_copy 27 = .ok (.iconst 0, 1) := by decide +kernel
theorem dX9_copy_28 : decode cX9_copy 28 = .ok (.aload_n 0, 1) := by decide +kernel
theorem dX9_copy_29 : decode cX9_copy 29 = .ok (.getfield 19, 3) := by decide +kernel
theorem dX9_copy_32 : decode cX9_copy 32 = .ok (.iconst 0, 1) := by decide +kernel
theorem dX9_copy_33 : decode cX9_copy 33 = .ok (.bipush 6, 2) := by decide +kernel
theorem dX9_copy_35 : decode cX9_copy 35 = .ok (.invokestatic 34, 3) := by decide +kernel
theorem dX9_copy_38 : decode cX9_copy 38 = .ok (.aload_n 1, 1) := by decide +kernel
theorem dX9_copy_39 : decode cX9_copy 39 = .ok (.getfield 22, 3) := by decide +kernel
theorem dX9_copy_42 : decode cX9_copy 42 = .ok (.iconst 0, 1) := by decide +kernel
theorem dX9_copy_43 : decode cX9_copy 43 = .ok (.aload_n 0, 1) := by decide +kernel
theorem dX9_copy_44 : decode cX9_copy 44 = .ok (.getfield 22, 3) := by decide +kernel
theorem dX9_copy_47 : decode cX9_copy 47 = .ok (.iconst 0, 1) := by decide +kernel
theorem dX9_copy_48 : decode cX9_copy 48 = .ok (.bipush 6, 2) := by decide +kernel
theorem dX9_copy_50 : decode cX9_copy 50 = .ok (.invokestatic 34, 3) := by decide +kernel
theorem dX9_copy_53 : decode cX9_copy 53 = .ok (.aload_n 1, 1) := by decide +kernel
theorem dX9_copy_54 : decode cX9_copy 54 = .ok (.getfield 25, 3) := by decide +kernel
theorem dX9_copy_57 : decode cX9_copy 57 = .ok (.iconst 0, 1) := by decide +kernel
theorem dX9_copy_58 : decode cX9_copy 58 = .ok (.aload_n 0, 1) := by decide +kernel
theorem dX9_copy_59 : decode cX9_copy 59 = .ok (.getfield 25, 3) := by decide +kernel
theorem dX9_copy_62 : decode cX9_copy 62 = .ok (.iconst 0, 1) := by decide +kernel
theorem dX9_copy_63 : decode cX9_copy 63 = .ok (.bipush 36, 2) := by decide +kernel
theorem dX9_copy_65 : decode cX9_copy 65 = .ok (.invokestatic 34, 3) := by decide +kernel
theorem dX9_copy_68 : decode cX9_copy 68 = .ok (.return_, 1) := by decide +kernel
theorem dX9_has_0 : decode cX9_has 0 = .ok (.iload_n 1, 1) := by decide +kernel
theorem dX9_has_1 : decode cX9_has 1 = .ok (.ifCond .lt 15, 3) := by decide +kernel
theorem dX9_has_4 : decode cX9_has 4 = .ok (.iload_n 1, 1) := by decide +kernel
theorem dX9_has_5 : decode cX9_has 5 = .ok (.aload_n 0, 1) := by decide +kernel
theorem dX9_has_6 : decode cX9_has 6 = .ok (.getfield 9, 3) := by decide +kernel
theorem dX9_has_9 : decode cX9_has 9 = .ok (.if_icmp .ge 7, 3) := by decide +kernel
theorem dX9_has_12 : decode cX9_has 12 = .ok (.iconst 1, 1) := by decide +kernel
theorem dX9_has_13 : decode cX9_has 13 = .ok (.goto 4, 3) := by decide +kernel
theorem dX9_has_16 : decode cX9_has 16 = .ok (.iconst 0, 1) := by decide +kernel
theorem dX9_has_17 : decode cX9_has 17 = .ok (.ireturn, 1) := by decide +kernel
theorem dX9_owes_0 : decode cX9_owes 0 = .ok (.aload_n 0, 1) := by decide +kernel
theorem dX9_owes_1 : decode cX9_owes 1 = .ok (.getfield 25, 3) := by decide +kernel
theorem dX9_owes_4 : decode cX9_owes 4 = .ok (.bipush 6, 2) := by decide +kernel
theorem dX9_owes_6 : decode cX9_owes 6 = .ok (.iload_n 1, 1) := by decide +kernel
theorem dX9_owes_7 : decode cX9_owes 7 = .ok (.imul, 1) := by decide +kernel
theorem dX9_owes_8 : decode cX9_owes 8 = .ok (.iload_n 2, 1) := by decide +kernel
theorem dX9_owes_9 : decode cX9_owes 9 = .ok (.iadd, 1) := by decide +kernel
theorem dX9_owes_10 : decode cX9_owes 10 = .ok (.iaload, 1) := by decide +kernel
theorem dX9_owes_11 : decode cX9_owes 11 = .ok (.ireturn, 1) := by decide +kernel
theorem dX9_hates_0 : decode cX9_hates 0 = .ok (.aload_n 0, 1) := by decide +kernel
theorem dX9_hates_1 : decode cX9_hates 1 = .ok (.getfield 22, 3) := by decide +kernel
theorem dX9_hates_4 : decode cX9_hates 4 = .ok (.iload_n 1, 1) := by decide +kernel
theorem dX9_hates_5 : decode cX9_hates 5 = .ok (.iaload, 1) := by decide +kernel
theorem dX9_hates_6 : decode cX9_hates 6 = .ok (.iload_n 2, 1) := by decide +kernel
theorem dX9_hates_7 : decode cX9_hates 7 = .ok (.ishr, 1) := by decide +kernel
theorem dX9_hates_8 : decode cX9_hates 8 = .ok (.iconst 1, 1) := by decide +kernel
theorem dX9_hates_9 : decode cX9_hates 9 = .ok (.iand, 1) := by decide +kernel
theorem dX9_hates_10 : decode cX9_hates 10 = .ok (.ifCond .eq 7, 3) := by decide +kernel
theorem dX9_hates_13 : decode cX9_hates 13 = .ok (.iconst 1, 1) := by decide +kernel
theorem dX9_hates_14 : decode cX9_hates 14 = .ok (.goto 4, 3) := by decide +kernel
theorem dX9_hates_17 : decode cX9_hates 17 = .ok (.iconst 0, 1) := by decide +kernel
theorem dX9_hates_18 : decode cX9_hates 18 = .ok (.ireturn, 1) := by decide +kernel
theorem dX9_owesInAll_0 : decode cX9_owesInAll 0 = .ok (.iconst 0, 1) := by decide +kernel
theorem dX9_owesInAll_1 : decode cX9_owesInAll 1 = .ok (.istore_n 2, 1) := by decide +kernel
theorem dX9_owesInAll_2 : decode cX9_owesInAll 2 = .ok (.iconst 0, 1) := by decide +kernel
theorem dX9_owesInAll_3 : decode cX9_owesInAll 3 = .ok (.istore_n 3, 1) := by decide +kernel
theorem dX9_owesInAll_4 : decode cX9_owesInAll 4 = .ok (.iload_n 3, 1) := by decide +kernel
theorem dX9_owesInAll_5 : decode cX9_owesInAll 5 = .ok (.aload_n 0, 1) := by decide +kernel
theorem dX9_owesInAll_6 : decode cX9_owesInAll 6 = .ok (.getfield 9, 3) := by decide +kernel
theorem dX9_owesInAll_9 : decode cX9_owesInAll 9 = .ok (.if_icmp .ge 18, 3) := by decide +kernel
theorem dX9_owesInAll_12 : decode cX9_owesInAll 12 = .ok (.iload_n 2, 1) := by decide +kernel
theorem dX9_owesInAll_13 : decode cX9_owesInAll 13 = .ok (.aload_n 0, 1) := by decide +kernel
theorem dX9_owesInAll_14 : decode cX9_owesInAll 14 = .ok (.iload_n 1, 1) := by decide +kernel
theorem dX9_owesInAll_15 : decode cX9_owesInAll 15 = .ok (.iload_n 3, 1) := by decide +kernel
theorem dX9_owesInAll_16 : decode cX9_owesInAll 16 = .ok (.invokevirtual 40, 3) := by decide +kernel
theorem dX9_owesInAll_19 : decode cX9_owesInAll 19 = .ok (.iadd, 1) := by decide +kernel
theorem dX9_owesInAll_20 : decode cX9_owesInAll 20 = .ok (.istore_n 2, 1) := by decide +kernel
theorem dX9_owesInAll_21 : decode cX9_owesInAll 21 = .ok (.iinc 3 1, 3) := by decide +kernel
theorem dX9_owesInAll_24 : decode cX9_owesInAll 24 = .ok (.goto (-20), 3) := by decide +kernel
theorem dX9_owesInAll_27 : decode cX9_owesInAll 27 = .ok (.iload_n 2, 1) := by decide +kernel
theorem dX9_owesInAll_28 : decode cX9_owesInAll 28 = .ok (.ireturn, 1) := by decide +kernel
theorem dX9_isOwedInAll_0 : decode cX9_isOwedInAll 0 = .ok (.iconst 0, 1) := by decide +kernel
theorem dX9_isOwedInAll_1 : decode cX9_isOwedInAll 1 = .ok (.istore_n 2, 1) := by decide +kernel
theorem dX9_isOwedInAll_2 : decode cX9_isOwedInAll 2 = .ok (.iconst 0, 1) := by decide +kernel
theorem dX9_isOwedInAll_3 : decode cX9_isOwedInAll 3 = .ok (.istore_n 3, 1) := by decide +kernel
theorem dX9_isOwedInAll_4 : decode cX9_isOwedInAll 4 = .ok (.iload_n 3, 1) := by decide +kernel
theorem dX9_isOwedInAll_5 : decode cX9_isOwedInAll 5 = .ok (.aload_n 0, 1) := by decide +kernel
theorem dX9_isOwedInAll_6 : decode cX9_isOwedInAll 6 = .ok (.getfield 9, 3) := by decide +kernel
theorem dX9_isOwedInAll_9 : decode cX9_isOwedInAll 9 = .ok (.if_icmp .ge 18, 3) := by decide +kernel
theorem dX9_isOwedInAll_12 : decode cX9_isOwedInAll 12 = .ok (.iload_n 2, 1) := by decide +kernel
theorem dX9_isOwedInAll_13 : decode cX9_isOwedInAll 13 = .ok (.aload_n 0, 1) := by decide +kernel
theorem dX9_isOwedInAll_14 : decode cX9_isOwedInAll 14 = .ok (.iload_n 3, 1) := by decide +kernel
theorem dX9_isOwedInAll_15 : decode cX9_isOwedInAll 15 = .ok (.iload_n 1, 1) := by decide +kernel
theorem dX9_isOwedInAll_16 : decode cX9_isOwedInAll 16 = .ok (.invokevirtual 40, 3) := by decide +kernel
theorem dX9_isOwedInAll_19 : decode cX9_isOwedInAll 19 = .ok (.iadd, 1) := by decide +kernel
theorem dX9_isOwedInAll_20 : decode cX9_isOwedInAll 20 = .ok (.istore_n 2, 1) := by decide +kernel
theorem dX9_isOwedInAll_21 : decode cX9_isOwedInAll 21 = .ok (.iinc 3 1, 3) := by decide +kernel
theorem dX9_isOwedInAll_24 : decode cX9_isOwedInAll 24 = .ok (.goto (-20), 3) := by decide +kernel
theorem dX9_isOwedInAll_27 : decode cX9_isOwedInAll 27 = .ok (.iload_n 2, 1) := by decide +kernel
theorem dX9_isOwedInAll_28 : decode cX9_isOwedInAll 28 = .ok (.ireturn, 1) := by decide +kernel
theorem dX9_netOf_0 : decode cX9_netOf 0 = .ok (.aload_n 0, 1) := by decide +kernel
theorem dX9_netOf_1 : decode cX9_netOf 1 = .ok (.iload_n 1, 1) := by decide +kernel
theorem dX9_netOf_2 : decode cX9_netOf 2 = .ok (.invokevirtual 44, 3) := by decide +kernel
theorem dX9_netOf_5 : decode cX9_netOf 5 = .ok (.aload_n 0, 1) := by decide +kernel
theorem dX9_netOf_6 : decode cX9_netOf 6 = .ok (.iload_n 1, 1) := by decide +kernel
theorem dX9_netOf_7 : decode cX9_netOf 7 = .ok (.invokevirtual 48, 3) := by decide +kernel
theorem dX9_netOf_10 : decode cX9_netOf 10 = .ok (.isub, 1) := by decide +kernel
theorem dX9_netOf_11 : decode cX9_netOf 11 = .ok (.ireturn, 1) := by decide +kernel
theorem dX9_wealthOf_0 : decode cX9_wealthOf 0 = .ok (.aload_n 0, 1) := by decide +kernel
theorem dX9_wealthOf_1 : decode cX9_wealthOf 1 = .ok (.getfield 19, 3) := by decide +kernel
theorem dX9_wealthOf_4 : decode cX9_wealthOf 4 = .ok (.iload_n 1, 1) := by decide +kernel
theorem dX9_wealthOf_5 : decode cX9_wealthOf 5 = .ok (.iaload, 1) := by decide +kernel
theorem dX9_wealthOf_6 : decode cX9_wealthOf 6 = .ok (.aload_n 0, 1) := by decide +kernel
theorem dX9_wealthOf_7 : decode cX9_wealthOf 7 = .ok (.iload_n 1, 1) := by decide +kernel
theorem dX9_wealthOf_8 : decode cX9_wealthOf 8 = .ok (.invokevirtual 51, 3) := by decide +kernel
theorem dX9_wealthOf_11 : decode cX9_wealthOf 11 = .ok (.iadd, 1) := by decide +kernel
theorem dX9_wealthOf_12 : decode cX9_wealthOf 12 = .ok (.ireturn, 1) := by decide +kernel
theorem dX9_creditorsOf_0 : decode cX9_creditorsOf 0 = .ok (.iconst 0, 1) := by decide +kernel
theorem dX9_creditorsOf_1 : decode cX9_creditorsOf 1 = .ok (.istore_n 2, 1) := by decide +kernel
theorem dX9_creditorsOf_2 : decode cX9_creditorsOf 2 = .ok (.iconst 0, 1) := by decide +kernel
theorem dX9_creditorsOf_3 : decode cX9_creditorsOf 3 = .ok (.istore_n 3, 1) := by decide +kernel
theorem dX9_creditorsOf_4 : decode cX9_creditorsOf 4 = .ok (.iload_n 3, 1) := by decide +kernel
theorem dX9_creditorsOf_5 : decode cX9_creditorsOf 5 = .ok (.aload_n 0, 1) := by decide +kernel
theorem dX9_creditorsOf_6 : decode cX9_creditorsOf 6 = .ok (.getfield 9, 3) := by decide +kernel
theorem dX9_creditorsOf_9 : decode cX9_creditorsOf 9 = .ok (.if_icmp .ge 24, 3) := by decide +kernel
theorem dX9_creditorsOf_12 : decode cX9_creditorsOf 12 = .ok (.aload_n 0, 1) := by decide +kernel
theorem dX9_creditorsOf_13 : decode cX9_creditorsOf 13 = .ok (.iload_n 1, 1) := by decide +kernel
theorem dX9_creditorsOf_14 : decode cX9_creditorsOf 14 = .ok (.iload_n 3, 1) := by decide +kernel
theorem dX9_creditorsOf_15 : decode cX9_creditorsOf 15 = .ok (.invokevirtual 40, 3) := by decide +kernel
theorem dX9_creditorsOf_18 : decode cX9_creditorsOf 18 = .ok (.ifCond .le 9, 3) := by decide +kernel
theorem dX9_creditorsOf_21 : decode cX9_creditorsOf 21 = .ok (.iload_n 2, 1) := by decide +kernel
theorem dX9_creditorsOf_22 : decode cX9_creditorsOf 22 = .ok (.iconst 1, 1) := by decide +kernel
theorem dX9_creditorsOf_23 : decode cX9_creditorsOf 23 = .ok (.iload_n 3, 1) := by decide +kernel
theorem dX9_creditorsOf_24 : decode cX9_creditorsOf 24 = .ok (.ishl, 1) := by decide +kernel
theorem dX9_creditorsOf_25 : decode cX9_creditorsOf 25 = .ok (.ior, 1) := by decide +kernel
theorem dX9_creditorsOf_26 : decode cX9_creditorsOf 26 = .ok (.istore_n 2, 1) := by decide +kernel
theorem dX9_creditorsOf_27 : decode cX9_creditorsOf 27 = .ok (.iinc 3 1, 3) := by decide +kernel
theorem dX9_creditorsOf_30 : decode cX9_creditorsOf 30 = .ok (.goto (-26), 3) := by decide +kernel
theorem dX9_creditorsOf_33 : decode cX9_creditorsOf 33 = .ok (.iload_n 2, 1) := by decide +kernel
theorem dX9_creditorsOf_34 : decode cX9_creditorsOf 34 = .ok (.ireturn, 1) := by decide +kernel
theorem dX9_debtorsOf_0 : decode cX9_debtorsOf 0 = .ok (.iconst 0, 1) := by decide +kernel
theorem dX9_debtorsOf_1 : decode cX9_debtorsOf 1 = .ok (.istore_n 2, 1) := by decide +kernel
theorem dX9_debtorsOf_2 : decode cX9_debtorsOf 2 = .ok (.iconst 0, 1) := by decide +kernel
theorem dX9_debtorsOf_3 : decode cX9_debtorsOf 3 = .ok (.istore_n 3, 1) := by decide +kernel
theorem dX9_debtorsOf_4 : decode cX9_debtorsOf 4 = .ok (.iload_n 3, 1) := by decide +kernel
theorem dX9_debtorsOf_5 : decode cX9_debtorsOf 5 = .ok (.aload_n 0, 1) := by decide +kernel
theorem dX9_debtorsOf_6 : decode cX9_debtorsOf 6 = .ok (.getfield 9, 3) := by decide +kernel
theorem dX9_debtorsOf_9 : decode cX9_debtorsOf 9 = .ok (.if_icmp .ge 24, 3) := by decide +kernel
theorem dX9_debtorsOf_12 : decode cX9_debtorsOf 12 = .ok (.aload_n 0, 1) := by decide +kernel
theorem dX9_debtorsOf_13 : decode cX9_debtorsOf 13 = .ok (.iload_n 3, 1) := by decide +kernel
theorem dX9_debtorsOf_14 : decode cX9_debtorsOf 14 = .ok (.iload_n 1, 1) := by decide +kernel
theorem dX9_debtorsOf_15 : decode cX9_debtorsOf 15 = .ok (.invokevirtual 40, 3) := by decide +kernel
theorem dX9_debtorsOf_18 : decode cX9_debtorsOf 18 = .ok (.ifCond .le 9, 3) := by decide +kernel
theorem dX9_debtorsOf_21 : decode cX9_debtorsOf 21 = .ok (.iload_n 2, 1) := by decide +kernel
theorem dX9_debtorsOf_22 : decode cX9_debtorsOf 22 = .ok (.iconst 1, 1) := by decide +kernel
theorem dX9_debtorsOf_23 : decode cX9_debtorsOf 23 = .ok (.iload_n 3, 1) := by decide +kernel
theorem dX9_debtorsOf_24 : decode cX9_debtorsOf 24 = .ok (.ishl, 1) := by decide +kernel
theorem dX9_debtorsOf_25 : decode cX9_debtorsOf 25 = .ok (.ior, 1) := by decide +kernel
theorem dX9_debtorsOf_26 : decode cX9_debtorsOf 26 = .ok (.istore_n 2, 1) := by decide +kernel
theorem dX9_debtorsOf_27 : decode cX9_debtorsOf 27 = .ok (.iinc 3 1, 3) := by decide +kernel
theorem dX9_debtorsOf_30 : decode cX9_debtorsOf 30 = .ok (.goto (-26), 3) := by decide +kernel
theorem dX9_debtorsOf_33 : decode cX9_debtorsOf 33 = .ok (.iload_n 2, 1) := by decide +kernel
theorem dX9_debtorsOf_34 : decode cX9_debtorsOf 34 = .ok (.ireturn, 1) := by decide +kernel
theorem dX9_allHate_0 : decode cX9_allHate 0 = .ok (.iconst 0, 1) := by decide +kernel
theorem dX9_allHate_1 : decode cX9_allHate 1 = .ok (.istore_n 2, 1) := by decide +kernel
theorem dX9_allHate_2 : decode cX9_allHate 2 = .ok (.iload_n 2, 1) := by decide +kernel
theorem dX9_allHate_3 : decode cX9_allHate 3 = .ok (.aload_n 0, 1) := by decide +kernel
theorem dX9_allHate_4 : decode cX9_allHate 4 = .ok (.getfield 9, 3) := by decide +kernel
theorem dX9_allHate_7 : decode cX9_allHate 7 = .ok (.if_icmp .ge 35, 3) := by decide +kernel
theorem dX9_allHate_10 : decode cX9_allHate 10 = .ok (.iload_n 1, 1) := by decide +kernel
theorem dX9_allHate_11 : decode cX9_allHate 11 = .ok (.iload_n 2, 1) := by decide +kernel
theorem dX9_allHate_12 : decode cX9_allHate 12 = .ok (.ishr, 1) := by decide +kernel
theorem dX9_allHate_13 : decode cX9_allHate 13 = .ok (.iconst 1, 1) := by decide +kernel
theorem dX9_allHate_14 : decode cX9_allHate 14 = .ok (.iand, 1) := by decide +kernel
theorem dX9_allHate_15 : decode cX9_allHate 15 = .ok (.ifCond .eq 21, 3) := by decide +kernel
theorem dX9_allHate_18 : decode cX9_allHate 18 = .ok (.iload_n 1, 1) := by decide +kernel
theorem dX9_allHate_19 : decode cX9_allHate 19 = .ok (.aload_n 0, 1) := by decide +kernel
theorem dX9_allHate_20 : decode cX9_allHate 20 = .ok (.getfield 22, 3) := by decide +kernel
theorem dX9_allHate_23 : decode cX9_allHate 23 = .ok (.iload_n 2, 1) := by decide +kernel
theorem dX9_allHate_24 : decode cX9_allHate 24 = .ok (.iaload, 1) := by decide +kernel
theorem dX9_allHate_25 : decode cX9_allHate 25 = .ok (.iconst (-1), 1) := by decide +kernel
theorem dX9_allHate_26 : decode cX9_allHate 26 = .ok (.ixor, 1) := by decide +kernel
theorem dX9_allHate_27 : decode cX9_allHate 27 = .ok (.iand, 1) := by decide +kernel
theorem dX9_allHate_28 : decode cX9_allHate 28 = .ok (.iconst 1, 1) := by decide +kernel
theorem dX9_allHate_29 : decode cX9_allHate 29 = .ok (.iload_n 2, 1) := by decide +kernel
theorem dX9_allHate_30 : decode cX9_allHate 30 = .ok (.ishl, 1) := by decide +kernel
theorem dX9_allHate_31 : decode cX9_allHate 31 = .ok (.if_icmp .eq 5, 3) := by decide +kernel
theorem dX9_allHate_34 : decode cX9_allHate 34 = .ok (.iconst 0, 1) := by decide +kernel
theorem dX9_allHate_35 : decode cX9_allHate 35 = .ok (.ireturn, 1) := by decide +kernel
theorem dX9_allHate_36 : decode cX9_allHate 36 = .ok (.iinc 2 1, 3) := by decide +kernel
theorem dX9_allHate_39 : decode cX9_allHate 39 = .ok (.goto (-37), 3) := by decide +kernel
theorem dX9_allHate_42 : decode cX9_allHate 42 = .ok (.iconst 1, 1) := by decide +kernel
theorem dX9_allHate_43 : decode cX9_allHate 43 = .ok (.ireturn, 1) := by decide +kernel
theorem dX9_noneHate_0 : decode cX9_noneHate 0 = .ok (.iconst 0, 1) := by decide +kernel
theorem dX9_noneHate_1 : decode cX9_noneHate 1 = .ok (.istore_n 2, 1) := by decide +kernel
theorem dX9_noneHate_2 : decode cX9_noneHate 2 = .ok (.iload_n 2, 1) := by decide +kernel
theorem dX9_noneHate_3 : decode cX9_noneHate 3 = .ok (.aload_n 0, 1) := by decide +kernel
theorem dX9_noneHate_4 : decode cX9_noneHate 4 = .ok (.getfield 9, 3) := by decide +kernel
theorem dX9_noneHate_7 : decode cX9_noneHate 7 = .ok (.if_icmp .ge 30, 3) := by decide +kernel
theorem dX9_noneHate_10 : decode cX9_noneHate 10 = .ok (.iload_n 1, 1) := by decide +kernel
theorem dX9_noneHate_11 : decode cX9_noneHate 11 = .ok (.iload_n 2, 1) := by decide +kernel
theorem dX9_noneHate_12 : decode cX9_noneHate 12 = .ok (.ishr, 1) := by decide +kernel
theorem dX9_noneHate_13 : decode cX9_noneHate 13 = .ok (.iconst 1, 1) := by decide +kernel
theorem dX9_noneHate_14 : decode cX9_noneHate 14 = .ok (.iand, 1) := by decide +kernel
theorem dX9_noneHate_15 : decode cX9_noneHate 15 = .ok (.ifCond .eq 16, 3) := by decide +kernel
theorem dX9_noneHate_18 : decode cX9_noneHate 18 = .ok (.iload_n 1, 1) := by decide +kernel
theorem dX9_noneHate_19 : decode cX9_noneHate 19 = .ok (.aload_n 0, 1) := by decide +kernel
theorem dX9_noneHate_20 : decode cX9_noneHate 20 = .ok (.getfield 22, 3) := by decide +kernel
theorem dX9_noneHate_23 : decode cX9_noneHate 23 = .ok (.iload_n 2, 1) := by decide +kernel
theorem dX9_noneHate_24 : decode cX9_noneHate 24 = .ok (.iaload, 1) := by decide +kernel
theorem dX9_noneHate_25 : decode cX9_noneHate 25 = .ok (.iand, 1) := by decide +kernel
theorem dX9_noneHate_26 : decode cX9_noneHate 26 = .ok (.ifCond .eq 5, 3) := by decide +kernel
theorem dX9_noneHate_29 : decode cX9_noneHate 29 = .ok (.iconst 0, 1) := by decide +kernel
theorem dX9_noneHate_30 : decode cX9_noneHate 30 = .ok (.ireturn, 1) := by decide +kernel
theorem dX9_noneHate_31 : decode cX9_noneHate 31 = .ok (.iinc 2 1, 3) := by decide +kernel
theorem dX9_noneHate_34 : decode cX9_noneHate 34 = .ok (.goto (-32), 3) := by decide +kernel
theorem dX9_noneHate_37 : decode cX9_noneHate 37 = .ok (.iconst 1, 1) := by decide +kernel
theorem dX9_noneHate_38 : decode cX9_noneHate 38 = .ok (.ireturn, 1) := by decide +kernel
theorem dX9_witOf_0 : decode cX9_witOf 0 = .ok (.iconst 0, 1) := by decide +kernel
theorem dX9_witOf_1 : decode cX9_witOf 1 = .ok (.istore_n 2, 1) := by decide +kernel
theorem dX9_witOf_2 : decode cX9_witOf 2 = .ok (.iconst 0, 1) := by decide +kernel
theorem dX9_witOf_3 : decode cX9_witOf 3 = .ok (.istore_n 3, 1) := by decide +kernel
theorem dX9_witOf_4 : decode cX9_witOf 4 = .ok (.iload_n 3, 1) := by decide +kernel
theorem dX9_witOf_5 : decode cX9_witOf 5 = .ok (.aload_n 0, 1) := by decide +kernel
theorem dX9_witOf_6 : decode cX9_witOf 6 = .ok (.getfield 9, 3) := by decide +kernel
theorem dX9_witOf_9 : decode cX9_witOf 9 = .ok (.if_icmp .ge 26, 3) := by decide +kernel
theorem dX9_witOf_12 : decode cX9_witOf 12 = .ok (.iload_n 1, 1) := by decide +kernel
theorem dX9_witOf_13 : decode cX9_witOf 13 = .ok (.iload_n 3, 1) := by decide +kernel
theorem dX9_witOf_14 : decode cX9_witOf 14 = .ok (.ishr, 1) := by decide +kernel
theorem dX9_witOf_15 : decode cX9_witOf 15 = .ok (.iconst 1, 1) := by decide +kernel
theorem dX9_witOf_16 : decode cX9_witOf 16 = .ok (.iand, 1) := by decide +kernel
theorem dX9_witOf_17 : decode cX9_witOf 17 = .ok (.ifCond .eq 12, 3) := by decide +kernel
theorem dX9_witOf_20 : decode cX9_witOf 20 = .ok (.iload_n 2, 1) := by decide +kernel
theorem dX9_witOf_21 : decode cX9_witOf 21 = .ok (.aload_n 0, 1) := by decide +kernel
theorem dX9_witOf_22 : decode cX9_witOf 22 = .ok (.getfield 15, 3) := by decide +kernel
theorem dX9_witOf_25 : decode cX9_witOf 25 = .ok (.iload_n 3, 1) := by decide +kernel
theorem dX9_witOf_26 : decode cX9_witOf 26 = .ok (.iaload, 1) := by decide +kernel
theorem dX9_witOf_27 : decode cX9_witOf 27 = .ok (.iadd, 1) := by decide +kernel
theorem dX9_witOf_28 : decode cX9_witOf 28 = .ok (.istore_n 2, 1) := by decide +kernel
theorem dX9_witOf_29 : decode cX9_witOf 29 = .ok (.iinc 3 1, 3) := by decide +kernel
theorem dX9_witOf_32 : decode cX9_witOf 32 = .ok (.goto (-28), 3) := by decide +kernel
theorem dX9_witOf_35 : decode cX9_witOf 35 = .ok (.iload_n 2, 1) := by decide +kernel
theorem dX9_witOf_36 : decode cX9_witOf 36 = .ok (.ireturn, 1) := by decide +kernel
theorem dX9_tell_0 : decode cX9_tell 0 = .ok (.iload_n 1, 1) := by decide +kernel
theorem dX9_tell_1 : decode cX9_tell 1 = .ok (.ifCond .ne 8, 3) := by decide +kernel
theorem dX9_tell_4 : decode cX9_tell 4 = .ok (.aload_n 0, 1) := by decide +kernel
theorem dX9_tell_5 : decode cX9_tell 5 = .ok (.getfield 9, 3) := by decide +kernel
theorem dX9_tell_8 : decode cX9_tell 8 = .ok (.ireturn, 1) := by decide +kernel
theorem dX9_tell_9 : decode cX9_tell 9 = .ok (.iload_n 1, 1) := by decide +kernel
theorem dX9_tell_10 : decode cX9_tell 10 = .ok (.bipush 10, 2) := by decide +kernel
theorem dX9_tell_12 : decode cX9_tell 12 = .ok (.if_icmp .lt 59, 3) := by decide +kernel
theorem dX9_tell_15 : decode cX9_tell 15 = .ok (.iload_n 1, 1) := by decide +kernel
theorem dX9_tell_16 : decode cX9_tell 16 = .ok (.bipush 40, 2) := by decide +kernel
theorem dX9_tell_18 : decode cX9_tell 18 = .ok (.if_icmp .ge 53, 3) := by decide +kernel
theorem dX9_tell_21 : decode cX9_tell 21 = .ok (.iload_n 1, 1) := by decide +kernel
theorem dX9_tell_22 : decode cX9_tell 22 = .ok (.bipush 10, 2) := by decide +kernel
theorem dX9_tell_24 : decode cX9_tell 24 = .ok (.irem, 1) := by decide +kernel
theorem dX9_tell_25 : decode cX9_tell 25 = .ok (.istore_n 2, 1) := by decide +kernel
theorem dX9_tell_26 : decode cX9_tell 26 = .ok (.aload_n 0, 1) := by decide +kernel
theorem dX9_tell_27 : decode cX9_tell 27 = .ok (.iload_n 2, 1) := by decide +kernel
theorem dX9_tell_28 : decode cX9_tell 28 = .ok (.invokevirtual 54, 3) := by decide +kernel
theorem dX9_tell_31 : decode cX9_tell 31 = .ok (.ifCond .ne 5, 3) := by decide +kernel
theorem dX9_tell_34 : decode cX9_tell 34 = .ok (.iconst (-1), 1) := by decide +kernel
theorem dX9_tell_35 : decode cX9_tell 35 = .ok (.ireturn, 1) := by decide +kernel
theorem dX9_tell_36 : decode cX9_tell 36 = .ok (.iload_n 1, 1) := by decide +kernel
theorem dX9_tell_37 : decode cX9_tell 37 = .ok (.bipush 20, 2) := by decide +kernel
theorem dX9_tell_39 : decode cX9_tell 39 = .ok (.if_icmp .ge 10, 3) := by decide +kernel
theorem dX9_tell_42 : decode cX9_tell 42 = .ok (.aload_n 0, 1) := by decide +kernel
theorem dX9_tell_43 : decode cX9_tell 43 = .ok (.getfield 15, 3) := by decide +kernel
theorem dX9_tell_46 : decode cX9_tell 46 = .ok (.iload_n 2, 1) := by decide +kernel
theorem dX9_tell_47 : decode cX9_tell 47 = .ok (.iaload, 1) := by decide +kernel
theorem dX9_tell_48 : decode cX9_tell 48 = .ok (.ireturn, 1) := by decide +kernel
theorem dX9_tell_49 : decode cX9_tell 49 = .ok (.iload_n 1, 1) := by decide +kernel
theorem dX9_tell_50 : decode cX9_tell 50 = .ok (.bipush 30, 2) := by decide +kernel
theorem dX9_tell_52 : decode cX9_tell 52 = .ok (.if_icmp .ge 12, 3) := by decide +kernel
theorem dX9_tell_55 : decode cX9_tell 55 = .ok (.aload_n 0, 1) := by decide +kernel
theorem dX9_tell_56 : decode cX9_tell 56 = .ok (.getfield 19, 3) := by decide +kernel
theorem dX9_tell_59 : decode cX9_tell 59 = .ok (.iload_n 2, 1) := by decide +kernel
theorem dX9_tell_60 : decode cX9_tell 60 = .ok (.iaload, 1) := by decide +kernel
theorem dX9_tell_61 : decode cX9_tell 61 = .ok (.goto 9, 3) := by decide +kernel
theorem dX9_tell_64 : decode cX9_tell 64 = .ok (.aload_n 0, 1) := by decide +kernel
theorem dX9_tell_65 : decode cX9_tell 65 = .ok (.getfield 22, 3) := by decide +kernel
theorem dX9_tell_68 : decode cX9_tell 68 = .ok (.iload_n 2, 1) := by decide +kernel
theorem dX9_tell_69 : decode cX9_tell 69 = .ok (.iaload, 1) := by decide +kernel
theorem dX9_tell_70 : decode cX9_tell 70 = .ok (.ireturn, 1) := by decide +kernel
theorem dX9_tell_71 : decode cX9_tell 71 = .ok (.iload_n 1, 1) := by decide +kernel
theorem dX9_tell_72 : decode cX9_tell 72 = .ok (.bipush 100, 2) := by decide +kernel
theorem dX9_tell_74 : decode cX9_tell 74 = .ok (.if_icmp .lt 50, 3) := by decide +kernel
theorem dX9_tell_77 : decode cX9_tell 77 = .ok (.iload_n 1, 1) := by decide +kernel
theorem dX9_tell_78 : decode cX9_tell 78 = .ok (.sipush 200, 3) := by decide +kernel
theorem dX9_tell_81 : decode cX9_tell 81 = .ok (.if_icmp .ge 43, 3) := by decide +kernel
theorem dX9_tell_84 : decode cX9_tell 84 = .ok (.iload_n 1, 1) := by decide +kernel
theorem dX9_tell_85 : decode cX9_tell 85 = .ok (.bipush 100, 2) := by decide +kernel
theorem dX9_tell_87 : decode cX9_tell 87 = .ok (.isub, 1) := by decide +kernel
theorem dX9_tell_88 : decode cX9_tell 88 = .ok (.bipush 10, 2) := by decide +kernel
theorem dX9_tell_90 : decode cX9_tell 90 = .ok (.idiv, 1) := by decide +kernel
theorem dX9_tell_91 : decode cX9_tell 91 = .ok (.istore_n 2, 1) := by decide +kernel
theorem dX9_tell_92 : decode cX9_tell 92 = .ok (.iload_n 1, 1) := by decide +kernel
theorem dX9_tell_93 : decode cX9_tell 93 = .ok (.bipush 10, 2) := by decide +kernel
theorem dX9_tell_95 : decode cX9_tell 95 = .ok (.irem, 1) := by decide +kernel
theorem dX9_tell_96 : decode cX9_tell 96 = .ok (.istore_n 3, 1) := by decide +kernel
theorem dX9_tell_97 : decode cX9_tell 97 = .ok (.aload_n 0, 1) := by decide +kernel
theorem dX9_tell_98 : decode cX9_tell 98 = .ok (.iload_n 2, 1) := by decide +kernel
theorem dX9_tell_99 : decode cX9_tell 99 = .ok (.invokevirtual 54, 3) := by decide +kernel
theorem dX9_tell_102 : decode cX9_tell 102 = .ok (.ifCond .eq 20, 3) := by decide +kernel
theorem dX9_tell_105 : decode cX9_tell 105 = .ok (.aload_n 0, 1) := by decide +kernel
theorem dX9_tell_106 : decode cX9_tell 106 = .ok (.iload_n 3, 1) := by decide +kernel
theorem dX9_tell_107 : decode cX9_tell 107 = .ok (.invokevirtual 54, 3) := by decide +kernel
theorem dX9_tell_110 : decode cX9_tell 110 = .ok (.ifCond .eq 12, 3) := by decide +kernel
theorem dX9_tell_113 : decode cX9_tell 113 = .ok (.aload_n 0, 1) := by decide +kernel
theorem dX9_tell_114 : decode cX9_tell 114 = .ok (.iload_n 2, 1) := by decide +kernel
theorem dX9_tell_115 : decode cX9_tell 115 = .ok (.iload_n 3, 1) := by decide +kernel
theorem dX9_tell_116 : decode cX9_tell 116 = .ok (.invokevirtual 40, 3) := by decide +kernel
theorem dX9_tell_119 : decode cX9_tell 119 = .ok (.goto 4, 3) := by decide +kernel
theorem dX9_tell_122 : decode cX9_tell 122 = .ok (.iconst (-1), 1) := by decide +kernel
theorem dX9_tell_123 : decode cX9_tell 123 = .ok (.ireturn, 1) := by decide +kernel
theorem dX9_tell_124 : decode cX9_tell 124 = .ok (.iconst (-1), 1) := by decide +kernel
theorem dX9_tell_125 : decode cX9_tell 125 = .ok (.ireturn, 1) := by decide +kernel
theorem dX10_init_0 : decode cX10_init 0 = .ok (.aload_n 0, 1) := by decide +kernel
theorem dX10_init_1 : decode cX10_init 1 = .ok (.invokespecial 3, 3) := by decide +kernel
theorem dX10_init_4 : decode cX10_init 4 = .ok (.aload_n 0, 1) := by decide +kernel
theorem dX10_init_5 : decode cX10_init 5 = .ok (.iconst 0, 1) := by decide +kernel
theorem dX10_init_6 : decode cX10_init 6 = .ok (.putfield 9, 3) := by decide +kernel
theorem dX10_init_9 : decode cX10_init 9 = .ok (.aload_n 0, 1) := by decide +kernel
theorem dX10_init_10 : decode cX10_init 10 = .ok (.sipush 160, 3) := by decide +kernel
theorem dX10_init_13 : decode cX10_init 13 = .ok (.newarray .int, 2) := by decide +kernel
theorem dX10_init_15 : decode cX10_init 15 = .ok (.putfield 15, 3) := by decide +kernel
theorem dX10_init_18 : decode cX10_init 18 = .ok (.return_, 1) := by decide +kernel
theorem dX10_add_0 : decode cX10_add 0 = .ok (.aload_n 0, 1) := by decide +kernel
theorem dX10_add_1 : decode cX10_add 1 = .ok (.getfield 9, 3) := by decide +kernel
theorem dX10_add_4 : decode cX10_add 4 = .ok (.bipush 40, 2) := by decide +kernel
theorem dX10_add_6 : decode cX10_add 6 = .ok (.if_icmp .ge 9, 3) := by decide +kernel
theorem dX10_add_9 : decode cX10_add 9 = .ok (.aload_n 2, 1) := by decide +kernel
theorem dX10_add_10 : decode cX10_add 10 = .ok (.arraylength, 1) := by decide +kernel
theorem dX10_add_11 : decode cX10_add 11 = .ok (.iconst 3, 1) := by decide +kernel
theorem dX10_add_12 : decode cX10_add 12 = .ok (.if_icmp .ge 4, 3) := by decide +kernel
theorem dX10_add_15 : decode cX10_add 15 = .ok (.return_, 1) := by decide +kernel
theorem dX10_add_16 : decode cX10_add 16 = .ok (.aload_n 0, 1) := by decide +kernel
theorem dX10_add_17 : decode cX10_add 17 = .ok (.getfield 15, 3) := by decide +kernel
theorem dX10_add_20 : decode cX10_add 20 = .ok (.iconst 4, 1) := by decide +kernel
theorem dX10_add_21 : decode cX10_add 21 = .ok (.aload_n 0, 1) := by decide +kernel
theorem dX10_add_22 : decode cX10_add 22 = .ok (.getfield 9, 3) := by decide +kernel
theorem dX10_add_25 : decode cX10_add 25 = .ok (.imul, 1) := by decide +kernel
theorem dX10_add_26 : decode cX10_add 26 = .ok (.iload_n 1, 1) := by decide +kernel
theorem dX10_add_27 : decode cX10_add 27 = .ok (.iastore, 1) := by decide +kernel
theorem dX10_add_28 : decode cX10_add 28 = .ok (.aload_n 2, 1) := by decide +kernel
theorem dX10_add_29 : decode cX10_add 29 = .ok (.iconst 0, 1) := by decide +kernel
theorem dX10_add_30 : decode cX10_add 30 = .ok (.aload_n 0, 1) := by decide +kernel
theorem dX10_add_31 : decode cX10_add 31 = .ok (.getfield 15, 3) := by decide +kernel
theorem dX10_add_34 : decode cX10_add 34 = .ok (.iconst 4, 1) := by decide +kernel
theorem dX10_add_35 : decode cX10_add 35 = .ok (.aload_n 0, 1) := by decide +kernel
theorem dX10_add_36 : decode cX10_add 36 = .ok (.getfield 9, 3) := by decide +kernel
theorem dX10_add_39 : decode cX10_add 39 = .ok (.imul, 1) := by decide +kernel
theorem dX10_add_40 : decode cX10_add 40 = .ok (.iconst 1, 1) := by decide +kernel
theorem dX10_add_41 : decode cX10_add 41 = .ok (.iadd, 1) := by decide +kernel
theorem dX10_add_42 : decode cX10_add 42 = .ok (.iconst 3, 1) := by decide +kernel
theorem dX10_add_43 : decode cX10_add 43 = .ok (.invokestatic 19, 3) := by decide +kernel
theorem dX10_add_46 : decode cX10_add 46 = .ok (.aload_n 0, 1) := by decide +kernel
theorem dX10_add_47 : decode cX10_add 47 = .ok (.dup, 1) := by decide +kernel
theorem dX10_add_48 : decode cX10_add 48 = .ok (.getfield 9, 3) := by decide +kernel
theorem dX10_add_51 : decode cX10_add 51 = .ok (.iconst 1, 1) := by decide +kernel
theorem dX10_add_52 : decode cX10_add 52 = .ok (.iadd, 1) := by decide +kernel
theorem dX10_add_53 : decode cX10_add 53 = .ok (.putfield 9, 3) := by decide +kernel
theorem dX10_add_56 : decode cX10_add 56 = .ok (.return_, 1) := by decide +kernel
theorem dX10_copy_0 : decode cX10_copy 0 = .ok (.aload_n 0, 1) := by decide +kernel
theorem dX10_copy_1 : decode cX10_copy 1 = .ok (.aload_n 1, 1) := by decide +kernel
theorem dX10_copy_2 : decode cX10_copy 2 = .ok (.getfield 9, 3) := by decide +kernel
theorem dX10_copy_5 : decode cX10_copy 5 = .ok (.putfield 9, 3) := by decide +kernel
theorem dX10_copy_8 : decode cX10_copy 8 = .ok (.aload_n 1, 1) := by decide +kernel
theorem dX10_copy_9 : decode cX10_copy 9 = .ok (.getfield 15, 3) := by decide +kernel
theorem dX10_copy_12 : decode cX10_copy 12 = .ok (.iconst 0, 1) := by decide +kernel
theorem dX10_copy_13 : decode cX10_copy 13 = .ok (.aload_n 0, 1) := by decide +kernel
theorem dX10_copy_14 : decode cX10_copy 14 = .ok (.getfield 15, 3) := by decide +kernel
theorem dX10_copy_17 : decode cX10_copy 17 = .ok (.iconst 0, 1) := by decide +kernel
theorem dX10_copy_18 : decode cX10_copy 18 = .ok (.iconst 4, 1) := by decide +kernel
theorem dX10_copy_19 : decode cX10_copy 19 = .ok (.aload_n 1, 1) := by decide +kernel
theorem dX10_copy_20 : decode cX10_copy 20 = .ok (.getfield 9, 3) := by decide +kernel
theorem dX10_copy_23 : decode cX10_copy 23 = .ok (.imul, 1) := by decide +kernel
theorem dX10_copy_24 : decode cX10_copy 24 = .ok (.invokestatic 19, 3) := by decide +kernel
theorem dX10_copy_27 : decode cX10_copy 27 = .ok (.return_, 1) := by decide +kernel
theorem dX10_tell_0 : decode cX10_tell 0 = .ok (.iload_n 1, 1) := by decide +kernel
theorem dX10_tell_1 : decode cX10_tell 1 = .ok (.iconst (-1), 1) := by decide +kernel
theorem dX10_tell_2 : decode cX10_tell 2 = .ok (.if_icmp .ne 12, 3) := by decide +kernel
theorem dX10_tell_5 : decode cX10_tell 5 = .ok (.iload_n 2, 1) := by decide +kernel
theorem dX10_tell_6 : decode cX10_tell 6 = .ok (.ifCond .ne 8, 3) := by decide +kernel
theorem dX10_tell_9 : decode cX10_tell 9 = .ok (.aload_n 0, 1) := by decide +kernel
theorem dX10_tell_10 : decode cX10_tell 10 = .ok (.getfield 9, 3) := by decide +kernel
theorem dX10_tell_13 : decode cX10_tell 13 = .ok (.ireturn, 1) := by decide +kernel
theorem dX10_tell_14 : decode cX10_tell 14 = .ok (.iload_n 1, 1) := by decide +kernel
theorem dX10_tell_15 : decode cX10_tell 15 = .ok (.ifCond .lt 20, 3) := by decide +kernel
theorem dX10_tell_18 : decode cX10_tell 18 = .ok (.iload_n 1, 1) := by decide +kernel
theorem dX10_tell_19 : decode cX10_tell 19 = .ok (.aload_n 0, 1) := by decide +kernel
theorem dX10_tell_20 : decode cX10_tell 20 = .ok (.getfield 9, 3) := by decide +kernel
theorem dX10_tell_23 : decode cX10_tell 23 = .ok (.if_icmp .ge 12, 3) := by decide +kernel
theorem dX10_tell_26 : decode cX10_tell 26 = .ok (.iload_n 2, 1) := by decide +kernel
theorem dX10_tell_27 : decode cX10_tell 27 = .ok (.ifCond .lt 8, 3) := by decide +kernel
theorem dX10_tell_30 : decode cX10_tell 30 = .ok (.iload_n 2, 1) := by decide +kernel
theorem dX10_tell_31 : decode cX10_tell 31 = .ok (.iconst 3, 1) := by decide +kernel
theorem dX10_tell_32 : decode cX10_tell 32 = .ok (.if_icmp .le 6, 3) := by decide +kernel
theorem dX10_tell_35 : decode cX10_tell 35 = .ok (.bipush (-2), 2) := by decide +kernel
theorem dX10_tell_37 : decode cX10_tell 37 = .ok (.ireturn, 1) := by decide +kernel
theorem dX10_tell_38 : decode cX10_tell 38 = .ok (.aload_n 0, 1) := by decide +kernel
theorem dX10_tell_39 : decode cX10_tell 39 = .ok (.getfield 15, 3) := by decide +kernel
theorem dX10_tell_42 : decode cX10_tell 42 = .ok (.iconst 4, 1) := by decide +kernel
theorem dX10_tell_43 : decode cX10_tell 43 = .ok (.iload_n 1, 1) := by decide +kernel
theorem dX10_tell_44 : decode cX10_tell 44 = .ok (.imul, 1) := by decide +kernel
theorem dX10_tell_45 : decode cX10_tell 45 = .ok (.iload_n 2, 1) := by decide +kernel
theorem dX10_tell_46 : decode cX10_tell 46 = .ok (.iadd, 1) := by decide +kernel
theorem dX10_tell_47 : decode cX10_tell 47 = .ok (.iaload, 1) := by decide +kernel
theorem dX10_tell_48 : decode cX10_tell 48 = .ok (.ireturn, 1) := by decide +kernel
theorem dX2_init_0 : decode cX2_init 0 = .ok (.aload_n 0, 1) := by decide +kernel
theorem dX2_init_1 : decode cX2_init 1 = .ok (.invokespecial 3, 3) := by decide +kernel
theorem dX2_init_4 : decode cX2_init 4 = .ok (.aload_n 0, 1) := by decide +kernel
theorem dX2_init_5 : decode cX2_init 5 = .ok (.iconst 0, 1) := by decide +kernel
theorem dX2_init_6 : decode cX2_init 6 = .ok (.putfield 9, 3) := by decide +kernel
theorem dX2_init_9 : decode cX2_init 9 = .ok (.aload_n 0, 1) := by decide +kernel
theorem dX2_init_10 : decode cX2_init 10 = .ok (.bipush 24, 2) := by decide +kernel
theorem dX2_init_12 : decode cX2_init 12 = .ok (.newarray .int, 2) := by decide +kernel
theorem dX2_init_14 : decode cX2_init 14 = .ok (.putfield 15, 3) := by decide +kernel
theorem dX2_init_17 : decode cX2_init 17 = .ok (.return_, 1) := by decide +kernel
theorem dX2_add_0 : decode cX2_add 0 = .ok (.aload_n 0, 1) := by decide +kernel
theorem dX2_add_1 : decode cX2_add 1 = .ok (.getfield 9, 3) := by decide +kernel
theorem dX2_add_4 : decode cX2_add 4 = .ok (.bipush 8, 2) := by decide +kernel
theorem dX2_add_6 : decode cX2_add 6 = .ok (.if_icmp .ge 9, 3) := by decide +kernel
theorem dX2_add_9 : decode cX2_add 9 = .ok (.aload_n 2, 1) := by decide +kernel
theorem dX2_add_10 : decode cX2_add 10 = .ok (.arraylength, 1) := by decide +kernel
theorem dX2_add_11 : decode cX2_add 11 = .ok (.iconst 2, 1) := by decide +kernel
theorem dX2_add_12 : decode cX2_add 12 = .ok (.if_icmp .ge 4, 3) := by decide +kernel
theorem dX2_add_15 : decode cX2_add 15 = .ok (.return_, 1) := by decide +kernel
theorem dX2_add_16 : decode cX2_add 16 = .ok (.aload_n 0, 1) := by decide +kernel
theorem dX2_add_17 : decode cX2_add 17 = .ok (.getfield 15, 3) := by decide +kernel
theorem dX2_add_20 : decode cX2_add 20 = .ok (.iconst 3, 1) := by decide +kernel
theorem dX2_add_21 : decode cX2_add 21 = .ok (.aload_n 0, 1) := by decide +kernel
theorem dX2_add_22 : decode cX2_add 22 = .ok (.getfield 9, 3) := by decide +kernel
theorem dX2_add_25 : decode cX2_add 25 = .ok (.imul, 1) := by decide +kernel
theorem dX2_add_26 : decode cX2_add 26 = .ok (.iload_n 1, 1) := by decide +kernel
theorem dX2_add_27 : decode cX2_add 27 = .ok (.iastore, 1) := by decide +kernel
theorem dX2_add_28 : decode cX2_add 28 = .ok (.aload_n 2, 1) := by decide +kernel
theorem dX2_add_29 : decode cX2_add 29 = .ok (.iconst 0, 1) := by decide +kernel
theorem dX2_add_30 : decode cX2_add 30 = .ok (.aload_n 0, 1) := by decide +kernel
theorem dX2_add_31 : decode cX2_add 31 = .ok (.getfield 15, 3) := by decide +kernel
theorem dX2_add_34 : decode cX2_add 34 = .ok (.iconst 3, 1) := by decide +kernel
theorem dX2_add_35 : decode cX2_add 35 = .ok (.aload_n 0, 1) := by decide +kernel
theorem dX2_add_36 : decode cX2_add 36 = .ok (.getfield 9, 3) := by decide +kernel
theorem dX2_add_39 : decode cX2_add 39 = .ok (.imul, 1) := by decide +kernel
theorem dX2_add_40 : decode cX2_add 40 = .ok (.iconst 1, 1) := by decide +kernel
theorem dX2_add_41 : decode cX2_add 41 = .ok (.iadd, 1) := by decide +kernel
theorem dX2_add_42 : decode cX2_add 42 = .ok (.iconst 2, 1) := by decide +kernel
theorem dX2_add_43 : decode cX2_add 43 = .ok (.invokestatic 19, 3) := by decide +kernel
theorem dX2_add_46 : decode cX2_add 46 = .ok (.aload_n 0, 1) := by decide +kernel
theorem dX2_add_47 : decode cX2_add 47 = .ok (.dup, 1) := by decide +kernel
theorem dX2_add_48 : decode cX2_add 48 = .ok (.getfield 9, 3) := by decide +kernel
theorem dX2_add_51 : decode cX2_add 51 = .ok (.iconst 1, 1) := by decide +kernel
theorem dX2_add_52 : decode cX2_add 52 = .ok (.iadd, 1) := by decide +kernel
theorem dX2_add_53 : decode cX2_add 53 = .ok (.putfield 9, 3) := by decide +kernel
theorem dX2_add_56 : decode cX2_add 56 = .ok (.return_, 1) := by decide +kernel
theorem dX2_copy_0 : decode cX2_copy 0 = .ok (.aload_n 0, 1) := by decide +kernel
theorem dX2_copy_1 : decode cX2_copy 1 = .ok (.aload_n 1, 1) := by decide +kernel
theorem dX2_copy_2 : decode cX2_copy 2 = .ok (.getfield 9, 3) := by decide +kernel
theorem dX2_copy_5 : decode cX2_copy 5 = .ok (.putfield 9, 3) := by decide +kernel
theorem dX2_copy_8 : decode cX2_copy 8 = .ok (.aload_n 1, 1) := by decide +kernel
theorem dX2_copy_9 : decode cX2_copy 9 = .ok (.getfield 15, 3) := by decide +kernel
theorem dX2_copy_12 : decode cX2_copy 12 = .ok (.iconst 0, 1) := by decide +kernel
theorem dX2_copy_13 : decode cX2_copy 13 = .ok (.aload_n 0, 1) := by decide +kernel
theorem dX2_copy_14 : decode cX2_copy 14 = .ok (.getfield 15, 3) := by decide +kernel
theorem dX2_copy_17 : decode cX2_copy 17 = .ok (.iconst 0, 1) := by decide +kernel
theorem dX2_copy_18 : decode cX2_copy 18 = .ok (.iconst 3, 1) := by decide +kernel
theorem dX2_copy_19 : decode cX2_copy 19 = .ok (.aload_n 1, 1) := by decide +kernel
theorem dX2_copy_20 : decode cX2_copy 20 = .ok (.getfield 9, 3) := by decide +kernel
theorem dX2_copy_23 : decode cX2_copy 23 = .ok (.imul, 1) := by decide +kernel
theorem dX2_copy_24 : decode cX2_copy 24 = .ok (.invokestatic 19, 3) := by decide +kernel
theorem dX2_copy_27 : decode cX2_copy 27 = .ok (.return_, 1) := by decide +kernel
theorem dX2_tell_0 : decode cX2_tell 0 = .ok (.iload_n 1, 1) := by decide +kernel
theorem dX2_tell_1 : decode cX2_tell 1 = .ok (.iconst (-1), 1) := by decide +kernel
theorem dX2_tell_2 : decode cX2_tell 2 = .ok (.if_icmp .ne 12, 3) := by decide +kernel
theorem dX2_tell_5 : decode cX2_tell 5 = .ok (.iload_n 2, 1) := by decide +kernel
theorem dX2_tell_6 : decode cX2_tell 6 = .ok (.ifCond .ne 8, 3) := by decide +kernel
theorem dX2_tell_9 : decode cX2_tell 9 = .ok (.aload_n 0, 1) := by decide +kernel
theorem dX2_tell_10 : decode cX2_tell 10 = .ok (.getfield 9, 3) := by decide +kernel
theorem dX2_tell_13 : decode cX2_tell 13 = .ok (.ireturn, 1) := by decide +kernel
theorem dX2_tell_14 : decode cX2_tell 14 = .ok (.iload_n 1, 1) := by decide +kernel
theorem dX2_tell_15 : decode cX2_tell 15 = .ok (.ifCond .lt 20, 3) := by decide +kernel
theorem dX2_tell_18 : decode cX2_tell 18 = .ok (.iload_n 1, 1) := by decide +kernel
theorem dX2_tell_19 : decode cX2_tell 19 = .ok (.aload_n 0, 1) := by decide +kernel
theorem dX2_tell_20 : decode cX2_tell 20 = .ok (.getfield 9, 3) := by decide +kernel
theorem dX2_tell_23 : decode cX2_tell 23 = .ok (.if_icmp .ge 12, 3) := by decide +kernel
theorem dX2_tell_26 : decode cX2_tell 26 = .ok (.iload_n 2, 1) := by decide +kernel
theorem dX2_tell_27 : decode cX2_tell 27 = .ok (.ifCond .lt 8, 3) := by decide +kernel
theorem dX2_tell_30 : decode cX2_tell 30 = .ok (.iload_n 2, 1) := by decide +kernel
theorem dX2_tell_31 : decode cX2_tell 31 = .ok (.iconst 2, 1) := by decide +kernel
theorem dX2_tell_32 : decode cX2_tell 32 = .ok (.if_icmp .le 6, 3) := by decide +kernel
theorem dX2_tell_35 : decode cX2_tell 35 = .ok (.bipush (-2), 2) := by decide +kernel
theorem dX2_tell_37 : decode cX2_tell 37 = .ok (.ireturn, 1) := by decide +kernel
theorem dX2_tell_38 : decode cX2_tell 38 = .ok (.aload_n 0, 1) := by decide +kernel
theorem dX2_tell_39 : decode cX2_tell 39 = .ok (.getfield 15, 3) := by decide +kernel
theorem dX2_tell_42 : decode cX2_tell 42 = .ok (.iconst 3, 1) := by decide +kernel
theorem dX2_tell_43 : decode cX2_tell 43 = .ok (.iload_n 1, 1) := by decide +kernel
theorem dX2_tell_44 : decode cX2_tell 44 = .ok (.imul, 1) := by decide +kernel
theorem dX2_tell_45 : decode cX2_tell 45 = .ok (.iload_n 2, 1) := by decide +kernel
theorem dX2_tell_46 : decode cX2_tell 46 = .ok (.iadd, 1) := by decide +kernel
theorem dX2_tell_47 : decode cX2_tell 47 = .ok (.iaload, 1) := by decide +kernel
theorem dX2_tell_48 : decode cX2_tell 48 = .ok (.ireturn, 1) := by decide +kernel
theorem dX2_isOf_0 : decode cX2_isOf 0 = .ok (.iconst 0, 1) := by decide +kernel
theorem dX2_isOf_1 : decode cX2_isOf 1 = .ok (.istore_n 2, 1) := by decide +kernel
theorem dX2_isOf_2 : decode cX2_isOf 2 = .ok (.iload_n 2, 1) := by decide +kernel
theorem dX2_isOf_3 : decode cX2_isOf 3 = .ok (.aload_n 0, 1) := by decide +kernel
theorem dX2_isOf_4 : decode cX2_isOf 4 = .ok (.getfield 9, 3) := by decide +kernel
theorem dX2_isOf_7 : decode cX2_isOf 7 = .ok (.if_icmp .ge 45, 3) := by decide +kernel
theorem dX2_isOf_10 : decode cX2_isOf 10 = .ok (.aload_n 1, 1) := by decide +kernel
theorem dX2_isOf_11 : decode cX2_isOf 11 = .ok (.aload_n 0, 1) := by decide +kernel
theorem dX2_isOf_12 : decode cX2_isOf 12 = .ok (.getfield 15, 3) := by decide +kernel
theorem dX2_isOf_15 : decode cX2_isOf 15 = .ok (.iconst 3, 1) := by decide +kernel
theorem dX2_isOf_16 : decode cX2_isOf 16 = .ok (.iload_n 2, 1) := by decide +kernel
theorem dX2_isOf_17 : decode cX2_isOf 17 = .ok (.imul, 1) := by decide +kernel
theorem dX2_isOf_18 : decode cX2_isOf 18 = .ok (.iconst 1, 1) := by decide +kernel
theorem dX2_isOf_19 : decode cX2_isOf 19 = .ok (.iadd, 1) := by decide +kernel
theorem dX2_isOf_20 : decode cX2_isOf 20 = .ok (.iaload, 1) := by decide +kernel
theorem dX2_isOf_21 : decode cX2_isOf 21 = .ok (.invokevirtual 25, 3) := by decide +kernel
theorem dX2_isOf_24 : decode cX2_isOf 24 = .ok (.ifCond .eq 20, 3) := by decide +kernel
theorem dX2_isOf_27 : decode cX2_isOf 27 = .ok (.aload_n 1, 1) := by decide +kernel
theorem dX2_isOf_28 : decode cX2_isOf 28 = .ok (.aload_n 0, 1) := by decide +kernel
theorem dX2_isOf_29 : decode cX2_isOf 29 = .ok (.getfield 15, 3) := by decide +kernel
theorem dX2_isOf_32 : decode cX2_isOf 32 = .ok (.iconst 3, 1) := by decide +kernel
theorem dX2_isOf_33 : decode cX2_isOf 33 = .ok (.iload_n 2, 1) := by decide +kernel
theorem dX2_isOf_34 : decode cX2_isOf 34 = .ok (.imul, 1) := by decide +kernel
theorem dX2_isOf_35 : decode cX2_isOf 35 = .ok (.iconst 2, 1) := by decide +kernel
theorem dX2_isOf_36 : decode cX2_isOf 36 = .ok (.iadd, 1) := by decide +kernel
theorem dX2_isOf_37 : decode cX2_isOf 37 = .ok (.iaload, 1) := by decide +kernel
theorem dX2_isOf_38 : decode cX2_isOf 38 = .ok (.invokevirtual 25, 3) := by decide +kernel
theorem dX2_isOf_41 : decode cX2_isOf 41 = .ok (.ifCond .ne 5, 3) := by decide +kernel
theorem dX2_isOf_44 : decode cX2_isOf 44 = .ok (.iconst 0, 1) := by decide +kernel
theorem dX2_isOf_45 : decode cX2_isOf 45 = .ok (.ireturn, 1) := by decide +kernel
theorem dX2_isOf_46 : decode cX2_isOf 46 = .ok (.iinc 2 1, 3) := by decide +kernel
theorem dX2_isOf_49 : decode cX2_isOf 49 = .ok (.goto (-47), 3) := by decide +kernel
theorem dX2_isOf_52 : decode cX2_isOf 52 = .ok (.iconst 1, 1) := by decide +kernel
theorem dX2_isOf_53 : decode cX2_isOf 53 = .ok (.ireturn, 1) := by decide +kernel
theorem dX2_agrees_0 : decode cX2_agrees 0 = .ok (.iconst 0, 1) := by decide +kernel
theorem dX2_agrees_1 : decode cX2_agrees 1 = .ok (.istore_n 2, 1) := by decide +kernel
theorem dX2_agrees_2 : decode cX2_agrees 2 = .ok (.iload_n 2, 1) := by decide +kernel
theorem dX2_agrees_3 : decode cX2_agrees 3 = .ok (.aload_n 0, 1) := by decide +kernel
theorem dX2_agrees_4 : decode cX2_agrees 4 = .ok (.getfield 9, 3) := by decide +kernel
theorem dX2_agrees_7 : decode cX2_agrees 7 = .ok (.if_icmp .ge 67, 3) := by decide +kernel
theorem dX2_agrees_10 : decode cX2_agrees 10 = .ok (.iload_n 1, 1) := by decide +kernel
theorem dX2_agrees_11 : decode cX2_agrees 11 = .ok (.aload_n 0, 1) := by decide +kernel
theorem dX2_agrees_12 : decode cX2_agrees 12 = .ok (.getfield 15, 3) := by decide +kernel
theorem dX2_agrees_15 : decode cX2_agrees 15 = .ok (.iconst 3, 1) := by decide +kernel
theorem dX2_agrees_16 : decode cX2_agrees 16 = .ok (.iload_n 2, 1) := by decide +kernel
theorem dX2_agrees_17 : decode cX2_agrees 17 = .ok (.imul, 1) := by decide +kernel
theorem dX2_agrees_18 : decode cX2_agrees 18 = .ok (.iconst 1, 1) := by decide +kernel
theorem dX2_agrees_19 : decode cX2_agrees 19 = .ok (.iadd, 1) := by decide +kernel
theorem dX2_agrees_20 : decode cX2_agrees 20 = .ok (.iaload, 1) := by decide +kernel
theorem dX2_agrees_21 : decode cX2_agrees 21 = .ok (.ishr, 1) := by decide +kernel
theorem dX2_agrees_22 : decode cX2_agrees 22 = .ok (.iload_n 1, 1) := by decide +kernel
theorem dX2_agrees_23 : decode cX2_agrees 23 = .ok (.aload_n 0, 1) := by decide +kernel
theorem dX2_agrees_24 : decode cX2_agrees 24 = .ok (.getfield 15, 3) := by decide +kernel
theorem dX2_agrees_27 : decode cX2_agrees 27 = .ok (.iconst 3, 1) := by decide +kernel
theorem dX2_agrees_28 : decode cX2_agrees 28 = .ok (.iload_n 2, 1) := by decide +kernel
theorem dX2_agrees_29 : decode cX2_agrees 29 = .ok (.imul, 1) := by decide +kernel
theorem dX2_agrees_30 : decode cX2_agrees 30 = .ok (.iconst 2, 1) := by decide +kernel
theorem dX2_agrees_31 : decode cX2_agrees 31 = .ok (.iadd, 1) := by decide +kernel
theorem dX2_agrees_32 : decode cX2_agrees 32 = .ok (.iaload, 1) := by decide +kernel
theorem dX2_agrees_33 : decode cX2_agrees 33 = .ok (.ishr, 1) := by decide +kernel
theorem dX2_agrees_34 : decode cX2_agrees 34 = .ok (.iand, 1) := by decide +kernel
theorem dX2_agrees_35 : decode cX2_agrees 35 = .ok (.iconst 1, 1) := by decide +kernel
theorem dX2_agrees_36 : decode cX2_agrees 36 = .ok (.iand, 1) := by decide +kernel
theorem dX2_agrees_37 : decode cX2_agrees 37 = .ok (.ifCond .eq 7, 3) := by decide +kernel
theorem dX2_agrees_40 : decode cX2_agrees 40 = .ok (.iconst 1, 1) := by decide +kernel
theorem dX2_agrees_41 : decode cX2_agrees 41 = .ok (.goto 4, 3) := by decide +kernel
theorem dX2_agrees_44 : decode cX2_agrees 44 = .ok (.iconst 0, 1) := by decide +kernel
theorem dX2_agrees_45 : decode cX2_agrees 45 = .ok (.istore_n 3, 1) := by decide +kernel
theorem dX2_agrees_46 : decode cX2_agrees 46 = .ok (.iload_n 3, 1) := by decide +kernel
theorem dX2_agrees_47 : decode cX2_agrees 47 = .ok (.aload_n 0, 1) := by decide +kernel
theorem dX2_agrees_48 : decode cX2_agrees 48 = .ok (.getfield 15, 3) := by decide +kernel
theorem dX2_agrees_51 : decode cX2_agrees 51 = .ok (.iconst 3, 1) := by decide +kernel
theorem dX2_agrees_52 : decode cX2_agrees 52 = .ok (.iload_n 2, 1) := by decide +kernel
theorem dX2_agrees_53 : decode cX2_agrees 53 = .ok (.imul, 1) := by decide +kernel
theorem dX2_agrees_54 : decode cX2_agrees 54 = .ok (.iaload, 1) := by decide +kernel
theorem dX2_agrees_55 : decode cX2_agrees 55 = .ok (.ifCond .ne 7, 3) := by decide +kernel
theorem dX2_agrees_58 : decode cX2_agrees 58 = .ok (.iconst 1, 1) := by decide +kernel
theorem dX2_agrees_59 : decode cX2_agrees 59 = .ok (.goto 4, 3) := by decide +kernel
theorem dX2_agrees_62 : decode cX2_agrees 62 = .ok (.iconst 0, 1) := by decide +kernel
theorem dX2_agrees_63 : decode cX2_agrees 63 = .ok (.if_icmp .eq 5, 3) := by decide +kernel
theorem dX2_agrees_66 : decode cX2_agrees 66 = .ok (.iconst 0, 1) := by decide +kernel
theorem dX2_agrees_67 : decode cX2_agrees 67 = .ok (.ireturn, 1) := by decide +kernel
theorem dX2_agrees_68 : decode cX2_agrees 68 = .ok (.iinc 2 1, 3) := by decide +kernel
theorem dX2_agrees_71 : decode cX2_agrees 71 = .ok (.goto (-69), 3) := by decide +kernel
theorem dX2_agrees_74 : decode cX2_agrees 74 = .ok (.iconst 1, 1) := by decide +kernel
theorem dX2_agrees_75 : decode cX2_agrees 75 = .ok (.ireturn, 1) := by decide +kernel
theorem dX3_lowest_0 : decode cX3_lowest 0 = .ok (.lload_n 2, 1) := by decide +kernel
theorem dX3_lowest_1 : decode cX3_lowest 1 = .ok (.lstore 5, 2) := by decide +kernel
theorem dX3_lowest_3 : decode cX3_lowest 3 = .ok (.lload_n 0, 1) := by decide +kernel
theorem dX3_lowest_4 : decode cX3_lowest 4 = .ok (.lstore 7, 2) := by decide +kernel
theorem dX3_lowest_6 : decode cX3_lowest 6 = .ok (.iconst 0, 1) := by decide +kernel
theorem dX3_lowest_7 : decode cX3_lowest 7 = .ok (.istore 9, 2) := by decide +kernel
theorem dX3_lowest_9 : decode cX3_lowest 9 = .ok (.iload 9, 2) := by decide +kernel
theorem dX3_lowest_11 : decode cX3_lowest 11 = .ok (.sipush 200, 3) := by decide +kernel
theorem dX3_lowest_14 : decode cX3_lowest 14 = .ok (.if_icmp .ge 31, 3) := by decide +kernel
theorem dX3_lowest_17 : decode cX3_lowest 17 = .ok (.lload 7, 2) := by decide +kernel
theorem dX3_lowest_19 : decode cX3_lowest 19 = .ok (.lconst 0, 1) := by decide +kernel
theorem dX3_lowest_20 : decode cX3_lowest 20 = .ok (.lcmp, 1) := by decide +kernel
theorem dX3_lowest_21 : decode cX3_lowest 21 = .ok (.ifCond .eq 24, 3) := by decide +kernel
theorem dX3_lowest_24 : decode cX3_lowest 24 = .ok (.lload 5, 2) := by decide +kernel
theorem dX3_lowest_26 : decode cX3_lowest 26 = .ok (.lload 7, 2) := by decide +kernel
theorem dX3_lowest_28 : decode cX3_lowest 28 = .ok (.lrem, 1) := by decide +kernel
theorem dX3_lowest_29 : decode cX3_lowest 29 = .ok (.lstore 10, 2) := by decide +kernel
theorem dX3_lowest_31 : decode cX3_lowest 31 = .ok (.lload 7, 2) := by decide +kernel
theorem dX3_lowest_33 : decode cX3_lowest 33 = .ok (.lstore 5, 2) := by decide +kernel
theorem dX3_lowest_35 : decode cX3_lowest 35 = .ok (.lload 10, 2) := by decide +kernel
theorem dX3_lowest_37 : decode cX3_lowest 37 = .ok (.lstore 7, 2) := by decide +kernel
theorem dX3_lowest_39 : decode cX3_lowest 39 = .ok (.iinc 9 1, 3) := by decide +kernel
theorem dX3_lowest_42 : decode cX3_lowest 42 = .ok (.goto (-33), 3) := by decide +kernel
theorem dX3_lowest_45 : decode cX3_lowest 45 = .ok (.lload 5, 2) := by decide +kernel
theorem dX3_lowest_47 : decode cX3_lowest 47 = .ok (.lconst 0, 1) := by decide +kernel
theorem dX3_lowest_48 : decode cX3_lowest 48 = .ok (.lcmp, 1) := by decide +kernel
theorem dX3_lowest_49 : decode cX3_lowest 49 = .ok (.ifCond .ne 7, 3) := by decide +kernel
theorem dX3_lowest_52 : decode cX3_lowest 52 = .ok (.ldc2_w 9, 3) := by decide +kernel
theorem dX3_lowest_55 : decode cX3_lowest 55 = .ok (.lreturn, 1) := by decide +kernel
theorem dX3_lowest_56 : decode cX3_lowest 56 = .ok (.iload 4, 2) := by decide +kernel
theorem dX3_lowest_58 : decode cX3_lowest 58 = .ok (.ifCond .eq 7, 3) := by decide +kernel
theorem dX3_lowest_61 : decode cX3_lowest 61 = .ok (.lload_n 2, 1) := by decide +kernel
theorem dX3_lowest_62 : decode cX3_lowest 62 = .ok (.goto 4, 3) := by decide +kernel
theorem dX3_lowest_65 : decode cX3_lowest 65 = .ok (.lload_n 0, 1) := by decide +kernel
theorem dX3_lowest_66 : decode cX3_lowest 66 = .ok (.lload 5, 2) := by decide +kernel
theorem dX3_lowest_68 : decode cX3_lowest 68 = .ok (.ldiv, 1) := by decide +kernel
theorem dX3_lowest_69 : decode cX3_lowest 69 = .ok (.lreturn, 1) := by decide +kernel
theorem dX3_ofMeeting_0 : decode cX3_ofMeeting 0 = .ok (.iconst 0, 1) := by decide +kernel
theorem dX3_ofMeeting_1 : decode cX3_ofMeeting 1 = .ok (.istore_n 3, 1) := by decide +kernel
theorem dX3_ofMeeting_2 : decode cX3_ofMeeting 2 = .ok (.iconst 0, 1) := by decide +kernel
theorem dX3_ofMeeting_3 : decode cX3_ofMeeting 3 = .ok (.istore 4, 2) := by decide +kernel
theorem dX3_ofMeeting_5 : decode cX3_ofMeeting 5 = .ok (.iconst 0, 1) := by decide +kernel
theorem dX3_ofMeeting_6 : decode cX3_ofMeeting 6 = .ok (.istore 5, 2) := by decide +kernel
theorem dX3_ofMeeting_8 : decode cX3_ofMeeting 8 = .ok (.iload 5, 2) := by decide +kernel
theorem dX3_ofMeeting_10 : decode cX3_ofMeeting 10 = .ok (.aload_n 0, 1) := by decide +kernel
theorem dX3_ofMeeting_11 : decode cX3_ofMeeting 11 = .ok (.getfield 11, 3) := by decide +kernel
theorem dX3_ofMeeting_14 : decode cX3_ofMeeting 14 = .ok (.if_icmp .ge 74, 3) := by decide +kernel
theorem dX3_ofMeeting_17 : decode cX3_ofMeeting 17 = .ok (.iload 5, 2) := by decide +kernel
theorem dX3_ofMeeting_19 : decode cX3_ofMeeting 19 = .ok (.iconst 1, 1) := by decide +kernel
theorem dX3_ofMeeting_20 : decode cX3_ofMeeting 20 = .ok (.iadd, 1) := by decide +kernel
theorem dX3_ofMeeting_21 : decode cX3_ofMeeting 21 = .ok (.istore 6, 2) := by decide +kernel
theorem dX3_ofMeeting_23 : decode cX3_ofMeeting 23 = .ok (.iload 6, 2) := by decide +kernel
theorem dX3_ofMeeting_25 : decode cX3_ofMeeting 25 = .ok (.aload_n 0, 1) := by decide +kernel
theorem dX3_ofMeeting_26 : decode cX3_ofMeeting 26 = .ok (.getfield 11, 3) := by decide +kernel
theorem dX3_ofMeeting_29 : decode cX3_ofMeeting 29 = .ok (.if_icmp .ge 53, 3) := by decide +kernel
theorem dX3_ofMeeting_32 : decode cX3_ofMeeting 32 = .ok (.iinc 3 1, 3) := by decide +kernel
theorem dX3_ofMeeting_35 : decode cX3_ofMeeting 35 = .ok (.iload_n 1, 1) := by decide +kernel
theorem dX3_ofMeeting_36 : decode cX3_ofMeeting 36 = .ok (.ifCond .eq 26, 3) := by decide +kernel
theorem dX3_ofMeeting_39 : decode cX3_ofMeeting 39 = .ok (.aload_n 0, 1) := by decide +kernel
theorem dX3_ofMeeting_40 : decode cX3_ofMeeting 40 = .ok (.iload 5, 2) := by decide +kernel
theorem dX3_ofMeeting_42 : decode cX3_ofMeeting 42 = .ok (.iload 6, 2) := by decide +kernel
theorem dX3_ofMeeting_44 : decode cX3_ofMeeting 44 = .ok (.invokevirtual 17, 3) := by decide +kernel
theorem dX3_ofMeeting_47 : decode cX3_ofMeeting 47 = .ok (.aload_n 0, 1) := by decide +kernel
theorem dX3_ofMeeting_48 : decode cX3_ofMeeting 48 = .ok (.iload 6, 2) := by decide +kernel
theorem dX3_ofMeeting_50 : decode cX3_ofMeeting 50 = .ok (.iload 5, 2) := by decide +kernel
theorem dX3_ofMeeting_52 : decode cX3_ofMeeting 52 = .ok (.invokevirtual 17, 3) := by decide +kernel
theorem dX3_ofMeeting_55 : decode cX3_ofMeeting 55 = .ok (.iadd, 1) := by decide +kernel
theorem dX3_ofMeeting_56 : decode cX3_ofMeeting 56 = .ok (.ifCond .le 20, 3) := by decide +kernel
theorem dX3_ofMeeting_59 : decode cX3_ofMeeting 59 = .ok (.goto 14, 3) := by decide +kernel
theorem dX3_ofMeeting_62 : decode cX3_ofMeeting 62 = .ok (.aload_n 0, 1) := by decide +kernel
theorem dX3_ofMeeting_63 : decode cX3_ofMeeting 63 = .ok (.iload 5, 2) := by decide +kernel
theorem dX3_ofMeeting_65 : decode cX3_ofMeeting 65 = .ok (.iload 6, 2) := by decide +kernel
theorem dX3_ofMeeting_67 : decode cX3_ofMeeting 67 = .ok (.invokevirtual 21, 3) := by decide +kernel
theorem dX3_ofMeeting_70 : decode cX3_ofMeeting 70 = .ok (.ifCond .eq 6, 3) := by decide +kernel
theorem dX3_ofMeeting_73 : decode cX3_ofMeeting 73 = .ok (.iinc 4 1, 3) := by decide +kernel
theorem dX3_ofMeeting_76 : decode cX3_ofMeeting 76 = .ok (.iinc 6 1, 3) := by decide +kernel
theorem dX3_ofMeeting_79 : decode cX3_ofMeeting 79 = .ok (.goto (-56), 3) := by decide +kernel
theorem dX3_ofMeeting_82 : decode cX3_ofMeeting 82 = .ok (.iinc 5 1, 3) := by decide +kernel
theorem dX3_ofMeeting_85 : decode cX3_ofMeeting 85 = .ok (.goto (-77), 3) := by decide +kernel
theorem dX3_ofMeeting_88 : decode cX3_ofMeeting 88 = .ok (.iload 4, 2) := by decide +kernel
theorem dX3_ofMeeting_90 : decode cX3_ofMeeting 90 = .ok (.i2l, 1) := by decide +kernel
theorem dX3_ofMeeting_91 : decode cX3_ofMeeting 91 = .ok (.iload_n 3, 1) := by decide +kernel
theorem dX3_ofMeeting_92 : decode cX3_ofMeeting 92 = .ok (.i2l, 1) := by decide +kernel
theorem dX3_ofMeeting_93 : decode cX3_ofMeeting 93 = .ok (.iload_n 2, 1) := by decide +kernel
theorem dX3_ofMeeting_94 : decode cX3_ofMeeting 94 = .ok (.invokestatic 25, 3) := by decide +kernel
theorem dX3_ofMeeting_97 : decode cX3_ofMeeting 97 = .ok (.lreturn, 1) := by decide +kernel
theorem dX3_ofGuest_0 : decode cX3_ofGuest 0 = .ok (.iconst 0, 1) := by decide +kernel
theorem dX3_ofGuest_1 : decode cX3_ofGuest 1 = .ok (.istore_n 3, 1) := by decide +kernel
theorem dX3_ofGuest_2 : decode cX3_ofGuest 2 = .ok (.iconst 0, 1) := by decide +kernel
theorem dX3_ofGuest_3 : decode cX3_ofGuest 3 = .ok (.istore 4, 2) := by decide +kernel
theorem dX3_ofGuest_5 : decode cX3_ofGuest 5 = .ok (.iload 4, 2) := by decide +kernel
theorem dX3_ofGuest_7 : decode cX3_ofGuest 7 = .ok (.aload_n 0, 1) := by decide +kernel
theorem dX3_ofGuest_8 : decode cX3_ofGuest 8 = .ok (.getfield 11, 3) := by decide +kernel
theorem dX3_ofGuest_11 : decode cX3_ofGuest 11 = .ok (.if_icmp .ge 23, 3) := by decide +kernel
theorem dX3_ofGuest_14 : decode cX3_ofGuest 14 = .ok (.aload_n 0, 1) := by decide +kernel
theorem dX3_ofGuest_15 : decode cX3_ofGuest 15 = .ok (.getfield 31, 3) := by decide +kernel
theorem dX3_ofGuest_18 : decode cX3_ofGuest 18 = .ok (.iload 4, 2) := by decide +kernel
theorem dX3_ofGuest_20 : decode cX3_ofGuest 20 = .ok (.iaload, 1) := by decide +kernel
theorem dX3_ofGuest_21 : decode cX3_ofGuest 21 = .ok (.iload_n 1, 1) := by decide +kernel
theorem dX3_ofGuest_22 : decode cX3_ofGuest 22 = .ok (.if_icmp .lt 6, 3) := by decide +kernel
theorem dX3_ofGuest_25 : decode cX3_ofGuest 25 = .ok (.iinc 3 1, 3) := by decide +kernel
theorem dX3_ofGuest_28 : decode cX3_ofGuest 28 = .ok (.iinc 4 1, 3) := by decide +kernel
theorem dX3_ofGuest_31 : decode cX3_ofGuest 31 = .ok (.goto (-26), 3) := by decide +kernel
theorem dX3_ofGuest_34 : decode cX3_ofGuest 34 = .ok (.iload_n 3, 1) := by decide +kernel
theorem dX3_ofGuest_35 : decode cX3_ofGuest 35 = .ok (.i2l, 1) := by decide +kernel
theorem dX3_ofGuest_36 : decode cX3_ofGuest 36 = .ok (.aload_n 0, 1) := by decide +kernel
theorem dX3_ofGuest_37 : decode cX3_ofGuest 37 = .ok (.getfield 11, 3) := by decide +kernel
theorem dX3_ofGuest_40 : decode cX3_ofGuest 40 = .ok (.i2l, 1) := by decide +kernel
theorem dX3_ofGuest_41 : decode cX3_ofGuest 41 = .ok (.iload_n 2, 1) := by decide +kernel
theorem dX3_ofGuest_42 : decode cX3_ofGuest 42 = .ok (.invokestatic 25, 3) := by decide +kernel
theorem dX3_ofGuest_45 : decode cX3_ofGuest 45 = .ok (.lreturn, 1) := by decide +kernel
theorem dX0_hardestCourt_0 : decode cX0_hardestCourt 0 = .ok (.iconst 0, 1) := by decide +kernel
theorem dX0_hardestCourt_1 : decode cX0_hardestCourt 1 = .ok (.istore_n 3, 1) := by decide +kernel
theorem dX0_hardestCourt_2 : decode cX0_hardestCourt 2 = .ok (.iconst 0, 1) := by decide +kernel
theorem dX0_hardestCourt_3 : decode cX0_hardestCourt 3 = .ok (.istore 4, 2) := by decide +kernel
theorem dX0_hardestCourt_5 : decode cX0_hardestCourt 5 = .ok (.iconst 1, 1) := by decide +kernel
theorem dX0_hardestCourt_6 : decode cX0_hardestCourt 6 = .ok (.istore 5, 2) := by decide +kernel
theorem dX0_hardestCourt_8 : decode cX0_hardestCourt 8 = .ok (.iload 5, 2) := by decide +kernel
theorem dX0_hardestCourt_10 : decode cX0_hardestCourt 10 = .ok (.iconst 1, 1) := by decide +kernel
theorem dX0_hardestCourt_11 : decode cX0_hardestCourt 11 = .ok (.aload_n 0, 1) := by decide +kernel
theorem dX0_hardestCourt_12 : decode cX0_hardestCourt 12 = .ok (.getfield 9, 3) := by decide +kernel
theorem dX0_hardestCourt_15 : decode cX0_hardestCourt 15 = .ok (.ishl, 1) := by decide +kernel
theorem dX0_hardestCourt_16 : decode cX0_hardestCourt 16 = .ok (.if_icmp .ge 44, 3) := by decide +kernel
theorem dX0_hardestCourt_19 : decode cX0_hardestCourt 19 = .ok (.aload_n 0, 1) := by decide +kernel
theorem dX0_hardestCourt_20 : decode cX0_hardestCourt 20 = .ok (.iload 5, 2) := by decide +kernel
theorem dX0_hardestCourt_22 : decode cX0_hardestCourt 22 = .ok (.invokevirtual 15, 3) := by decide +kernel
theorem dX0_hardestCourt_25 : decode cX0_hardestCourt 25 = .ok (.ifCond .eq 13, 3) := by decide +kernel
theorem dX0_hardestCourt_28 : decode cX0_hardestCourt 28 = .ok (.aload_n 0, 1) := by decide +kernel
theorem dX0_hardestCourt_29 : decode cX0_hardestCourt 29 = .ok (.iload_n 1, 1) := by decide +kernel
theorem dX0_hardestCourt_30 : decode cX0_hardestCourt 30 = .ok (.iload 5, 2) := by decide +kernel
theorem dX0_hardestCourt_32 : decode cX0_hardestCourt 32 = .ok (.invokestatic 19, 3) := by decide +kernel
theorem dX0_hardestCourt_35 : decode cX0_hardestCourt 35 = .ok (.goto 4, 3) := by decide +kernel
theorem dX0_hardestCourt_38 : decode cX0_hardestCourt 38 = .ok (.iconst 0, 1) := by decide +kernel
theorem dX0_hardestCourt_39 : decode cX0_hardestCourt 39 = .ok (.istore 6, 2) := by decide +kernel
theorem dX0_hardestCourt_41 : decode cX0_hardestCourt 41 = .ok (.iload 6, 2) := by decide +kernel
theorem dX0_hardestCourt_43 : decode cX0_hardestCourt 43 = .ok (.iload_n 3, 1) := by decide +kernel
theorem dX0_hardestCourt_44 : decode cX0_hardestCourt 44 = .ok (.if_icmp .le 10, 3) := by decide +kernel
theorem dX0_hardestCourt_47 : decode cX0_hardestCourt 47 = .ok (.iload 6, 2) := by decide +kernel
theorem dX0_hardestCourt_49 : decode cX0_hardestCourt 49 = .ok (.istore_n 3, 1) := by decide +kernel
theorem dX0_hardestCourt_50 : decode cX0_hardestCourt 50 = .ok (.iload 5, 2) := by decide +kernel
theorem dX0_hardestCourt_52 : decode cX0_hardestCourt 52 = .ok (.istore 4, 2) := by decide +kernel
theorem dX0_hardestCourt_54 : decode cX0_hardestCourt 54 = .ok (.iinc 5 1, 3) := by decide +kernel
theorem dX0_hardestCourt_57 : decode cX0_hardestCourt 57 = .ok (.goto (-49), 3) := by decide +kernel
theorem dX0_hardestCourt_60 : decode cX0_hardestCourt 60 = .ok (.iload_n 2, 1) := by decide +kernel
theorem dX0_hardestCourt_61 : decode cX0_hardestCourt 61 = .ok (.ifCond .eq 8, 3) := by decide +kernel
theorem dX0_hardestCourt_64 : decode cX0_hardestCourt 64 = .ok (.iload 4, 2) := by decide +kernel
theorem dX0_hardestCourt_66 : decode cX0_hardestCourt 66 = .ok (.goto 4, 3) := by decide +kernel
theorem dX0_hardestCourt_69 : decode cX0_hardestCourt 69 = .ok (.iload_n 3, 1) := by decide +kernel
theorem dX0_hardestCourt_70 : decode cX0_hardestCourt 70 = .ok (.ireturn, 1) := by decide +kernel
theorem dX0_owesTo_0 : decode cX0_owesTo 0 = .ok (.iconst 0, 1) := by decide +kernel
theorem dX0_owesTo_1 : decode cX0_owesTo 1 = .ok (.istore_n 3, 1) := by decide +kernel
theorem dX0_owesTo_2 : decode cX0_owesTo 2 = .ok (.iconst 0, 1) := by decide +kernel
theorem dX0_owesTo_3 : decode cX0_owesTo 3 = .ok (.istore 4, 2) := by decide +kernel
theorem dX0_owesTo_5 : decode cX0_owesTo 5 = .ok (.iload 4, 2) := by decide +kernel
theorem dX0_owesTo_7 : decode cX0_owesTo 7 = .ok (.aload_n 0, 1) := by decide +kernel
theorem dX0_owesTo_8 : decode cX0_owesTo 8 = .ok (.getfield 9, 3) := by decide +kernel
theorem dX0_owesTo_11 : decode cX0_owesTo 11 = .ok (.if_icmp .ge 28, 3) := by decide +kernel
theorem dX0_owesTo_14 : decode cX0_owesTo 14 = .ok (.iload_n 2, 1) := by decide +kernel
theorem dX0_owesTo_15 : decode cX0_owesTo 15 = .ok (.iload 4, 2) := by decide +kernel
theorem dX0_owesTo_17 : decode cX0_owesTo 17 = .ok (.ishr, 1) := by decide +kernel
theorem dX0_owesTo_18 : decode cX0_owesTo 18 = .ok (.iconst 1, 1) := by decide +kernel
theorem dX0_owesTo_19 : decode cX0_owesTo 19 = .ok (.iand, 1) := by decide +kernel
theorem dX0_owesTo_20 : decode cX0_owesTo 20 = .ok (.ifCond .eq 13, 3) := by decide +kernel
theorem dX0_owesTo_23 : decode cX0_owesTo 23 = .ok (.iload_n 3, 1) := by decide +kernel
theorem dX0_owesTo_24 : decode cX0_owesTo 24 = .ok (.aload_n 0, 1) := by decide +kernel
theorem dX0_owesTo_25 : decode cX0_owesTo 25 = .ok (.iload_n 1, 1) := by decide +kernel
theorem dX0_owesTo_26 : decode cX0_owesTo 26 = .ok (.iload 4, 2) := by decide +kernel
theorem dX0_owesTo_28 : decode cX0_owesTo 28 = .ok (.invokevirtual 25, 3) := by decide +kernel
theorem dX0_owesTo_31 : decode cX0_owesTo 31 = .ok (.iadd, 1) := by decide +kernel
theorem dX0_owesTo_32 : decode cX0_owesTo 32 = .ok (.istore_n 3, 1) := by decide +kernel
theorem dX0_owesTo_33 : decode cX0_owesTo 33 = .ok (.iinc 4 1, 3) := by decide +kernel
theorem dX0_owesTo_36 : decode cX0_owesTo 36 = .ok (.goto (-31), 3) := by decide +kernel
theorem dX0_owesTo_39 : decode cX0_owesTo 39 = .ok (.iload_n 3, 1) := by decide +kernel
theorem dX0_owesTo_40 : decode cX0_owesTo 40 = .ok (.ireturn, 1) := by decide +kernel
theorem dX0_longestRota_0 : decode cX0_longestRota 0 = .ok (.iconst (-1), 1) := by decide +kernel
theorem dX0_longestRota_1 : decode cX0_longestRota 1 = .ok (.istore_n 2, 1) := by decide +kernel
theorem dX0_longestRota_2 : decode cX0_longestRota 2 = .ok (.iconst (-1), 1) := by decide +kernel
theorem dX0_longestRota_3 : decode cX0_longestRota 3 = .ok (.istore_n 3, 1) := by decide +kernel
theorem dX0_longestRota_4 : decode cX0_longestRota 4 = .ok (.iconst 0, 1) := by decide +kernel
theorem dX0_longestRota_5 : decode cX0_longestRota 5 = .ok (.istore 4, 2) := by decide +kernel
theorem dX0_longestRota_7 : decode cX0_longestRota 7 = .ok (.iload 4, 2) := by decide +kernel
theorem dX0_longestRota_9 : decode cX0_longestRota 9 = .ok (.aload_n 0, 1) := by decide +kernel
theorem dX0_longestRota_10 : decode cX0_longestRota 10 = .ok (.getfield 9, 3) := by decide +kernel
theorem dX0_longestRota_13 : decode cX0_longestRota 13 = .ok (.if_icmp .ge 29, 3) := by decide +kernel
theorem dX0_longestRota_16 : decode cX0_longestRota 16 = .ok (.aload_n 0, 1) := by decide +kernel
theorem dX0_longestRota_17 : decode cX0_longestRota 17 = .ok (.iload 4, 2) := by decide +kernel
theorem dX0_longestRota_19 : decode cX0_longestRota 19 = .ok (.invokevirtual 29, 3) := by decide +kernel
theorem dX0_longestRota_22 : decode cX0_longestRota 22 = .ok (.istore 5, 2) := by decide +kernel
theorem dX0_longestRota_24 : decode cX0_longestRota 24 = .ok (.iload 5, 2) := by decide +kernel
theorem dX0_longestRota_26 : decode cX0_longestRota 26 = .ok (.iload_n 2, 1) := by decide +kernel
theorem dX0_longestRota_27 : decode cX0_longestRota 27 = .ok (.if_icmp .le 9, 3) := by decide +kernel
theorem dX0_longestRota_30 : decode cX0_longestRota 30 = .ok (.iload 5, 2) := by decide +kernel
theorem dX0_longestRota_32 : decode cX0_longestRota 32 = .ok (.istore_n 2, 1) := by decide +kernel
theorem dX0_longestRota_33 : decode cX0_longestRota 33 = .ok (.iload 4, 2) := by decide +kernel
theorem dX0_longestRota_35 : decode cX0_longestRota 35 = .ok (.istore_n 3, 1) := by decide +kernel
theorem dX0_longestRota_36 : decode cX0_longestRota 36 = .ok (.iinc 4 1, 3) := by decide +kernel
theorem dX0_longestRota_39 : decode cX0_longestRota 39 = .ok (.goto (-32), 3) := by decide +kernel
theorem dX0_longestRota_42 : decode cX0_longestRota 42 = .ok (.iload_n 1, 1) := by decide +kernel
theorem dX0_longestRota_43 : decode cX0_longestRota 43 = .ok (.ifCond .eq 7, 3) := by decide +kernel
theorem dX0_longestRota_46 : decode cX0_longestRota 46 = .ok (.iload_n 3, 1) := by decide +kernel
theorem dX0_longestRota_47 : decode cX0_longestRota 47 = .ok (.goto 8, 3) := by decide +kernel
theorem dX0_longestRota_50 : decode cX0_longestRota 50 = .ok (.iconst 0, 1) := by decide +kernel
theorem dX0_longestRota_51 : decode cX0_longestRota 51 = .ok (.iload_n 2, 1) := by decide +kernel
theorem dX0_longestRota_52 : decode cX0_longestRota 52 = .ok (.invokestatic 33, 3) := by decide +kernel
theorem dX0_longestRota_55 : decode cX0_longestRota 55 = .ok (.ireturn, 1) := by decide +kernel
theorem dX0_ruinedBy_0 : decode cX0_ruinedBy 0 = .ok (.iconst 1, 1) := by decide +kernel
theorem dX0_ruinedBy_1 : decode cX0_ruinedBy 1 = .ok (.iload_n 1, 1) := by decide +kernel
theorem dX0_ruinedBy_2 : decode cX0_ruinedBy 2 = .ok (.ishl, 1) := by decide +kernel
theorem dX0_ruinedBy_3 : decode cX0_ruinedBy 3 = .ok (.istore_n 2, 1) := by decide +kernel
theorem dX0_ruinedBy_4 : decode cX0_ruinedBy 4 = .ok (.iconst 0, 1) := by decide +kernel
theorem dX0_ruinedBy_5 : decode cX0_ruinedBy 5 = .ok (.istore_n 3, 1) := by decide +kernel
theorem dX0_ruinedBy_6 : decode cX0_ruinedBy 6 = .ok (.iload_n 3, 1) := by decide +kernel
theorem dX0_ruinedBy_7 : decode cX0_ruinedBy 7 = .ok (.aload_n 0, 1) := by decide +kernel
theorem dX0_ruinedBy_8 : decode cX0_ruinedBy 8 = .ok (.getfield 9, 3) := by decide +kernel
theorem dX0_ruinedBy_11 : decode cX0_ruinedBy 11 = .ok (.if_icmp .ge 70, 3) := by decide +kernel
theorem dX0_ruinedBy_14 : decode cX0_ruinedBy 14 = .ok (.iload_n 2, 1) := by decide +kernel
theorem dX0_ruinedBy_15 : decode cX0_ruinedBy 15 = .ok (.istore 4, 2) := by decide +kernel
theorem dX0_ruinedBy_17 : decode cX0_ruinedBy 17 = .ok (.iconst 0, 1) := by decide +kernel
theorem dX0_ruinedBy_18 : decode cX0_ruinedBy 18 = .ok (.istore 5, 2) := by decide +kernel
theorem dX0_ruinedBy_20 : decode cX0_ruinedBy 20 = .ok (.iload 5, 2) := by decide +kernel
theorem dX0_ruinedBy_22 : decode cX0_ruinedBy 22 = .ok (.aload_n 0, 1) := by decide +kernel
theorem dX0_ruinedBy_23 : decode cX0_ruinedBy 23 = .ok (.getfield 9, 3) := by decide +kernel
theorem dX0_ruinedBy_26 : decode cX0_ruinedBy 26 = .ok (.if_icmp .ge 40, 3) := by decide +kernel
theorem dX0_ruinedBy_29 : decode cX0_ruinedBy 29 = .ok (.aload_n 0, 1) := by decide +kernel
theorem dX0_ruinedBy_30 : decode cX0_ruinedBy 30 = .ok (.iload 5, 2) := by decide +kernel
theorem dX0_ruinedBy_32 : decode cX0_ruinedBy 32 = .ok (.invokevirtual 38, 3) := by decide +kernel
theorem dX0_ruinedBy_35 : decode cX0_ruinedBy 35 = .ok (.aload_n 0, 1) := by decide +kernel
theorem dX0_ruinedBy_36 : decode cX0_ruinedBy 36 = .ok (.getfield 41, 3) := by decide +kernel
theorem dX0_ruinedBy_39 : decode cX0_ruinedBy 39 = .ok (.iload 5, 2) := by decide +kernel
theorem dX0_ruinedBy_41 : decode cX0_ruinedBy 41 = .ok (.iaload, 1) := by decide +kernel
theorem dX0_ruinedBy_42 : decode cX0_ruinedBy 42 = .ok (.aload_n 0, 1) := by decide +kernel
theorem dX0_ruinedBy_43 : decode cX0_ruinedBy 43 = .ok (.iload 5, 2) := by decide +kernel
theorem dX0_ruinedBy_45 : decode cX0_ruinedBy 45 = .ok (.iload_n 2, 1) := by decide +kernel
theorem dX0_ruinedBy_46 : decode cX0_ruinedBy 46 = .ok (.invokestatic 45, 3) := by decide +kernel
theorem dX0_ruinedBy_49 : decode cX0_ruinedBy 49 = .ok (.iadd, 1) := by decide +kernel
theorem dX0_ruinedBy_50 : decode cX0_ruinedBy 50 = .ok (.if_icmp .le 10, 3) := by decide +kernel
theorem dX0_ruinedBy_53 : decode cX0_ruinedBy 53 = .ok (.iload_n 2, 1) := by decide +kernel
theorem dX0_ruinedBy_54 : decode cX0_ruinedBy 54 = .ok (.iconst 1, 1) := by decide +kernel
theorem dX0_ruinedBy_55 : decode cX0_ruinedBy 55 = .ok (.iload 5, 2) := by decide +kernel
theorem dX0_ruinedBy_57 : decode cX0_ruinedBy 57 = .ok (.ishl, 1) := by decide +kernel
theorem dX0_ruinedBy_58 : decode cX0_ruinedBy 58 = .ok (.ior, 1) := by decide +kernel
theorem dX0_ruinedBy_59 : decode cX0_ruinedBy 59 = .ok (.istore_n 2, 1) := by decide +kernel
theorem dX0_ruinedBy_60 : decode cX0_ruinedBy 60 = .ok (.iinc 5 1, 3) := by decide +kernel
theorem dX0_ruinedBy_63 : decode cX0_ruinedBy 63 = .ok (.goto (-43), 3) := by decide +kernel
theorem dX0_ruinedBy_66 : decode cX0_ruinedBy 66 = .ok (.iload_n 2, 1) := by decide +kernel
theorem dX0_ruinedBy_67 : decode cX0_ruinedBy 67 = .ok (.iload 4, 2) := by decide +kernel
theorem dX0_ruinedBy_69 : decode cX0_ruinedBy 69 = .ok (.if_icmp .ne 6, 3) := by decide +kernel
theorem dX0_ruinedBy_72 : decode cX0_ruinedBy 72 = .ok (.goto 9, 3) := by decide +kernel
theorem dX0_ruinedBy_75 : decode cX0_ruinedBy 75 = .ok (.iinc 3 1, 3) := by decide +kernel
theorem dX0_ruinedBy_78 : decode cX0_ruinedBy 78 = .ok (.goto (-72), 3) := by decide +kernel
theorem dX0_ruinedBy_81 : decode cX0_ruinedBy 81 = .ok (.iload_n 2, 1) := by decide +kernel
theorem dX0_ruinedBy_82 : decode cX0_ruinedBy 82 = .ok (.ireturn, 1) := by decide +kernel
theorem dX0_stillOwedTo_0 : decode cX0_stillOwedTo 0 = .ok (.iconst 0, 1) := by decide +kernel
theorem dX0_stillOwedTo_1 : decode cX0_stillOwedTo 1 = .ok (.istore_n 3, 1) := by decide +kernel
theorem dX0_stillOwedTo_2 : decode cX0_stillOwedTo 2 = .ok (.iconst 0, 1) := by decide +kernel
theorem dX0_stillOwedTo_3 : decode cX0_stillOwedTo 3 = .ok (.istore 4, 2) := by decide +kernel
theorem dX0_stillOwedTo_5 : decode cX0_stillOwedTo 5 = .ok (.iload 4, 2) := by decide +kernel
theorem dX0_stillOwedTo_7 : decode cX0_stillOwedTo 7 = .ok (.aload_n 0, 1) := by decide +kernel
theorem dX0_stillOwedTo_8 : decode cX0_stillOwedTo 8 = .ok (.getfield 9, 3) := by decide +kernel
theorem dX0_stillOwedTo_11 : decode cX0_stillOwedTo 11 = .ok (.if_icmp .ge 28, 3) := by decide +kernel
theorem dX0_stillOwedTo_14 : decode cX0_stillOwedTo 14 = .ok (.iload_n 2, 1) := by decide +kernel
theorem dX0_stillOwedTo_15 : decode cX0_stillOwedTo 15 = .ok (.iload 4, 2) := by decide +kernel
theorem dX0_stillOwedTo_17 : decode cX0_stillOwedTo 17 = .ok (.ishr, 1) := by decide +kernel
theorem dX0_stillOwedTo_18 : decode cX0_stillOwedTo 18 = .ok (.iconst 1, 1) := by decide +kernel
theorem dX0_stillOwedTo_19 : decode cX0_stillOwedTo 19 = .ok (.iand, 1) := by decide +kernel
theorem dX0_stillOwedTo_20 : decode cX0_stillOwedTo 20 = .ok (.ifCond .ne 13, 3) := by decide +kernel
theorem dX0_stillOwedTo_23 : decode cX0_stillOwedTo 23 = .ok (.iload_n 3, 1) := by decide +kernel
theorem dX0_stillOwedTo_24 : decode cX0_stillOwedTo 24 = .ok (.aload_n 0, 1) := by decide +kernel
theorem dX0_stillOwedTo_25 : decode cX0_stillOwedTo 25 = .ok (.iload 4, 2) := by decide +kernel
theorem dX0_stillOwedTo_27 : decode cX0_stillOwedTo 27 = .ok (.iload_n 1, 1) := by decide +kernel
theorem dX0_stillOwedTo_28 : decode cX0_stillOwedTo 28 = .ok (.invokevirtual 25, 3) := by decide +kernel
theorem dX0_stillOwedTo_31 : decode cX0_stillOwedTo 31 = .ok (.iadd, 1) := by decide +kernel
theorem dX0_stillOwedTo_32 : decode cX0_stillOwedTo 32 = .ok (.istore_n 3, 1) := by decide +kernel
theorem dX0_stillOwedTo_33 : decode cX0_stillOwedTo 33 = .ok (.iinc 4 1, 3) := by decide +kernel
theorem dX0_stillOwedTo_36 : decode cX0_stillOwedTo 36 = .ok (.goto (-31), 3) := by decide +kernel
theorem dX0_stillOwedTo_39 : decode cX0_stillOwedTo 39 = .ok (.iload_n 3, 1) := by decide +kernel
theorem dX0_stillOwedTo_40 : decode cX0_stillOwedTo 40 = .ok (.ireturn, 1) := by decide +kernel
theorem dX0_forgivenDownTo_0 : decode cX0_forgivenDownTo 0 = .ok (.iconst 0, 1) := by decide +kernel
theorem dX0_forgivenDownTo_1 : decode cX0_forgivenDownTo 1 = .ok (.istore_n 2, 1) := by decide +kernel
theorem dX0_forgivenDownTo_2 : decode cX0_forgivenDownTo 2 = .ok (.iconst 0, 1) := by decide +kernel
theorem dX0_forgivenDownTo_3 : decode cX0_forgivenDownTo 3 = .ok (.istore_n 3, 1) := by decide +kernel
theorem dX0_forgivenDownTo_4 : decode cX0_forgivenDownTo 4 = .ok (.iload_n 3, 1) := by decide +kernel
theorem dX0_forgivenDownTo_5 : decode cX0_forgivenDownTo 5 = .ok (.aload_n 0, 1) := by decide +kernel
theorem dX0_forgivenDownTo_6 : decode cX0_forgivenDownTo 6 = .ok (.getfield 9, 3) := by decide +kernel
theorem dX0_forgivenDownTo_9 : decode cX0_forgivenDownTo 9 = .ok (.if_icmp .ge 23, 3) := by decide +kernel
theorem dX0_forgivenDownTo_12 : decode cX0_forgivenDownTo 12 = .ok (.iload_n 2, 1) := by decide +kernel
theorem dX0_forgivenDownTo_13 : decode cX0_forgivenDownTo 13 = .ok (.iconst 0, 1) := by decide +kernel
theorem dX0_forgivenDownTo_14 : decode cX0_forgivenDownTo 14 = .ok (.aload_n 0, 1) := by decide +kernel
theorem dX0_forgivenDownTo_15 : decode cX0_forgivenDownTo 15 = .ok (.iload_n 3, 1) := by decide +kernel
theorem dX0_forgivenDownTo_16 : decode cX0_forgivenDownTo 16 = .ok (.invokevirtual 38, 3) := by decide +kernel
theorem dX0_forgivenDownTo_19 : decode cX0_forgivenDownTo 19 = .ok (.iload_n 1, 1) := by decide +kernel
theorem dX0_forgivenDownTo_20 : decode cX0_forgivenDownTo 20 = .ok (.isub, 1) := by decide +kernel
theorem dX0_forgivenDownTo_21 : decode cX0_forgivenDownTo 21 = .ok (.invokestatic 33, 3) := by decide +kernel
theorem dX0_forgivenDownTo_24 : decode cX0_forgivenDownTo 24 = .ok (.iadd, 1) := by decide +kernel
theorem dX0_forgivenDownTo_25 : decode cX0_forgivenDownTo 25 = .ok (.istore_n 2, 1) := by decide +kernel
theorem dX0_forgivenDownTo_26 : decode cX0_forgivenDownTo 26 = .ok (.iinc 3 1, 3) := by decide +kernel
theorem dX0_forgivenDownTo_29 : decode cX0_forgivenDownTo 29 = .ok (.goto (-25), 3) := by decide +kernel
theorem dX0_forgivenDownTo_32 : decode cX0_forgivenDownTo 32 = .ok (.iload_n 2, 1) := by decide +kernel
theorem dX0_forgivenDownTo_33 : decode cX0_forgivenDownTo 33 = .ok (.ireturn, 1) := by decide +kernel
theorem dX0_tellOfTown_0 : decode cX0_tellOfTown 0 = .ok (.iload_n 1, 1) := by decide +kernel
theorem dX0_tellOfTown_1 : decode cX0_tellOfTown 1 = .ok (.tableswitch 60 0 4 #[35, 40, 45, 50, 55], 35) := by decide +kernel
theorem dX0_tellOfTown_36 : decode cX0_tellOfTown 36 = .ok (.aload_n 0, 1) := by decide +kernel
theorem dX0_tellOfTown_37 : decode cX0_tellOfTown 37 = .ok (.invokestatic 48, 3) := by decide +kernel
theorem dX0_tellOfTown_40 : decode cX0_tellOfTown 40 = .ok (.ireturn, 1) := by decide +kernel
theorem dX0_tellOfTown_41 : decode cX0_tellOfTown 41 = .ok (.aload_n 0, 1) := by decide +kernel
theorem dX0_tellOfTown_42 : decode cX0_tellOfTown 42 = .ok (.invokestatic 52, 3) := by decide +kernel
theorem dX0_tellOfTown_45 : decode cX0_tellOfTown 45 = .ok (.ireturn, 1) := by decide +kernel
theorem dX0_tellOfTown_46 : decode cX0_tellOfTown 46 = .ok (.aload_n 0, 1) := by decide +kernel
theorem dX0_tellOfTown_47 : decode cX0_tellOfTown 47 = .ok (.invokestatic 55, 3) := by decide +kernel
theorem dX0_tellOfTown_50 : decode cX0_tellOfTown 50 = .ok (.ireturn, 1) := by decide +kernel
theorem dX0_tellOfTown_51 : decode cX0_tellOfTown 51 = .ok (.aload_n 0, 1) := by decide +kernel
theorem dX0_tellOfTown_52 : decode cX0_tellOfTown 52 = .ok (.invokestatic 58, 3) := by decide +kernel
theorem dX0_tellOfTown_55 : decode cX0_tellOfTown 55 = .ok (.ireturn, 1) := by decide +kernel
theorem dX0_tellOfTown_56 : decode cX0_tellOfTown 56 = .ok (.aload_n 0, 1) := by decide +kernel
theorem dX0_tellOfTown_57 : decode cX0_tellOfTown 57 = .ok (.invokestatic 61, 3) := by decide +kernel
theorem dX0_tellOfTown_60 : decode cX0_tellOfTown 60 = .ok (.ireturn, 1) := by decide +kernel
theorem dX0_tellOfTown_61 : decode cX0_tellOfTown 61 = .ok (.bipush (-2), 2) := by decide +kernel
theorem dX0_tellOfTown_63 : decode cX0_tellOfTown 63 = .ok (.ireturn, 1) := by decide +kernel
theorem dX0_mutual_0 : decode cX0_mutual 0 = .ok (.iconst 0, 1) := by decide +kernel
theorem dX0_mutual_1 : decode cX0_mutual 1 = .ok (.istore_n 1, 1) := by decide +kernel
theorem dX0_mutual_2 : decode cX0_mutual 2 = .ok (.iconst 0, 1) := by decide +kernel
theorem dX0_mutual_3 : decode cX0_mutual 3 = .ok (.istore_n 2, 1) := by decide +kernel
theorem dX0_mutual_4 : decode cX0_mutual 4 = .ok (.iload_n 2, 1) := by decide +kernel
theorem dX0_mutual_5 : decode cX0_mutual 5 = .ok (.aload_n 0, 1) := by decide +kernel
theorem dX0_mutual_6 : decode cX0_mutual 6 = .ok (.getfield 9, 3) := by decide +kernel
theorem dX0_mutual_9 : decode cX0_mutual 9 = .ok (.if_icmp .ge 45, 3) := by decide +kernel
theorem dX0_mutual_12 : decode cX0_mutual 12 = .ok (.iload_n 2, 1) := by decide +kernel
theorem dX0_mutual_13 : decode cX0_mutual 13 = .ok (.iconst 1, 1) := by decide +kernel
theorem dX0_mutual_14 : decode cX0_mutual 14 = .ok (.iadd, 1) := by decide +kernel
theorem dX0_mutual_15 : decode cX0_mutual 15 = .ok (.istore_n 3, 1) := by decide +kernel
theorem dX0_mutual_16 : decode cX0_mutual 16 = .ok (.iload_n 3, 1) := by decide +kernel
theorem dX0_mutual_17 : decode cX0_mutual 17 = .ok (.aload_n 0, 1) := by decide +kernel
theorem dX0_mutual_18 : decode cX0_mutual 18 = .ok (.getfield 9, 3) := by decide +kernel
theorem dX0_mutual_21 : decode cX0_mutual 21 = .ok (.if_icmp .ge 27, 3) := by decide +kernel
theorem dX0_mutual_24 : decode cX0_mutual 24 = .ok (.iload_n 1, 1) := by decide +kernel
theorem dX0_mutual_25 : decode cX0_mutual 25 = .ok (.aload_n 0, 1) := by decide +kernel
theorem dX0_mutual_26 : decode cX0_mutual 26 = .ok (.iload_n 2, 1) := by decide +kernel
theorem dX0_mutual_27 : decode cX0_mutual 27 = .ok (.iload_n 3, 1) := by decide +kernel
theorem dX0_mutual_28 : decode cX0_mutual 28 = .ok (.invokevirtual 25, 3) := by decide +kernel
theorem dX0_mutual_31 : decode cX0_mutual 31 = .ok (.aload_n 0, 1) := by decide +kernel
theorem dX0_mutual_32 : decode cX0_mutual 32 = .ok (.iload_n 3, 1) := by decide +kernel
theorem dX0_mutual_33 : decode cX0_mutual 33 = .ok (.iload_n 2, 1) := by decide +kernel
theorem dX0_mutual_34 : decode cX0_mutual 34 = .ok (.invokevirtual 25, 3) := by decide +kernel
theorem dX0_mutual_37 : decode cX0_mutual 37 = .ok (.invokestatic 64, 3) := by decide +kernel
theorem dX0_mutual_40 : decode cX0_mutual 40 = .ok (.iadd, 1) := by decide +kernel
theorem dX0_mutual_41 : decode cX0_mutual 41 = .ok (.istore_n 1, 1) := by decide +kernel
theorem dX0_mutual_42 : decode cX0_mutual 42 = .ok (.iinc 3 1, 3) := by decide +kernel
theorem dX0_mutual_45 : decode cX0_mutual 45 = .ok (.goto (-29), 3) := by decide +kernel
theorem dX0_mutual_48 : decode cX0_mutual 48 = .ok (.iinc 2 1, 3) := by decide +kernel
theorem dX0_mutual_51 : decode cX0_mutual 51 = .ok (.goto (-47), 3) := by decide +kernel
theorem dX0_mutual_54 : decode cX0_mutual 54 = .ok (.iload_n 1, 1) := by decide +kernel
theorem dX0_mutual_55 : decode cX0_mutual 55 = .ok (.ireturn, 1) := by decide +kernel
theorem dX0_shortestRing_0 : decode cX0_shortestRing 0 = .ok (.iconst (-1), 1) := by decide +kernel
theorem dX0_shortestRing_1 : decode cX0_shortestRing 1 = .ok (.istore_n 1, 1) := by decide +kernel
theorem dX0_shortestRing_2 : decode cX0_shortestRing 2 = .ok (.iconst 0, 1) := by decide +kernel
theorem dX0_shortestRing_3 : decode cX0_shortestRing 3 = .ok (.istore_n 2, 1) := by decide +kernel
theorem dX0_shortestRing_4 : decode cX0_shortestRing 4 = .ok (.iload_n 2, 1) := by decide +kernel
theorem dX0_shortestRing_5 : decode cX0_shortestRing 5 = .ok (.aload_n 0, 1) := by decide +kernel
theorem dX0_shortestRing_6 : decode cX0_shortestRing 6 = .ok (.getfield 9, 3) := by decide +kernel
theorem dX0_shortestRing_9 : decode cX0_shortestRing 9 = .ok (.if_icmp .ge 32, 3) := by decide +kernel
theorem dX0_shortestRing_12 : decode cX0_shortestRing 12 = .ok (.aload_n 0, 1) := by decide +kernel
theorem dX0_shortestRing_13 : decode cX0_shortestRing 13 = .ok (.iload_n 2, 1) := by decide +kernel
theorem dX0_shortestRing_14 : decode cX0_shortestRing 14 = .ok (.invokestatic 67, 3) := by decide +kernel
theorem dX0_shortestRing_17 : decode cX0_shortestRing 17 = .ok (.istore_n 3, 1) := by decide +kernel
theorem dX0_shortestRing_18 : decode cX0_shortestRing 18 = .ok (.iload_n 3, 1) := by decide +kernel
theorem dX0_shortestRing_19 : decode cX0_shortestRing 19 = .ok (.iconst (-1), 1) := by decide +kernel
theorem dX0_shortestRing_20 : decode cX0_shortestRing 20 = .ok (.if_icmp .eq 15, 3) := by decide +kernel
theorem dX0_shortestRing_23 : decode cX0_shortestRing 23 = .ok (.iload_n 1, 1) := by decide +kernel
theorem dX0_shortestRing_24 : decode cX0_shortestRing 24 = .ok (.iconst (-1), 1) := by decide +kernel
theorem dX0_shortestRing_25 : decode cX0_shortestRing 25 = .ok (.if_icmp .eq 8, 3) := by decide +kernel
theorem dX0_shortestRing_28 : decode cX0_shortestRing 28 = .ok (.iload_n 3, 1) := by decide +kernel
theorem dX0_shortestRing_29 : decode cX0_shortestRing 29 = .ok (.iload_n 1, 1) := by decide +kernel
theorem dX0_shortestRing_30 : decode cX0_shortestRing 30 = .ok (.if_icmp .ge 5, 3) := by decide +kernel
theorem dX0_shortestRing_33 : decode cX0_shortestRing 33 = .ok (.iload_n 3, 1) := by decide +kernel
theorem dX0_shortestRing_34 : decode cX0_shortestRing 34 = .ok (.istore_n 1, 1) := by decide +kernel
theorem dX0_shortestRing_35 : decode cX0_shortestRing 35 = .ok (.iinc 2 1, 3) := by decide +kernel
theorem dX0_shortestRing_38 : decode cX0_shortestRing 38 = .ok (.goto (-34), 3) := by decide +kernel
theorem dX0_shortestRing_41 : decode cX0_shortestRing 41 = .ok (.iload_n 1, 1) := by decide +kernel
theorem dX0_shortestRing_42 : decode cX0_shortestRing 42 = .ok (.ireturn, 1) := by decide +kernel
theorem dX0_stepsBackTo_0 : decode cX0_stepsBackTo 0 = .ok (.iconst 1, 1) := by decide +kernel
theorem dX0_stepsBackTo_1 : decode cX0_stepsBackTo 1 = .ok (.iload_n 1, 1) := by decide +kernel
theorem dX0_stepsBackTo_2 : decode cX0_stepsBackTo 2 = .ok (.ishl, 1) := by decide +kernel
theorem dX0_stepsBackTo_3 : decode cX0_stepsBackTo 3 = .ok (.istore_n 2, 1) := by decide +kernel
theorem dX0_stepsBackTo_4 : decode cX0_stepsBackTo 4 = .ok (.iconst 1, 1) := by decide +kernel
theorem dX0_stepsBackTo_5 : decode cX0_stepsBackTo 5 = .ok (.istore_n 3, 1) := by decide +kernel
theorem dX0_stepsBackTo_6 : decode cX0_stepsBackTo 6 = .ok (.iload_n 3, 1) := by decide +kernel
theorem dX0_stepsBackTo_7 : decode cX0_stepsBackTo 7 = .ok (.aload_n 0, 1) := by decide +kernel
theorem dX0_stepsBackTo_8 : decode cX0_stepsBackTo 8 = .ok (.getfield 9, 3) := by decide +kernel
theorem dX0_stepsBackTo_11 : decode cX0_stepsBackTo 11 = .ok (.if_icmp .gt 64, 3) := by decide +kernel
theorem dX0_stepsBackTo_14 : decode cX0_stepsBackTo 14 = .ok (.iconst 0, 1) := by decide +kernel
theorem dX0_stepsBackTo_15 : decode cX0_stepsBackTo 15 = .ok (.istore 4, 2) := by decide +kernel
theorem dX0_stepsBackTo_17 : decode cX0_stepsBackTo 17 = .ok (.iconst 0, 1) := by decide +kernel
theorem dX0_stepsBackTo_18 : decode cX0_stepsBackTo 18 = .ok (.istore 5, 2) := by decide +kernel
theorem dX0_stepsBackTo_20 : decode cX0_stepsBackTo 20 = .ok (.iload 5, 2) := by decide +kernel
theorem dX0_stepsBackTo_22 : decode cX0_stepsBackTo 22 = .ok (.aload_n 0, 1) := by decide +kernel
theorem dX0_stepsBackTo_23 : decode cX0_stepsBackTo 23 = .ok (.getfield 9, 3) := by decide +kernel
theorem dX0_stepsBackTo_26 : decode cX0_stepsBackTo 26 = .ok (.if_icmp .ge 29, 3) := by decide +kernel
theorem dX0_stepsBackTo_29 : decode cX0_stepsBackTo 29 = .ok (.iload_n 2, 1) := by decide +kernel
theorem dX0_stepsBackTo_30 : decode cX0_stepsBackTo 30 = .ok (.iload 5, 2) := by decide +kernel
theorem dX0_stepsBackTo_32 : decode cX0_stepsBackTo 32 = .ok (.ishr, 1) := by decide +kernel
theorem dX0_stepsBackTo_33 : decode cX0_stepsBackTo 33 = .ok (.iconst 1, 1) := by decide +kernel
theorem dX0_stepsBackTo_34 : decode cX0_stepsBackTo 34 = .ok (.iand, 1) := by decide +kernel
theorem dX0_stepsBackTo_35 : decode cX0_stepsBackTo 35 = .ok (.ifCond .eq 14, 3) := by decide +kernel
theorem dX0_stepsBackTo_38 : decode cX0_stepsBackTo 38 = .ok (.iload 4, 2) := by decide +kernel
theorem dX0_stepsBackTo_40 : decode cX0_stepsBackTo 40 = .ok (.aload_n 0, 1) := by decide +kernel
theorem dX0_stepsBackTo_41 : decode cX0_stepsBackTo 41 = .ok (.iload 5, 2) := by decide +kernel
theorem dX0_stepsBackTo_43 : decode cX0_stepsBackTo 43 = .ok (.invokevirtual 71, 3) := by decide +kernel
theorem dX0_stepsBackTo_46 : decode cX0_stepsBackTo 46 = .ok (.ior, 1) := by decide +kernel
theorem dX0_stepsBackTo_47 : decode cX0_stepsBackTo 47 = .ok (.istore 4, 2) := by decide +kernel
theorem dX0_stepsBackTo_49 : decode cX0_stepsBackTo 49 = .ok (.iinc 5 1, 3) := by decide +kernel
theorem dX0_stepsBackTo_52 : decode cX0_stepsBackTo 52 = .ok (.goto (-32), 3) := by decide +kernel
theorem dX0_stepsBackTo_55 : decode cX0_stepsBackTo 55 = .ok (.iload 4, 2) := by decide +kernel
theorem dX0_stepsBackTo_57 : decode cX0_stepsBackTo 57 = .ok (.iload_n 1, 1) := by decide +kernel
theorem dX0_stepsBackTo_58 : decode cX0_stepsBackTo 58 = .ok (.ishr, 1) := by decide +kernel
theorem dX0_stepsBackTo_59 : decode cX0_stepsBackTo 59 = .ok (.iconst 1, 1) := by decide +kernel
theorem dX0_stepsBackTo_60 : decode cX0_stepsBackTo 60 = .ok (.iand, 1) := by decide +kernel
theorem dX0_stepsBackTo_61 : decode cX0_stepsBackTo 61 = .ok (.ifCond .eq 5, 3) := by decide +kernel
theorem dX0_stepsBackTo_64 : decode cX0_stepsBackTo 64 = .ok (.iload_n 3, 1) := by decide +kernel
theorem dX0_stepsBackTo_65 : decode cX0_stepsBackTo 65 = .ok (.ireturn, 1) := by decide +kernel
theorem dX0_stepsBackTo_66 : decode cX0_stepsBackTo 66 = .ok (.iload 4, 2) := by decide +kernel
theorem dX0_stepsBackTo_68 : decode cX0_stepsBackTo 68 = .ok (.istore_n 2, 1) := by decide +kernel
theorem dX0_stepsBackTo_69 : decode cX0_stepsBackTo 69 = .ok (.iinc 3 1, 3) := by decide +kernel
theorem dX0_stepsBackTo_72 : decode cX0_stepsBackTo 72 = .ok (.goto (-66), 3) := by decide +kernel
theorem dX0_stepsBackTo_75 : decode cX0_stepsBackTo 75 = .ok (.iconst (-1), 1) := by decide +kernel
theorem dX0_stepsBackTo_76 : decode cX0_stepsBackTo 76 = .ok (.ireturn, 1) := by decide +kernel
theorem dX0_richest_0 : decode cX0_richest 0 = .ok (.iconst (-1), 1) := by decide +kernel
theorem dX0_richest_1 : decode cX0_richest 1 = .ok (.istore_n 1, 1) := by decide +kernel
theorem dX0_richest_2 : decode cX0_richest 2 = .ok (.iconst 0, 1) := by decide +kernel
theorem dX0_richest_3 : decode cX0_richest 3 = .ok (.istore_n 2, 1) := by decide +kernel
theorem dX0_richest_4 : decode cX0_richest 4 = .ok (.iconst 0, 1) := by decide +kernel
theorem dX0_richest_5 : decode cX0_richest 5 = .ok (.istore_n 3, 1) := by decide +kernel
theorem dX0_richest_6 : decode cX0_richest 6 = .ok (.iload_n 3, 1) := by decide +kernel
theorem dX0_richest_7 : decode cX0_richest 7 = .ok (.aload_n 0, 1) := by decide +kernel
theorem dX0_richest_8 : decode cX0_richest 8 = .ok (.getfield 9, 3) := by decide +kernel
theorem dX0_richest_11 : decode cX0_richest 11 = .ok (.if_icmp .ge 32, 3) := by decide +kernel
theorem dX0_richest_14 : decode cX0_richest 14 = .ok (.aload_n 0, 1) := by decide +kernel
theorem dX0_richest_15 : decode cX0_richest 15 = .ok (.iload_n 3, 1) := by decide +kernel
theorem dX0_richest_16 : decode cX0_richest 16 = .ok (.invokevirtual 74, 3) := by decide +kernel
theorem dX0_richest_19 : decode cX0_richest 19 = .ok (.istore 4, 2) := by decide +kernel
theorem dX0_richest_21 : decode cX0_richest 21 = .ok (.iload_n 1, 1) := by decide +kernel
theorem dX0_richest_22 : decode cX0_richest 22 = .ok (.iconst (-1), 1) := by decide +kernel
theorem dX0_richest_23 : decode cX0_richest 23 = .ok (.if_icmp .eq 9, 3) := by decide +kernel
theorem dX0_richest_26 : decode cX0_richest 26 = .ok (.iload 4, 2) := by decide +kernel
theorem dX0_richest_28 : decode cX0_richest 28 = .ok (.iload_n 2, 1) := by decide +kernel
theorem dX0_richest_29 : decode cX0_richest 29 = .ok (.if_icmp .le 8, 3) := by decide +kernel
theorem dX0_richest_32 : decode cX0_richest 32 = .ok (.iload_n 3, 1) := by decide +kernel
theorem dX0_richest_33 : decode cX0_richest 33 = .ok (.istore_n 1, 1) := by decide +kernel
theorem dX0_richest_34 : decode cX0_richest 34 = .ok (.iload 4, 2) := by decide +kernel
theorem dX0_richest_36 : decode cX0_richest 36 = .ok (.istore_n 2, 1) := by decide +kernel
theorem dX0_richest_37 : decode cX0_richest 37 = .ok (.iinc 3 1, 3) := by decide +kernel
theorem dX0_richest_40 : decode cX0_richest 40 = .ok (.goto (-34), 3) := by decide +kernel
theorem dX0_richest_43 : decode cX0_richest 43 = .ok (.iload_n 1, 1) := by decide +kernel
theorem dX0_richest_44 : decode cX0_richest 44 = .ok (.ireturn, 1) := by decide +kernel
theorem dX0_twins_0 : decode cX0_twins 0 = .ok (.iconst 0, 1) := by decide +kernel
theorem dX0_twins_1 : decode cX0_twins 1 = .ok (.istore_n 1, 1) := by decide +kernel
theorem dX0_twins_2 : decode cX0_twins 2 = .ok (.iconst 0, 1) := by decide +kernel
theorem dX0_twins_3 : decode cX0_twins 3 = .ok (.istore_n 2, 1) := by decide +kernel
theorem dX0_twins_4 : decode cX0_twins 4 = .ok (.iload_n 2, 1) := by decide +kernel
theorem dX0_twins_5 : decode cX0_twins 5 = .ok (.aload_n 0, 1) := by decide +kernel
theorem dX0_twins_6 : decode cX0_twins 6 = .ok (.getfield 9, 3) := by decide +kernel
theorem dX0_twins_9 : decode cX0_twins 9 = .ok (.if_icmp .ge 60, 3) := by decide +kernel
theorem dX0_twins_12 : decode cX0_twins 12 = .ok (.iload_n 2, 1) := by decide +kernel
theorem dX0_twins_13 : decode cX0_twins 13 = .ok (.iconst 1, 1) := by decide +kernel
theorem dX0_twins_14 : decode cX0_twins 14 = .ok (.iadd, 1) := by decide +kernel
theorem dX0_twins_15 : decode cX0_twins 15 = .ok (.istore_n 3, 1) := by decide +kernel
theorem dX0_twins_16 : decode cX0_twins 16 = .ok (.iload_n 3, 1) := by decide +kernel
theorem dX0_twins_17 : decode cX0_twins 17 = .ok (.aload_n 0, 1) := by decide +kernel
theorem dX0_twins_18 : decode cX0_twins 18 = .ok (.getfield 9, 3) := by decide +kernel
theorem dX0_twins_21 : decode cX0_twins 21 = .ok (.if_icmp .ge 42, 3) := by decide +kernel
theorem dX0_twins_24 : decode cX0_twins 24 = .ok (.aload_n 0, 1) := by decide +kernel
theorem dX0_twins_25 : decode cX0_twins 25 = .ok (.getfield 77, 3) := by decide +kernel
theorem dX0_twins_28 : decode cX0_twins 28 = .ok (.iload_n 2, 1) := by decide +kernel
theorem dX0_twins_29 : decode cX0_twins 29 = .ok (.iaload, 1) := by decide +kernel
theorem dX0_twins_30 : decode cX0_twins 30 = .ok (.aload_n 0, 1) := by decide +kernel
theorem dX0_twins_31 : decode cX0_twins 31 = .ok (.getfield 77, 3) := by decide +kernel
theorem dX0_twins_34 : decode cX0_twins 34 = .ok (.iload_n 3, 1) := by decide +kernel
theorem dX0_twins_35 : decode cX0_twins 35 = .ok (.iaload, 1) := by decide +kernel
theorem dX0_twins_36 : decode cX0_twins 36 = .ok (.if_icmp .ne 21, 3) := by decide +kernel
theorem dX0_twins_39 : decode cX0_twins 39 = .ok (.aload_n 0, 1) := by decide +kernel
theorem dX0_twins_40 : decode cX0_twins 40 = .ok (.getfield 41, 3) := by decide +kernel
theorem dX0_twins_43 : decode cX0_twins 43 = .ok (.iload_n 2, 1) := by decide +kernel
theorem dX0_twins_44 : decode cX0_twins 44 = .ok (.iaload, 1) := by decide +kernel
theorem dX0_twins_45 : decode cX0_twins 45 = .ok (.aload_n 0, 1) := by decide +kernel
theorem dX0_twins_46 : decode cX0_twins 46 = .ok (.getfield 41, 3) := by decide +kernel
theorem dX0_twins_49 : decode cX0_twins 49 = .ok (.iload_n 3, 1) := by decide +kernel
theorem dX0_twins_50 : decode cX0_twins 50 = .ok (.iaload, 1) := by decide +kernel
theorem dX0_twins_51 : decode cX0_twins 51 = .ok (.if_icmp .ne 6, 3) := by decide +kernel
theorem dX0_twins_54 : decode cX0_twins 54 = .ok (.iinc 1 1, 3) := by decide +kernel
theorem dX0_twins_57 : decode cX0_twins 57 = .ok (.iinc 3 1, 3) := by decide +kernel
theorem dX0_twins_60 : decode cX0_twins 60 = .ok (.goto (-44), 3) := by decide +kernel
theorem dX0_twins_63 : decode cX0_twins 63 = .ok (.iinc 2 1, 3) := by decide +kernel
theorem dX0_twins_66 : decode cX0_twins 66 = .ok (.goto (-62), 3) := by decide +kernel
theorem dX0_twins_69 : decode cX0_twins 69 = .ok (.iload_n 1, 1) := by decide +kernel
theorem dX0_twins_70 : decode cX0_twins 70 = .ok (.ireturn, 1) := by decide +kernel
theorem dX0_favourite_0 : decode cX0_favourite 0 = .ok (.iconst (-1), 1) := by decide +kernel
theorem dX0_favourite_1 : decode cX0_favourite 1 = .ok (.istore_n 1, 1) := by decide +kernel
theorem dX0_favourite_2 : decode cX0_favourite 2 = .ok (.iconst (-1), 1) := by decide +kernel
theorem dX0_favourite_3 : decode cX0_favourite 3 = .ok (.istore_n 2, 1) := by decide +kernel
theorem dX0_favourite_4 : decode cX0_favourite 4 = .ok (.iconst 0, 1) := by decide +kernel
theorem dX0_favourite_5 : decode cX0_favourite 5 = .ok (.istore_n 3, 1) := by decide +kernel
theorem dX0_favourite_6 : decode cX0_favourite 6 = .ok (.iload_n 3, 1) := by decide +kernel
theorem dX0_favourite_7 : decode cX0_favourite 7 = .ok (.aload_n 0, 1) := by decide +kernel
theorem dX0_favourite_8 : decode cX0_favourite 8 = .ok (.getfield 9, 3) := by decide +kernel
theorem dX0_favourite_11 : decode cX0_favourite 11 = .ok (.if_icmp .ge 30, 3) := by decide +kernel
theorem dX0_favourite_14 : decode cX0_favourite 14 = .ok (.aload_n 0, 1) := by decide +kernel
theorem dX0_favourite_15 : decode cX0_favourite 15 = .ok (.iload_n 3, 1) := by decide +kernel
theorem dX0_favourite_16 : decode cX0_favourite 16 = .ok (.invokevirtual 80, 3) := by decide +kernel
theorem dX0_favourite_19 : decode cX0_favourite 19 = .ok (.invokestatic 83, 3) := by decide +kernel
theorem dX0_favourite_22 : decode cX0_favourite 22 = .ok (.istore 4, 2) := by decide +kernel
theorem dX0_favourite_24 : decode cX0_favourite 24 = .ok (.iload 4, 2) := by decide +kernel
theorem dX0_favourite_26 : decode cX0_favourite 26 = .ok (.iload_n 2, 1) := by decide +kernel
theorem dX0_favourite_27 : decode cX0_favourite 27 = .ok (.if_icmp .le 8, 3) := by decide +kernel
theorem dX0_favourite_30 : decode cX0_favourite 30 = .ok (.iload 4, 2) := by decide +kernel
theorem dX0_favourite_32 : decode cX0_favourite 32 = .ok (.istore_n 2, 1) := by decide +kernel
theorem dX0_favourite_33 : decode cX0_favourite 33 = .ok (.iload_n 3, 1) := by decide +kernel
theorem dX0_favourite_34 : decode cX0_favourite 34 = .ok (.istore_n 1, 1) := by decide +kernel
theorem dX0_favourite_35 : decode cX0_favourite 35 = .ok (.iinc 3 1, 3) := by decide +kernel
theorem dX0_favourite_38 : decode cX0_favourite 38 = .ok (.goto (-32), 3) := by decide +kernel
theorem dX0_favourite_41 : decode cX0_favourite 41 = .ok (.iload_n 1, 1) := by decide +kernel
theorem dX0_favourite_42 : decode cX0_favourite 42 = .ok (.ireturn, 1) := by decide +kernel
theorem dJ6_bitCount_0f7a4_0 : decode cJ6_bitCount_0f7a4 0 = .ok (.iload_n 0, 1) := by decide +kernel
theorem dJ6_bitCount_0f7a4_1 : decode cJ6_bitCount_0f7a4 1 = .ok (.iload_n 0, 1) := by decide +kernel
theorem dJ6_bitCount_0f7a4_2 : decode cJ6_bitCount_0f7a4 2 = .ok (.iconst 1, 1) := by decide +kernel
theorem dJ6_bitCount_0f7a4_3 : decode cJ6_bitCount_0f7a4 3 = .ok (.iushr, 1) := by decide +kernel
theorem dJ6_bitCount_0f7a4_4 : decode cJ6_bitCount_0f7a4 4 = .ok (.ldc_w 265, 3) := by decide +kernel
theorem dJ6_bitCount_0f7a4_7 : decode cJ6_bitCount_0f7a4 7 = .ok (.iand, 1) := by decide +kernel
theorem dJ6_bitCount_0f7a4_8 : decode cJ6_bitCount_0f7a4 8 = .ok (.isub, 1) := by decide +kernel
theorem dJ6_bitCount_0f7a4_9 : decode cJ6_bitCount_0f7a4 9 = .ok (.istore_n 0, 1) := by decide +kernel
theorem dJ6_bitCount_0f7a4_10 : decode cJ6_bitCount_0f7a4 10 = .ok (.iload_n 0, 1) := by decide +kernel
theorem dJ6_bitCount_0f7a4_11 : decode cJ6_bitCount_0f7a4 11 = .ok (.ldc_w 266, 3) := by decide +kernel
theorem dJ6_bitCount_0f7a4_14 : decode cJ6_bitCount_0f7a4 14 = .ok (.iand, 1) := by decide +kernel
theorem dJ6_bitCount_0f7a4_15 : decode cJ6_bitCount_0f7a4 15 = .ok (.iload_n 0, 1) := by decide +kernel
theorem dJ6_bitCount_0f7a4_16 : decode cJ6_bitCount_0f7a4 16 = .ok (.iconst 2, 1) := by decide +kernel
theorem dJ6_bitCount_0f7a4_17 : decode cJ6_bitCount_0f7a4 17 = .ok (.iushr, 1) := by decide +kernel
theorem dJ6_bitCount_0f7a4_18 : decode cJ6_bitCount_0f7a4 18 = .ok (.ldc_w 266, 3) := by decide +kernel
theorem dJ6_bitCount_0f7a4_21 : decode cJ6_bitCount_0f7a4 21 = .ok (.iand, 1) := by decide +kernel
theorem dJ6_bitCount_0f7a4_22 : decode cJ6_bitCount_0f7a4 22 = .ok (.iadd, 1) := by decide +kernel
theorem dJ6_bitCount_0f7a4_23 : decode cJ6_bitCount_0f7a4 23 = .ok (.istore_n 0, 1) := by decide +kernel
theorem dJ6_bitCount_0f7a4_24 : decode cJ6_bitCount_0f7a4 24 = .ok (.iload_n 0, 1) := by decide +kernel
theorem dJ6_bitCount_0f7a4_25 : decode cJ6_bitCount_0f7a4 25 = .ok (.iload_n 0, 1) := by decide +kernel
theorem dJ6_bitCount_0f7a4_26 : decode cJ6_bitCount_0f7a4 26 = .ok (.iconst 4, 1) := by decide +kernel
theorem dJ6_bitCount_0f7a4_27 : decode cJ6_bitCount_0f7a4 27 = .ok (.iushr, 1) := by decide +kernel
theorem dJ6_bitCount_0f7a4_28 : decode cJ6_bitCount_0f7a4 28 = .ok (.iadd, 1) := by decide +kernel
theorem dJ6_bitCount_0f7a4_29 : decode cJ6_bitCount_0f7a4 29 = .ok (.ldc_w 267, 3) := by decide +kernel
theorem dJ6_bitCount_0f7a4_32 : decode cJ6_bitCount_0f7a4 32 = .ok (.iand, 1) := by decide +kernel
theorem dJ6_bitCount_0f7a4_33 : decode cJ6_bitCount_0f7a4 33 = .ok (.istore_n 0, 1) := by decide +kernel
theorem dJ6_bitCount_0f7a4_34 : decode cJ6_bitCount_0f7a4 34 = .ok (.iload_n 0, 1) := by decide +kernel
theorem dJ6_bitCount_0f7a4_35 : decode cJ6_bitCount_0f7a4 35 = .ok (.iload_n 0, 1) := by decide +kernel
theorem dJ6_bitCount_0f7a4_36 : decode cJ6_bitCount_0f7a4 36 = .ok (.bipush 8, 2) := by decide +kernel
theorem dJ6_bitCount_0f7a4_38 : decode cJ6_bitCount_0f7a4 38 = .ok (.iushr, 1) := by decide +kernel
theorem dJ6_bitCount_0f7a4_39 : decode cJ6_bitCount_0f7a4 39 = .ok (.iadd, 1) := by decide +kernel
theorem dJ6_bitCount_0f7a4_40 : decode cJ6_bitCount_0f7a4 40 = .ok (.istore_n 0, 1) := by decide +kernel
theorem dJ6_bitCount_0f7a4_41 : decode cJ6_bitCount_0f7a4 41 = .ok (.iload_n 0, 1) := by decide +kernel
theorem dJ6_bitCount_0f7a4_42 : decode cJ6_bitCount_0f7a4 42 = .ok (.iload_n 0, 1) := by decide +kernel
theorem dJ6_bitCount_0f7a4_43 : decode cJ6_bitCount_0f7a4 43 = .ok (.bipush 16, 2) := by decide +kernel
theorem dJ6_bitCount_0f7a4_45 : decode cJ6_bitCount_0f7a4 45 = .ok (.iushr, 1) := by decide +kernel
theorem dJ6_bitCount_0f7a4_46 : decode cJ6_bitCount_0f7a4 46 = .ok (.iadd, 1) := by decide +kernel
theorem dJ6_bitCount_0f7a4_47 : decode cJ6_bitCount_0f7a4 47 = .ok (.istore_n 0, 1) := by decide +kernel
theorem dJ6_bitCount_0f7a4_48 : decode cJ6_bitCount_0f7a4 48 = .ok (.iload_n 0, 1) := by decide +kernel
theorem dJ6_bitCount_0f7a4_49 : decode cJ6_bitCount_0f7a4 49 = .ok (.bipush 63, 2) := by decide +kernel
theorem dJ6_bitCount_0f7a4_51 : decode cJ6_bitCount_0f7a4 51 = .ok (.iand, 1) := by decide +kernel
theorem dJ6_bitCount_0f7a4_52 : decode cJ6_bitCount_0f7a4 52 = .ok (.ireturn, 1) := by decide +kernel
theorem dJ7_fill_d0a16_0 : decode cJ7_fill_d0a16 0 = .ok (.iconst 0, 1) := by decide +kernel
theorem dJ7_fill_d0a16_1 : decode cJ7_fill_d0a16 1 = .ok (.istore_n 3, 1) := by decide +kernel
theorem dJ7_fill_d0a16_2 : decode cJ7_fill_d0a16 2 = .ok (.aload_n 0, 1) := by decide +kernel
theorem dJ7_fill_d0a16_3 : decode cJ7_fill_d0a16 3 = .ok (.arraylength, 1) := by decide +kernel
theorem dJ7_fill_d0a16_4 : decode cJ7_fill_d0a16 4 = .ok (.istore 4, 2) := by decide +kernel
theorem dJ7_fill_d0a16_6 : decode cJ7_fill_d0a16 6 = .ok (.iload_n 3, 1) := by decide +kernel
theorem dJ7_fill_d0a16_7 : decode cJ7_fill_d0a16 7 = .ok (.iload 4, 2) := by decide +kernel
theorem dJ7_fill_d0a16_9 : decode cJ7_fill_d0a16 9 = .ok (.if_icmp .ge 13, 3) := by decide +kernel
theorem dJ7_fill_d0a16_12 : decode cJ7_fill_d0a16 12 = .ok (.aload_n 0, 1) := by decide +kernel
theorem dJ7_fill_d0a16_13 : decode cJ7_fill_d0a16 13 = .ok (.iload_n 3, 1) := by decide +kernel
theorem dJ7_fill_d0a16_14 : decode cJ7_fill_d0a16 14 = .ok (.lload_n 1, 1) := by decide +kernel
theorem dJ7_fill_d0a16_15 : decode cJ7_fill_d0a16 15 = .ok (.lastore, 1) := by decide +kernel
theorem dJ7_fill_d0a16_16 : decode cJ7_fill_d0a16 16 = .ok (.iinc 3 1, 3) := by decide +kernel
theorem dJ7_fill_d0a16_19 : decode cJ7_fill_d0a16 19 = .ok (.goto (-13), 3) := by decide +kernel
theorem dJ7_fill_d0a16_22 : decode cJ7_fill_d0a16 22 = .ok (.return_, 1) := by decide +kernel
theorem dJ7_fill_53178_0 : decode cJ7_fill_53178 0 = .ok (.iconst 0, 1) := by decide +kernel
theorem dJ7_fill_53178_1 : decode cJ7_fill_53178 1 = .ok (.istore_n 2, 1) := by decide +kernel
theorem dJ7_fill_53178_2 : decode cJ7_fill_53178 2 = .ok (.aload_n 0, 1) := by decide +kernel
theorem dJ7_fill_53178_3 : decode cJ7_fill_53178 3 = .ok (.arraylength, 1) := by decide +kernel
theorem dJ7_fill_53178_4 : decode cJ7_fill_53178 4 = .ok (.istore_n 3, 1) := by decide +kernel
theorem dJ7_fill_53178_5 : decode cJ7_fill_53178 5 = .ok (.iload_n 2, 1) := by decide +kernel
theorem dJ7_fill_53178_6 : decode cJ7_fill_53178 6 = .ok (.iload_n 3, 1) := by decide +kernel
theorem dJ7_fill_53178_7 : decode cJ7_fill_53178 7 = .ok (.if_icmp .ge 13, 3) := by decide +kernel
theorem dJ7_fill_53178_10 : decode cJ7_fill_53178 10 = .ok (.aload_n 0, 1) := by decide +kernel
theorem dJ7_fill_53178_11 : decode cJ7_fill_53178 11 = .ok (.iload_n 2, 1) := by decide +kernel
theorem dJ7_fill_53178_12 : decode cJ7_fill_53178 12 = .ok (.iload_n 1, 1) := by decide +kernel
theorem dJ7_fill_53178_13 : decode cJ7_fill_53178 13 = .ok (.iastore, 1) := by decide +kernel
theorem dJ7_fill_53178_14 : decode cJ7_fill_53178 14 = .ok (.iinc 2 1, 3) := by decide +kernel
theorem dJ7_fill_53178_17 : decode cJ7_fill_53178 17 = .ok (.goto (-12), 3) := by decide +kernel
theorem dJ7_fill_53178_20 : decode cJ7_fill_53178 20 = .ok (.return_, 1) := by decide +kernel
