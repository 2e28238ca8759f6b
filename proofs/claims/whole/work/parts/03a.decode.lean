theorem d_F_init_0 : decode b_F_init 0 = .ok (.aload_n 0, 1) := by decide +kernel
theorem d_F_init_1 : decode b_F_init 1 = .ok (.invokespecial 5, 3) := by decide +kernel
theorem d_F_init_4 : decode b_F_init 4 = .ok (.aload_n 0, 1) := by decide +kernel
theorem d_F_init_5 : decode b_F_init 5 = .ok (.sipush 144, 3) := by decide +kernel
theorem d_F_init_8 : decode b_F_init 8 = .ok (.newarray .int, 2) := by decide +kernel
theorem d_F_init_10 : decode b_F_init 10 = .ok (.putfield 11, 3) := by decide +kernel
theorem d_F_init_13 : decode b_F_init 13 = .ok (.aload_n 0, 1) := by decide +kernel
theorem d_F_init_14 : decode b_F_init 14 = .ok (.sipush 144, 3) := by decide +kernel
theorem d_F_init_17 : decode b_F_init 17 = .ok (.newarray .int, 2) := by decide +kernel
theorem d_F_init_19 : decode b_F_init 19 = .ok (.putfield 15, 3) := by decide +kernel
theorem d_F_init_22 : decode b_F_init 22 = .ok (.aload_n 0, 1) := by decide +kernel
theorem d_F_init_23 : decode b_F_init 23 = .ok (.bipush 10, 2) := by decide +kernel
theorem d_F_init_25 : decode b_F_init 25 = .ok (.newarray .int, 2) := by decide +kernel
theorem d_F_init_27 : decode b_F_init 27 = .ok (.putfield 18, 3) := by decide +kernel
theorem d_F_init_30 : decode b_F_init 30 = .ok (.aload_n 0, 1) := by decide +kernel
theorem d_F_init_31 : decode b_F_init 31 = .ok (.sipush 144, 3) := by decide +kernel
theorem d_F_init_34 : decode b_F_init 34 = .ok (.newarray .int, 2) := by decide +kernel
theorem d_F_init_36 : decode b_F_init 36 = .ok (.putfield 21, 3) := by decide +kernel
theorem d_F_init_39 : decode b_F_init 39 = .ok (.aload_n 0, 1) := by decide +kernel
theorem d_F_init_40 : decode b_F_init 40 = .ok (.sipush 144, 3) := by decide +kernel
theorem d_F_init_43 : decode b_F_init 43 = .ok (.newarray .int, 2) := by decide +kernel
theorem d_F_init_45 : decode b_F_init 45 = .ok (.putfield 24, 3) := by decide +kernel
theorem d_F_init_48 : decode b_F_init 48 = .ok (.aload_n 0, 1) := by decide +kernel
theorem d_F_init_49 : decode b_F_init 49 = .ok (.getfield 11, 3) := by decide +kernel
theorem d_F_init_52 : decode b_F_init 52 = .ok (.iconst 1, 1) := by decide +kernel
theorem d_F_init_53 : decode b_F_init 53 = .ok (.invokestatic 27, 3) := by decide +kernel
theorem d_F_init_56 : decode b_F_init 56 = .ok (.return_, 1) := by decide +kernel
theorem d_F_holds_0 : decode b_F_holds 0 = .ok (.iload_n 0, 1) := by decide +kernel
theorem d_F_holds_1 : decode b_F_holds 1 = .ok (.ifCond .lt 14, 3) := by decide +kernel
theorem d_F_holds_4 : decode b_F_holds 4 = .ok (.iload_n 0, 1) := by decide +kernel
theorem d_F_holds_5 : decode b_F_holds 5 = .ok (.sipush 144, 3) := by decide +kernel
theorem d_F_holds_8 : decode b_F_holds 8 = .ok (.if_icmp .ge 7, 3) := by decide +kernel
theorem d_F_holds_11 : decode b_F_holds 11 = .ok (.iconst 1, 1) := by decide +kernel
theorem d_F_holds_12 : decode b_F_holds 12 = .ok (.goto 4, 3) := by decide +kernel
theorem d_F_holds_15 : decode b_F_holds 15 = .ok (.iconst 0, 1) := by decide +kernel
theorem d_F_holds_16 : decode b_F_holds 16 = .ok (.ireturn, 1) := by decide +kernel
theorem d_F_changePrice_0 : decode b_F_changePrice 0 = .ok (.aload_n 0, 1) := by decide +kernel
theorem d_F_changePrice_1 : decode b_F_changePrice 1 = .ok (.getfield 11, 3) := by decide +kernel
theorem d_F_changePrice_4 : decode b_F_changePrice 4 = .ok (.iload_n 1, 1) := by decide +kernel
theorem d_F_changePrice_5 : decode b_F_changePrice 5 = .ok (.iaload, 1) := by decide +kernel
theorem d_F_changePrice_6 : decode b_F_changePrice 6 = .ok (.istore_n 3, 1) := by decide +kernel
theorem d_F_changePrice_7 : decode b_F_changePrice 7 = .ok (.aload_n 0, 1) := by decide +kernel
theorem d_F_changePrice_8 : decode b_F_changePrice 8 = .ok (.getfield 11, 3) := by decide +kernel
theorem d_F_changePrice_11 : decode b_F_changePrice 11 = .ok (.iload_n 1, 1) := by decide +kernel
theorem d_F_changePrice_12 : decode b_F_changePrice 12 = .ok (.iload_n 2, 1) := by decide +kernel
theorem d_F_changePrice_13 : decode b_F_changePrice 13 = .ok (.iastore, 1) := by decide +kernel
theorem d_F_changePrice_14 : decode b_F_changePrice 14 = .ok (.iload_n 3, 1) := by decide +kernel
theorem d_F_changePrice_15 : decode b_F_changePrice 15 = .ok (.ireturn, 1) := by decide +kernel
theorem d_F_find_0 : decode b_F_find 0 = .ok (.aload_n 0, 1) := by decide +kernel
theorem d_F_find_1 : decode b_F_find 1 = .ok (.iconst 0, 1) := by decide +kernel
theorem d_F_find_2 : decode b_F_find 2 = .ok (.putfield 33, 3) := by decide +kernel
theorem d_F_find_5 : decode b_F_find 5 = .ok (.aload_n 0, 1) := by decide +kernel
theorem d_F_find_6 : decode b_F_find 6 = .ok (.iload_n 2, 1) := by decide +kernel
theorem d_F_find_7 : decode b_F_find 7 = .ok (.invokevirtual 37, 3) := by decide +kernel
theorem d_F_find_10 : decode b_F_find 10 = .ok (.aload_n 0, 1) := by decide +kernel
theorem d_F_find_11 : decode b_F_find 11 = .ok (.getfield 15, 3) := by decide +kernel
theorem d_F_find_14 : decode b_F_find 14 = .ok (.iload_n 1, 1) := by decide +kernel
theorem d_F_find_15 : decode b_F_find 15 = .ok (.iaload, 1) := by decide +kernel
theorem d_F_find_16 : decode b_F_find 16 = .ok (.ldc 41, 2) := by decide +kernel
theorem d_F_find_18 : decode b_F_find 18 = .ok (.if_icmp .ne 5, 3) := by decide +kernel
theorem d_F_find_21 : decode b_F_find 21 = .ok (.iconst 0, 1) := by decide +kernel
theorem d_F_find_22 : decode b_F_find 22 = .ok (.ireturn, 1) := by decide +kernel
theorem d_F_find_23 : decode b_F_find 23 = .ok (.aload_n 0, 1) := by decide +kernel
theorem d_F_find_24 : decode b_F_find 24 = .ok (.aload_n 0, 1) := by decide +kernel
theorem d_F_find_25 : decode b_F_find 25 = .ok (.getfield 15, 3) := by decide +kernel
theorem d_F_find_28 : decode b_F_find 28 = .ok (.iload_n 1, 1) := by decide +kernel
theorem d_F_find_29 : decode b_F_find 29 = .ok (.iaload, 1) := by decide +kernel
theorem d_F_find_30 : decode b_F_find 30 = .ok (.sipush 256, 3) := by decide +kernel
theorem d_F_find_33 : decode b_F_find 33 = .ok (.idiv, 1) := by decide +kernel
theorem d_F_find_34 : decode b_F_find 34 = .ok (.putfield 42, 3) := by decide +kernel
theorem d_F_find_37 : decode b_F_find 37 = .ok (.aload_n 0, 1) := by decide +kernel
theorem d_F_find_38 : decode b_F_find 38 = .ok (.iload_n 1, 1) := by decide +kernel
theorem d_F_find_39 : decode b_F_find 39 = .ok (.iload_n 2, 1) := by decide +kernel
theorem d_F_find_40 : decode b_F_find 40 = .ok (.invokevirtual 45, 3) := by decide +kernel
theorem d_F_find_43 : decode b_F_find 43 = .ok (.iconst 1, 1) := by decide +kernel
theorem d_F_find_44 : decode b_F_find 44 = .ok (.ireturn, 1) := by decide +kernel
theorem d_F_foundPrice_0 : decode b_F_foundPrice 0 = .ok (.aload_n 0, 1) := by decide +kernel
theorem d_F_foundPrice_1 : decode b_F_foundPrice 1 = .ok (.getfield 42, 3) := by decide +kernel
theorem d_F_foundPrice_4 : decode b_F_foundPrice 4 = .ok (.ireturn, 1) := by decide +kernel
theorem d_F_foundLength_0 : decode b_F_foundLength 0 = .ok (.aload_n 0, 1) := by decide +kernel
theorem d_F_foundLength_1 : decode b_F_foundLength 1 = .ok (.getfield 33, 3) := by decide +kernel
theorem d_F_foundLength_4 : decode b_F_foundLength 4 = .ok (.ireturn, 1) := by decide +kernel
theorem d_F_foundCell_0 : decode b_F_foundCell 0 = .ok (.iload_n 1, 1) := by decide +kernel
theorem d_F_foundCell_1 : decode b_F_foundCell 1 = .ok (.ifCond .lt 20, 3) := by decide +kernel
theorem d_F_foundCell_4 : decode b_F_foundCell 4 = .ok (.iload_n 1, 1) := by decide +kernel
theorem d_F_foundCell_5 : decode b_F_foundCell 5 = .ok (.aload_n 0, 1) := by decide +kernel
theorem d_F_foundCell_6 : decode b_F_foundCell 6 = .ok (.getfield 33, 3) := by decide +kernel
theorem d_F_foundCell_9 : decode b_F_foundCell 9 = .ok (.if_icmp .ge 12, 3) := by decide +kernel
theorem d_F_foundCell_12 : decode b_F_foundCell 12 = .ok (.aload_n 0, 1) := by decide +kernel
theorem d_F_foundCell_13 : decode b_F_foundCell 13 = .ok (.getfield 24, 3) := by decide +kernel
theorem d_F_foundCell_16 : decode b_F_foundCell 16 = .ok (.iload_n 1, 1) := by decide +kernel
theorem d_F_foundCell_17 : decode b_F_foundCell 17 = .ok (.iaload, 1) := by decide +kernel
theorem d_F_foundCell_18 : decode b_F_foundCell 18 = .ok (.goto 4, 3) := by decide +kernel
theorem d_F_foundCell_21 : decode b_F_foundCell 21 = .ok (.iconst (-1), 1) := by decide +kernel
theorem d_F_foundCell_22 : decode b_F_foundCell 22 = .ok (.ireturn, 1) := by decide +kernel
theorem d_F_searchBackFrom_0 : decode b_F_searchBackFrom 0 = .ok (.aload_n 0, 1) := by decide +kernel
theorem d_F_searchBackFrom_1 : decode b_F_searchBackFrom 1 = .ok (.getfield 15, 3) := by decide +kernel
theorem d_F_searchBackFrom_4 : decode b_F_searchBackFrom 4 = .ok (.ldc 41, 2) := by decide +kernel
theorem d_F_searchBackFrom_6 : decode b_F_searchBackFrom 6 = .ok (.invokestatic 27, 3) := by decide +kernel
theorem d_F_searchBackFrom_9 : decode b_F_searchBackFrom 9 = .ok (.aload_n 0, 1) := by decide +kernel
theorem d_F_searchBackFrom_10 : decode b_F_searchBackFrom 10 = .ok (.getfield 18, 3) := by decide +kernel
theorem d_F_searchBackFrom_13 : decode b_F_searchBackFrom 13 = .ok (.iconst (-1), 1) := by decide +kernel
theorem d_F_searchBackFrom_14 : decode b_F_searchBackFrom 14 = .ok (.invokestatic 27, 3) := by decide +kernel
theorem d_F_searchBackFrom_17 : decode b_F_searchBackFrom 17 = .ok (.aload_n 0, 1) := by decide +kernel
theorem d_F_searchBackFrom_18 : decode b_F_searchBackFrom 18 = .ok (.getfield 15, 3) := by decide +kernel
theorem d_F_searchBackFrom_21 : decode b_F_searchBackFrom 21 = .ok (.iload_n 1, 1) := by decide +kernel
theorem d_F_searchBackFrom_22 : decode b_F_searchBackFrom 22 = .ok (.iconst 0, 1) := by decide +kernel
theorem d_F_searchBackFrom_23 : decode b_F_searchBackFrom 23 = .ok (.iastore, 1) := by decide +kernel
theorem d_F_searchBackFrom_24 : decode b_F_searchBackFrom 24 = .ok (.aload_n 0, 1) := by decide +kernel
theorem d_F_searchBackFrom_25 : decode b_F_searchBackFrom 25 = .ok (.iconst 0, 1) := by decide +kernel
theorem d_F_searchBackFrom_26 : decode b_F_searchBackFrom 26 = .ok (.putfield 49, 3) := by decide +kernel
theorem d_F_searchBackFrom_29 : decode b_F_searchBackFrom 29 = .ok (.aload_n 0, 1) := by decide +kernel
theorem d_F_searchBackFrom_30 : decode b_F_searchBackFrom 30 = .ok (.getfield 11, 3) := by decide +kernel
theorem d_F_searchBackFrom_33 : decode b_F_searchBackFrom 33 = .ok (.iload_n 1, 1) := by decide +kernel
theorem d_F_searchBackFrom_34 : decode b_F_searchBackFrom 34 = .ok (.iaload, 1) := by decide +kernel
theorem d_F_searchBackFrom_35 : decode b_F_searchBackFrom 35 = .ok (.ifCond .le 14, 3) := by decide +kernel
theorem d_F_searchBackFrom_38 : decode b_F_searchBackFrom 38 = .ok (.aload_n 0, 1) := by decide +kernel
theorem d_F_searchBackFrom_39 : decode b_F_searchBackFrom 39 = .ok (.iload_n 1, 1) := by decide +kernel
theorem d_F_searchBackFrom_40 : decode b_F_searchBackFrom 40 = .ok (.aload_n 0, 1) := by decide +kernel
theorem d_F_searchBackFrom_41 : decode b_F_searchBackFrom 41 = .ok (.getfield 11, 3) := by decide +kernel
theorem d_F_searchBackFrom_44 : decode b_F_searchBackFrom 44 = .ok (.iload_n 1, 1) := by decide +kernel
theorem d_F_searchBackFrom_45 : decode b_F_searchBackFrom 45 = .ok (.iaload, 1) := by decide +kernel
theorem d_F_searchBackFrom_46 : decode b_F_searchBackFrom 46 = .ok (.invokevirtual 52, 3) := by decide +kernel
theorem d_F_searchBackFrom_49 : decode b_F_searchBackFrom 49 = .ok (.iconst 0, 1) := by decide +kernel
theorem d_F_searchBackFrom_50 : decode b_F_searchBackFrom 50 = .ok (.istore_n 2, 1) := by decide +kernel
theorem d_F_searchBackFrom_51 : decode b_F_searchBackFrom 51 = .ok (.aload_n 0, 1) := by decide +kernel
theorem d_F_searchBackFrom_52 : decode b_F_searchBackFrom 52 = .ok (.getfield 49, 3) := by decide +kernel
theorem d_F_searchBackFrom_55 : decode b_F_searchBackFrom 55 = .ok (.ifCond .le 21, 3) := by decide +kernel
theorem d_F_searchBackFrom_58 : decode b_F_searchBackFrom 58 = .ok (.iload_n 2, 1) := by decide +kernel
theorem d_F_searchBackFrom_59 : decode b_F_searchBackFrom 59 = .ok (.sipush 1296, 3) := by decide +kernel
theorem d_F_searchBackFrom_62 : decode b_F_searchBackFrom 62 = .ok (.if_icmp .gt 14, 3) := by decide +kernel
theorem d_F_searchBackFrom_65 : decode b_F_searchBackFrom 65 = .ok (.aload_n 0, 1) := by decide +kernel
theorem d_F_searchBackFrom_66 : decode b_F_searchBackFrom 66 = .ok (.iload_n 2, 1) := by decide +kernel
theorem d_F_searchBackFrom_67 : decode b_F_searchBackFrom 67 = .ok (.invokevirtual 55, 3) := by decide +kernel
theorem d_F_searchBackFrom_70 : decode b_F_searchBackFrom 70 = .ok (.iinc 2 1, 3) := by decide +kernel
theorem d_F_searchBackFrom_73 : decode b_F_searchBackFrom 73 = .ok (.goto (-22), 3) := by decide +kernel
theorem d_F_searchBackFrom_76 : decode b_F_searchBackFrom 76 = .ok (.return_, 1) := by decide +kernel
theorem d_F_waitFor_0 : decode b_F_waitFor 0 = .ok (.iload_n 2, 1) := by decide +kernel
theorem d_F_waitFor_1 : decode b_F_waitFor 1 = .ok (.bipush 10, 2) := by decide +kernel
theorem d_F_waitFor_3 : decode b_F_waitFor 3 = .ok (.irem, 1) := by decide +kernel
theorem d_F_waitFor_4 : decode b_F_waitFor 4 = .ok (.istore_n 3, 1) := by decide +kernel
theorem d_F_waitFor_5 : decode b_F_waitFor 5 = .ok (.aload_n 0, 1) := by decide +kernel
theorem d_F_waitFor_6 : decode b_F_waitFor 6 = .ok (.getfield 21, 3) := by decide +kernel
theorem d_F_waitFor_9 : decode b_F_waitFor 9 = .ok (.iload_n 1, 1) := by decide +kernel
theorem d_F_waitFor_10 : decode b_F_waitFor 10 = .ok (.aload_n 0, 1) := by decide +kernel
theorem d_F_waitFor_11 : decode b_F_waitFor 11 = .ok (.getfield 18, 3) := by decide +kernel
theorem d_F_waitFor_14 : decode b_F_waitFor 14 = .ok (.iload_n 3, 1) := by decide +kernel
theorem d_F_waitFor_15 : decode b_F_waitFor 15 = .ok (.iaload, 1) := by decide +kernel
theorem d_F_waitFor_16 : decode b_F_waitFor 16 = .ok (.iastore, 1) := by decide +kernel
theorem d_F_waitFor_17 : decode b_F_waitFor 17 = .ok (.aload_n 0, 1) := by decide +kernel
theorem d_F_waitFor_18 : decode b_F_waitFor 18 = .ok (.getfield 18, 3) := by decide +kernel
theorem d_F_waitFor_21 : decode b_F_waitFor 21 = .ok (.iload_n 3, 1) := by decide +kernel
theorem d_F_waitFor_22 : decode b_F_waitFor 22 = .ok (.iload_n 1, 1) := by decide +kernel
theorem d_F_waitFor_23 : decode b_F_waitFor 23 = .ok (.iastore, 1) := by decide +kernel
theorem d_F_waitFor_24 : decode b_F_waitFor 24 = .ok (.aload_n 0, 1) := by decide +kernel
theorem d_F_waitFor_25 : decode b_F_waitFor 25 = .ok (.dup, 1) := by decide +kernel
theorem d_F_waitFor_26 : decode b_F_waitFor 26 = .ok (.getfield 49, 3) := by decide +kernel
theorem d_F_waitFor_29 : decode b_F_waitFor 29 = .ok (.iconst 1, 1) := by decide +kernel
theorem d_F_waitFor_30 : decode b_F_waitFor 30 = .ok (.iadd, 1) := by decide +kernel
theorem d_F_waitFor_31 : decode b_F_waitFor 31 = .ok (.putfield 49, 3) := by decide +kernel
theorem d_F_waitFor_34 : decode b_F_waitFor 34 = .ok (.return_, 1) := by decide +kernel
theorem d_F_workOff_0 : decode b_F_workOff 0 = .ok (.iload_n 1, 1) := by decide +kernel
theorem d_F_workOff_1 : decode b_F_workOff 1 = .ok (.bipush 10, 2) := by decide +kernel
theorem d_F_workOff_3 : decode b_F_workOff 3 = .ok (.irem, 1) := by decide +kernel
theorem d_F_workOff_4 : decode b_F_workOff 4 = .ok (.istore_n 2, 1) := by decide +kernel
theorem d_F_workOff_5 : decode b_F_workOff 5 = .ok (.aload_n 0, 1) := by decide +kernel
theorem d_F_workOff_6 : decode b_F_workOff 6 = .ok (.getfield 18, 3) := by decide +kernel
theorem d_F_workOff_9 : decode b_F_workOff 9 = .ok (.iload_n 2, 1) := by decide +kernel
theorem d_F_workOff_10 : decode b_F_workOff 10 = .ok (.iaload, 1) := by decide +kernel
theorem d_F_workOff_11 : decode b_F_workOff 11 = .ok (.istore_n 3, 1) := by decide +kernel
theorem d_F_workOff_12 : decode b_F_workOff 12 = .ok (.aload_n 0, 1) := by decide +kernel
theorem d_F_workOff_13 : decode b_F_workOff 13 = .ok (.getfield 18, 3) := by decide +kernel
theorem d_F_workOff_16 : decode b_F_workOff 16 = .ok (.iload_n 2, 1) := by decide +kernel
theorem d_F_workOff_17 : decode b_F_workOff 17 = .ok (.iconst (-1), 1) := by decide +kernel
theorem d_F_workOff_18 : decode b_F_workOff 18 = .ok (.iastore, 1) := by decide +kernel
theorem d_F_workOff_19 : decode b_F_workOff 19 = .ok (.iconst 0, 1) := by decide +kernel
theorem d_F_workOff_20 : decode b_F_workOff 20 = .ok (.istore 4, 2) := by decide +kernel
theorem d_F_workOff_22 : decode b_F_workOff 22 = .ok (.iload 4, 2) := by decide +kernel
theorem d_F_workOff_24 : decode b_F_workOff 24 = .ok (.sipush 144, 3) := by decide +kernel
theorem d_F_workOff_27 : decode b_F_workOff 27 = .ok (.if_icmp .ge 37, 3) := by decide +kernel
theorem d_F_workOff_30 : decode b_F_workOff 30 = .ok (.iload_n 3, 1) := by decide +kernel
theorem d_F_workOff_31 : decode b_F_workOff 31 = .ok (.iconst (-1), 1) := by decide +kernel
theorem d_F_workOff_32 : decode b_F_workOff 32 = .ok (.if_icmp .eq 32, 3) := by decide +kernel
theorem d_F_workOff_35 : decode b_F_workOff 35 = .ok (.aload_n 0, 1) := by decide +kernel
theorem d_F_workOff_36 : decode b_F_workOff 36 = .ok (.dup, 1) := by decide +kernel
theorem d_F_workOff_37 : decode b_F_workOff 37 = .ok (.getfield 49, 3) := by decide +kernel
theorem d_F_workOff_40 : decode b_F_workOff 40 = .ok (.iconst 1, 1) := by decide +kernel
theorem d_F_workOff_41 : decode b_F_workOff 41 = .ok (.isub, 1) := by decide +kernel
theorem d_F_workOff_42 : decode b_F_workOff 42 = .ok (.putfield 49, 3) := by decide +kernel
theorem d_F_workOff_45 : decode b_F_workOff 45 = .ok (.aload_n 0, 1) := by decide +kernel
theorem d_F_workOff_46 : decode b_F_workOff 46 = .ok (.iload_n 3, 1) := by decide +kernel
theorem d_F_workOff_47 : decode b_F_workOff 47 = .ok (.iload_n 1, 1) := by decide +kernel
theorem d_F_workOff_48 : decode b_F_workOff 48 = .ok (.invokevirtual 58, 3) := by decide +kernel
theorem d_F_workOff_51 : decode b_F_workOff 51 = .ok (.aload_n 0, 1) := by decide +kernel
theorem d_F_workOff_52 : decode b_F_workOff 52 = .ok (.getfield 21, 3) := by decide +kernel
theorem d_F_workOff_55 : decode b_F_workOff 55 = .ok (.iload_n 3, 1) := by decide +kernel
theorem d_F_workOff_56 : decode b_F_workOff 56 = .ok (.iaload, 1) := by decide +kernel
theorem d_F_workOff_57 : decode b_F_workOff 57 = .ok (.istore_n 3, 1) := by decide +kernel
theorem d_F_workOff_58 : decode b_F_workOff 58 = .ok (.iinc 4 1, 3) := by decide +kernel
theorem d_F_workOff_61 : decode b_F_workOff 61 = .ok (.goto (-39), 3) := by decide +kernel
theorem d_F_workOff_64 : decode b_F_workOff 64 = .ok (.return_, 1) := by decide +kernel
theorem d_F_reachFrom_0 : decode b_F_reachFrom 0 = .ok (.aload_n 0, 1) := by decide +kernel
theorem d_F_reachFrom_1 : decode b_F_reachFrom 1 = .ok (.getfield 15, 3) := by decide +kernel
theorem d_F_reachFrom_4 : decode b_F_reachFrom 4 = .ok (.iload_n 1, 1) := by decide +kernel
theorem d_F_reachFrom_5 : decode b_F_reachFrom 5 = .ok (.iaload, 1) := by decide +kernel
theorem d_F_reachFrom_6 : decode b_F_reachFrom 6 = .ok (.aload_n 0, 1) := by decide +kernel
theorem d_F_reachFrom_7 : decode b_F_reachFrom 7 = .ok (.getfield 11, 3) := by decide +kernel
theorem d_F_reachFrom_10 : decode b_F_reachFrom 10 = .ok (.iload_n 1, 1) := by decide +kernel
theorem d_F_reachFrom_11 : decode b_F_reachFrom 11 = .ok (.iaload, 1) := by decide +kernel
theorem d_F_reachFrom_12 : decode b_F_reachFrom 12 = .ok (.sipush 256, 3) := by decide +kernel
theorem d_F_reachFrom_15 : decode b_F_reachFrom 15 = .ok (.imul, 1) := by decide +kernel
theorem d_F_reachFrom_16 : decode b_F_reachFrom 16 = .ok (.iadd, 1) := by decide +kernel
theorem d_F_reachFrom_17 : decode b_F_reachFrom 17 = .ok (.iconst 1, 1) := by decide +kernel
theorem d_F_reachFrom_18 : decode b_F_reachFrom 18 = .ok (.iadd, 1) := by decide +kernel
theorem d_F_reachFrom_19 : decode b_F_reachFrom 19 = .ok (.istore_n 3, 1) := by decide +kernel
theorem d_F_reachFrom_20 : decode b_F_reachFrom 20 = .ok (.iconst 0, 1) := by decide +kernel
theorem d_F_reachFrom_21 : decode b_F_reachFrom 21 = .ok (.istore 4, 2) := by decide +kernel
theorem d_F_reachFrom_23 : decode b_F_reachFrom 23 = .ok (.iload 4, 2) := by decide +kernel
theorem d_F_reachFrom_25 : decode b_F_reachFrom 25 = .ok (.iconst 4, 1) := by decide +kernel
theorem d_F_reachFrom_26 : decode b_F_reachFrom 26 = .ok (.if_icmp .ge 82, 3) := by decide +kernel
theorem d_F_reachFrom_29 : decode b_F_reachFrom 29 = .ok (.iload_n 1, 1) := by decide +kernel
theorem d_F_reachFrom_30 : decode b_F_reachFrom 30 = .ok (.iload 4, 2) := by decide +kernel
theorem d_F_reachFrom_32 : decode b_F_reachFrom 32 = .ok (.invokestatic 61, 3) := by decide +kernel
theorem d_F_reachFrom_35 : decode b_F_reachFrom 35 = .ok (.istore 5, 2) := by decide +kernel
theorem d_F_reachFrom_37 : decode b_F_reachFrom 37 = .ok (.iload 5, 2) := by decide +kernel
theorem d_F_reachFrom_39 : decode b_F_reachFrom 39 = .ok (.iconst (-1), 1) := by decide +kernel
theorem d_F_reachFrom_40 : decode b_F_reachFrom 40 = .ok (.if_icmp .eq 62, 3) := by decide +kernel
theorem d_F_reachFrom_43 : decode b_F_reachFrom 43 = .ok (.aload_n 0, 1) := by decide +kernel
theorem d_F_reachFrom_44 : decode b_F_reachFrom 44 = .ok (.getfield 15, 3) := by decide +kernel
theorem d_F_reachFrom_47 : decode b_F_reachFrom 47 = .ok (.iload 5, 2) := by decide +kernel
theorem d_F_reachFrom_49 : decode b_F_reachFrom 49 = .ok (.iaload, 1) := by decide +kernel
theorem d_F_reachFrom_50 : decode b_F_reachFrom 50 = .ok (.iload_n 3, 1) := by decide +kernel
theorem d_F_reachFrom_51 : decode b_F_reachFrom 51 = .ok (.if_icmp .gt 6, 3) := by decide +kernel
theorem d_F_reachFrom_54 : decode b_F_reachFrom 54 = .ok (.goto 48, 3) := by decide +kernel
theorem d_F_reachFrom_57 : decode b_F_reachFrom 57 = .ok (.aload_n 0, 1) := by decide +kernel
theorem d_F_reachFrom_58 : decode b_F_reachFrom 58 = .ok (.getfield 15, 3) := by decide +kernel
theorem d_F_reachFrom_61 : decode b_F_reachFrom 61 = .ok (.iload 5, 2) := by decide +kernel
theorem d_F_reachFrom_63 : decode b_F_reachFrom 63 = .ok (.iaload, 1) := by decide +kernel
theorem d_F_reachFrom_64 : decode b_F_reachFrom 64 = .ok (.ldc 41, 2) := by decide +kernel
theorem d_F_reachFrom_66 : decode b_F_reachFrom 66 = .ok (.if_icmp .ne 28, 3) := by decide +kernel
theorem d_F_reachFrom_69 : decode b_F_reachFrom 69 = .ok (.aload_n 0, 1) := by decide +kernel
theorem d_F_reachFrom_70 : decode b_F_reachFrom 70 = .ok (.getfield 11, 3) := by decide +kernel
theorem d_F_reachFrom_73 : decode b_F_reachFrom 73 = .ok (.iload 5, 2) := by decide +kernel
theorem d_F_reachFrom_75 : decode b_F_reachFrom 75 = .ok (.iaload, 1) := by decide +kernel
theorem d_F_reachFrom_76 : decode b_F_reachFrom 76 = .ok (.ifCond .le 18, 3) := by decide +kernel
theorem d_F_reachFrom_79 : decode b_F_reachFrom 79 = .ok (.aload_n 0, 1) := by decide +kernel
theorem d_F_reachFrom_80 : decode b_F_reachFrom 80 = .ok (.iload 5, 2) := by decide +kernel
theorem d_F_reachFrom_82 : decode b_F_reachFrom 82 = .ok (.iload_n 2, 1) := by decide +kernel
theorem d_F_reachFrom_83 : decode b_F_reachFrom 83 = .ok (.aload_n 0, 1) := by decide +kernel
theorem d_F_reachFrom_84 : decode b_F_reachFrom 84 = .ok (.getfield 11, 3) := by decide +kernel
theorem d_F_reachFrom_87 : decode b_F_reachFrom 87 = .ok (.iload 5, 2) := by decide +kernel
theorem d_F_reachFrom_89 : decode b_F_reachFrom 89 = .ok (.iaload, 1) := by decide +kernel
theorem d_F_reachFrom_90 : decode b_F_reachFrom 90 = .ok (.iadd, 1) := by decide +kernel
theorem d_F_reachFrom_91 : decode b_F_reachFrom 91 = .ok (.invokevirtual 52, 3) := by decide +kernel
theorem d_F_reachFrom_94 : decode b_F_reachFrom 94 = .ok (.aload_n 0, 1) := by decide +kernel
theorem d_F_reachFrom_95 : decode b_F_reachFrom 95 = .ok (.getfield 15, 3) := by decide +kernel
theorem d_F_reachFrom_98 : decode b_F_reachFrom 98 = .ok (.iload 5, 2) := by decide +kernel
theorem d_F_reachFrom_100 : decode b_F_reachFrom 100 = .ok (.iload_n 3, 1) := by decide +kernel
theorem d_F_reachFrom_101 : decode b_F_reachFrom 101 = .ok (.iastore, 1) := by decide +kernel
theorem d_F_reachFrom_102 : decode b_F_reachFrom 102 = .ok (.iinc 4 1, 3) := by decide +kernel
theorem d_F_reachFrom_105 : decode b_F_reachFrom 105 = .ok (.goto (-82), 3) := by decide +kernel
theorem d_F_reachFrom_108 : decode b_F_reachFrom 108 = .ok (.return_, 1) := by decide +kernel
theorem d_F_walk_0 : decode b_F_walk 0 = .ok (.iload_n 1, 1) := by decide +kernel
theorem d_F_walk_1 : decode b_F_walk 1 = .ok (.istore_n 3, 1) := by decide +kernel
theorem d_F_walk_2 : decode b_F_walk 2 = .ok (.iconst 0, 1) := by decide +kernel
theorem d_F_walk_3 : decode b_F_walk 3 = .ok (.istore 4, 2) := by decide +kernel
theorem d_F_walk_5 : decode b_F_walk 5 = .ok (.iload 4, 2) := by decide +kernel
theorem d_F_walk_7 : decode b_F_walk 7 = .ok (.sipush 144, 3) := by decide +kernel
theorem d_F_walk_10 : decode b_F_walk 10 = .ok (.if_icmp .ge 45, 3) := by decide +kernel
theorem d_F_walk_13 : decode b_F_walk 13 = .ok (.iload_n 3, 1) := by decide +kernel
theorem d_F_walk_14 : decode b_F_walk 14 = .ok (.iconst (-1), 1) := by decide +kernel
theorem d_F_walk_15 : decode b_F_walk 15 = .ok (.if_icmp .eq 40, 3) := by decide +kernel
theorem d_F_walk_18 : decode b_F_walk 18 = .ok (.aload_n 0, 1) := by decide +kernel
theorem d_F_walk_19 : decode b_F_walk 19 = .ok (.getfield 24, 3) := by decide +kernel
theorem d_F_walk_22 : decode b_F_walk 22 = .ok (.iload 4, 2) := by decide +kernel
theorem d_F_walk_24 : decode b_F_walk 24 = .ok (.iload_n 3, 1) := by decide +kernel
theorem d_F_walk_25 : decode b_F_walk 25 = .ok (.iastore, 1) := by decide +kernel
theorem d_F_walk_26 : decode b_F_walk 26 = .ok (.aload_n 0, 1) := by decide +kernel
theorem d_F_walk_27 : decode b_F_walk 27 = .ok (.iload 4, 2) := by decide +kernel
theorem d_F_walk_29 : decode b_F_walk 29 = .ok (.iconst 1, 1) := by decide +kernel
theorem d_F_walk_30 : decode b_F_walk 30 = .ok (.iadd, 1) := by decide +kernel
theorem d_F_walk_31 : decode b_F_walk 31 = .ok (.putfield 33, 3) := by decide +kernel
theorem d_F_walk_34 : decode b_F_walk 34 = .ok (.iload_n 3, 1) := by decide +kernel
theorem d_F_walk_35 : decode b_F_walk 35 = .ok (.iload_n 2, 1) := by decide +kernel
theorem d_F_walk_36 : decode b_F_walk 36 = .ok (.if_icmp .ne 7, 3) := by decide +kernel
theorem d_F_walk_39 : decode b_F_walk 39 = .ok (.iconst (-1), 1) := by decide +kernel
theorem d_F_walk_40 : decode b_F_walk 40 = .ok (.goto 8, 3) := by decide +kernel
theorem d_F_walk_43 : decode b_F_walk 43 = .ok (.aload_n 0, 1) := by decide +kernel
theorem d_F_walk_44 : decode b_F_walk 44 = .ok (.iload_n 3, 1) := by decide +kernel
theorem d_F_walk_45 : decode b_F_walk 45 = .ok (.invokevirtual 65, 3) := by decide +kernel
theorem d_F_walk_48 : decode b_F_walk 48 = .ok (.istore_n 3, 1) := by decide +kernel
theorem d_F_walk_49 : decode b_F_walk 49 = .ok (.iinc 4 1, 3) := by decide +kernel
theorem d_F_walk_52 : decode b_F_walk 52 = .ok (.goto (-47), 3) := by decide +kernel
theorem d_F_walk_55 : decode b_F_walk 55 = .ok (.return_, 1) := by decide +kernel
theorem d_F_stepFrom_0 : decode b_F_stepFrom 0 = .ok (.iconst 0, 1) := by decide +kernel
theorem d_F_stepFrom_1 : decode b_F_stepFrom 1 = .ok (.istore_n 2, 1) := by decide +kernel
theorem d_F_stepFrom_2 : decode b_F_stepFrom 2 = .ok (.iload_n 2, 1) := by decide +kernel
theorem d_F_stepFrom_3 : decode b_F_stepFrom 3 = .ok (.iconst 4, 1) := by decide +kernel
theorem d_F_stepFrom_4 : decode b_F_stepFrom 4 = .ok (.if_icmp .ge 59, 3) := by decide +kernel
theorem d_F_stepFrom_7 : decode b_F_stepFrom 7 = .ok (.iload_n 1, 1) := by decide +kernel
theorem d_F_stepFrom_8 : decode b_F_stepFrom 8 = .ok (.iload_n 2, 1) := by decide +kernel
theorem d_F_stepFrom_9 : decode b_F_stepFrom 9 = .ok (.invokestatic 61, 3) := by decide +kernel
theorem d_F_stepFrom_12 : decode b_F_stepFrom 12 = .ok (.istore_n 3, 1) := by decide +kernel
theorem d_F_stepFrom_13 : decode b_F_stepFrom 13 = .ok (.iload_n 3, 1) := by decide +kernel
theorem d_F_stepFrom_14 : decode b_F_stepFrom 14 = .ok (.iconst (-1), 1) := by decide +kernel
theorem d_F_stepFrom_15 : decode b_F_stepFrom 15 = .ok (.if_icmp .eq 42, 3) := by decide +kernel
theorem d_F_stepFrom_18 : decode b_F_stepFrom 18 = .ok (.aload_n 0, 1) := by decide +kernel
theorem d_F_stepFrom_19 : decode b_F_stepFrom 19 = .ok (.getfield 11, 3) := by decide +kernel
theorem d_F_stepFrom_22 : decode b_F_stepFrom 22 = .ok (.iload_n 3, 1) := by decide +kernel
theorem d_F_stepFrom_23 : decode b_F_stepFrom 23 = .ok (.iaload, 1) := by decide +kernel
theorem d_F_stepFrom_24 : decode b_F_stepFrom 24 = .ok (.ifCond .le 33, 3) := by decide +kernel
theorem d_F_stepFrom_27 : decode b_F_stepFrom 27 = .ok (.aload_n 0, 1) := by decide +kernel
theorem d_F_stepFrom_28 : decode b_F_stepFrom 28 = .ok (.getfield 15, 3) := by decide +kernel
theorem d_F_stepFrom_31 : decode b_F_stepFrom 31 = .ok (.iload_n 3, 1) := by decide +kernel
theorem d_F_stepFrom_32 : decode b_F_stepFrom 32 = .ok (.iaload, 1) := by decide +kernel
theorem d_F_stepFrom_33 : decode b_F_stepFrom 33 = .ok (.aload_n 0, 1) := by decide +kernel
theorem d_F_stepFrom_34 : decode b_F_stepFrom 34 = .ok (.getfield 11, 3) := by decide +kernel
theorem d_F_stepFrom_37 : decode b_F_stepFrom 37 = .ok (.iload_n 3, 1) := by decide +kernel
theorem d_F_stepFrom_38 : decode b_F_stepFrom 38 = .ok (.iaload, 1) := by decide +kernel
theorem d_F_stepFrom_39 : decode b_F_stepFrom 39 = .ok (.sipush 256, 3) := by decide +kernel
theorem d_F_stepFrom_42 : decode b_F_stepFrom 42 = .ok (.imul, 1) := by decide +kernel
theorem d_F_stepFrom_43 : decode b_F_stepFrom 43 = .ok (.iadd, 1) := by decide +kernel
theorem d_F_stepFrom_44 : decode b_F_stepFrom 44 = .ok (.iconst 1, 1) := by decide +kernel
theorem d_F_stepFrom_45 : decode b_F_stepFrom 45 = .ok (.iadd, 1) := by decide +kernel
theorem d_F_stepFrom_46 : decode b_F_stepFrom 46 = .ok (.aload_n 0, 1) := by decide +kernel
theorem d_F_stepFrom_47 : decode b_F_stepFrom 47 = .ok (.getfield 15, 3) := by decide +kernel
theorem d_F_stepFrom_50 : decode b_F_stepFrom 50 = .ok (.iload_n 1, 1) := by decide +kernel
theorem d_F_stepFrom_51 : decode b_F_stepFrom 51 = .ok (.iaload, 1) := by decide +kernel
theorem d_F_stepFrom_52 : decode b_F_stepFrom 52 = .ok (.if_icmp .ne 5, 3) := by decide +kernel
theorem d_F_stepFrom_55 : decode b_F_stepFrom 55 = .ok (.iload_n 3, 1) := by decide +kernel
theorem d_F_stepFrom_56 : decode b_F_stepFrom 56 = .ok (.ireturn, 1) := by decide +kernel
theorem d_F_stepFrom_57 : decode b_F_stepFrom 57 = .ok (.iinc 2 1, 3) := by decide +kernel
theorem d_F_stepFrom_60 : decode b_F_stepFrom 60 = .ok (.goto (-58), 3) := by decide +kernel
theorem d_F_stepFrom_63 : decode b_F_stepFrom 63 = .ok (.iconst (-1), 1) := by decide +kernel
theorem d_F_stepFrom_64 : decode b_F_stepFrom 64 = .ok (.ireturn, 1) := by decide +kernel
theorem d_F_beside_0 : decode b_F_beside 0 = .ok (.iload_n 0, 1) := by decide +kernel
theorem d_F_beside_1 : decode b_F_beside 1 = .ok (.bipush 12, 2) := by decide +kernel
theorem d_F_beside_3 : decode b_F_beside 3 = .ok (.irem, 1) := by decide +kernel
theorem d_F_beside_4 : decode b_F_beside 4 = .ok (.istore_n 2, 1) := by decide +kernel
theorem d_F_beside_5 : decode b_F_beside 5 = .ok (.iload_n 1, 1) := by decide +kernel
theorem d_F_beside_6 : decode b_F_beside 6 = .ok (.tableswitch 67 0 2 #[26, 41, 53], 26) := by decide +kernel
theorem d_F_beside_32 : decode b_F_beside 32 = .ok (.iload_n 0, 1) := by decide +kernel
theorem d_F_beside_33 : decode b_F_beside 33 = .ok (.bipush 12, 2) := by decide +kernel
theorem d_F_beside_35 : decode b_F_beside 35 = .ok (.if_icmp .lt 10, 3) := by decide +kernel
theorem d_F_beside_38 : decode b_F_beside 38 = .ok (.iload_n 0, 1) := by decide +kernel
theorem d_F_beside_39 : decode b_F_beside 39 = .ok (.bipush 12, 2) := by decide +kernel
theorem d_F_beside_41 : decode b_F_beside 41 = .ok (.isub, 1) := by decide +kernel
theorem d_F_beside_42 : decode b_F_beside 42 = .ok (.goto 4, 3) := by decide +kernel
theorem d_F_beside_45 : decode b_F_beside 45 = .ok (.iconst (-1), 1) := by decide +kernel
theorem d_F_beside_46 : decode b_F_beside 46 = .ok (.ireturn, 1) := by decide +kernel
theorem d_F_beside_47 : decode b_F_beside 47 = .ok (.iload_n 2, 1) := by decide +kernel
theorem d_F_beside_48 : decode b_F_beside 48 = .ok (.ifCond .le 9, 3) := by decide +kernel
theorem d_F_beside_51 : decode b_F_beside 51 = .ok (.iload_n 0, 1) := by decide +kernel
theorem d_F_beside_52 : decode b_F_beside 52 = .ok (.iconst 1, 1) := by decide +kernel
theorem d_F_beside_53 : decode b_F_beside 53 = .ok (.isub, 1) := by decide +kernel
theorem d_F_beside_54 : decode b_F_beside 54 = .ok (.goto 4, 3) := by decide +kernel
theorem d_F_beside_57 : decode b_F_beside 57 = .ok (.iconst (-1), 1) := by decide +kernel
theorem d_F_beside_58 : decode b_F_beside 58 = .ok (.ireturn, 1) := by decide +kernel
theorem d_F_beside_59 : decode b_F_beside 59 = .ok (.iload_n 2, 1) := by decide +kernel
theorem d_F_beside_60 : decode b_F_beside 60 = .ok (.bipush 11, 2) := by decide +kernel
theorem d_F_beside_62 : decode b_F_beside 62 = .ok (.if_icmp .ge 9, 3) := by decide +kernel
theorem d_F_beside_65 : decode b_F_beside 65 = .ok (.iload_n 0, 1) := by decide +kernel
theorem d_F_beside_66 : decode b_F_beside 66 = .ok (.iconst 1, 1) := by decide +kernel
theorem d_F_beside_67 : decode b_F_beside 67 = .ok (.iadd, 1) := by decide +kernel
theorem d_F_beside_68 : decode b_F_beside 68 = .ok (.goto 4, 3) := by decide +kernel
theorem d_F_beside_71 : decode b_F_beside 71 = .ok (.iconst (-1), 1) := by decide +kernel
theorem d_F_beside_72 : decode b_F_beside 72 = .ok (.ireturn, 1) := by decide +kernel
theorem d_F_beside_73 : decode b_F_beside 73 = .ok (.iload_n 0, 1) := by decide +kernel
theorem d_F_beside_74 : decode b_F_beside 74 = .ok (.sipush 132, 3) := by decide +kernel
theorem d_F_beside_77 : decode b_F_beside 77 = .ok (.if_icmp .ge 10, 3) := by decide +kernel
theorem d_F_beside_80 : decode b_F_beside 80 = .ok (.iload_n 0, 1) := by decide +kernel
theorem d_F_beside_81 : decode b_F_beside 81 = .ok (.bipush 12, 2) := by decide +kernel
theorem d_F_beside_83 : decode b_F_beside 83 = .ok (.iadd, 1) := by decide +kernel
theorem d_F_beside_84 : decode b_F_beside 84 = .ok (.goto 4, 3) := by decide +kernel
theorem d_F_beside_87 : decode b_F_beside 87 = .ok (.iconst (-1), 1) := by decide +kernel
theorem d_F_beside_88 : decode b_F_beside 88 = .ok (.ireturn, 1) := by decide +kernel
theorem d_N_init_0 : decode b_N_init 0 = .ok (.aload_n 0, 1) := by decide +kernel
theorem d_N_init_1 : decode b_N_init 1 = .ok (.invokespecial 3, 3) := by decide +kernel
theorem d_N_init_4 : decode b_N_init 4 = .ok (.aload_n 0, 1) := by decide +kernel
theorem d_N_init_5 : decode b_N_init 5 = .ok (.bipush 24, 2) := by decide +kernel
theorem d_N_init_7 : decode b_N_init 7 = .ok (.newarray .int, 2) := by decide +kernel
theorem d_N_init_9 : decode b_N_init 9 = .ok (.putfield 11, 3) := by decide +kernel
theorem d_N_init_12 : decode b_N_init 12 = .ok (.aload_n 0, 1) := by decide +kernel
theorem d_N_init_13 : decode b_N_init 13 = .ok (.bipush 24, 2) := by decide +kernel
theorem d_N_init_15 : decode b_N_init 15 = .ok (.newarray .int, 2) := by decide +kernel
theorem d_N_init_17 : decode b_N_init 17 = .ok (.putfield 15, 3) := by decide +kernel
theorem d_N_init_20 : decode b_N_init 20 = .ok (.aload_n 0, 1) := by decide +kernel
theorem d_N_init_21 : decode b_N_init 21 = .ok (.bipush 24, 2) := by decide +kernel
theorem d_N_init_23 : decode b_N_init 23 = .ok (.newarray .int, 2) := by decide +kernel
theorem d_N_init_25 : decode b_N_init 25 = .ok (.putfield 18, 3) := by decide +kernel
theorem d_N_init_28 : decode b_N_init 28 = .ok (.aload_n 0, 1) := by decide +kernel
theorem d_N_init_29 : decode b_N_init 29 = .ok (.bipush 24, 2) := by decide +kernel
theorem d_N_init_31 : decode b_N_init 31 = .ok (.newarray .int, 2) := by decide +kernel
theorem d_N_init_33 : decode b_N_init 33 = .ok (.putfield 21, 3) := by decide +kernel
theorem d_N_init_36 : decode b_N_init 36 = .ok (.aload_n 0, 1) := by decide +kernel
theorem d_N_init_37 : decode b_N_init 37 = .ok (.bipush 24, 2) := by decide +kernel
theorem d_N_init_39 : decode b_N_init 39 = .ok (.newarray .boolean, 2) := by decide +kernel
theorem d_N_init_41 : decode b_N_init 41 = .ok (.putfield 24, 3) := by decide +kernel
theorem d_N_init_44 : decode b_N_init 44 = .ok (.aload_n 0, 1) := by decide +kernel
theorem d_N_init_45 : decode b_N_init 45 = .ok (.bipush 24, 2) := by decide +kernel
theorem d_N_init_47 : decode b_N_init 47 = .ok (.newarray .int, 2) := by decide +kernel
theorem d_N_init_49 : decode b_N_init 49 = .ok (.putfield 28, 3) := by decide +kernel
theorem d_N_init_52 : decode b_N_init 52 = .ok (.aload_n 0, 1) := by decide +kernel
theorem d_N_init_53 : decode b_N_init 53 = .ok (.sipush 3456, 3) := by decide +kernel
theorem d_N_init_56 : decode b_N_init 56 = .ok (.newarray .int, 2) := by decide +kernel
theorem d_N_init_58 : decode b_N_init 58 = .ok (.putfield 33, 3) := by decide +kernel
theorem d_N_init_61 : decode b_N_init 61 = .ok (.return_, 1) := by decide +kernel
theorem d_N_holds_0 : decode b_N_holds 0 = .ok (.iload_n 1, 1) := by decide +kernel
theorem d_N_holds_1 : decode b_N_holds 1 = .ok (.ifCond .lt 15, 3) := by decide +kernel
theorem d_N_holds_4 : decode b_N_holds 4 = .ok (.iload_n 1, 1) := by decide +kernel
theorem d_N_holds_5 : decode b_N_holds 5 = .ok (.aload_n 0, 1) := by decide +kernel
theorem d_N_holds_6 : decode b_N_holds 6 = .ok (.getfield 36, 3) := by decide +kernel
theorem d_N_holds_9 : decode b_N_holds 9 = .ok (.if_icmp .ge 7, 3) := by decide +kernel
theorem d_N_holds_12 : decode b_N_holds 12 = .ok (.iconst 1, 1) := by decide +kernel
theorem d_N_holds_13 : decode b_N_holds 13 = .ok (.goto 4, 3) := by decide +kernel
theorem d_N_holds_16 : decode b_N_holds 16 = .ok (.iconst 0, 1) := by decide +kernel
theorem d_N_holds_17 : decode b_N_holds 17 = .ok (.ireturn, 1) := by decide +kernel
theorem d_N_isFull_0 : decode b_N_isFull 0 = .ok (.aload_n 0, 1) := by decide +kernel
theorem d_N_isFull_1 : decode b_N_isFull 1 = .ok (.getfield 36, 3) := by decide +kernel
theorem d_N_isFull_4 : decode b_N_isFull 4 = .ok (.bipush 24, 2) := by decide +kernel
theorem d_N_isFull_6 : decode b_N_isFull 6 = .ok (.if_icmp .lt 7, 3) := by decide +kernel
theorem d_N_isFull_9 : decode b_N_isFull 9 = .ok (.iconst 1, 1) := by decide +kernel
theorem d_N_isFull_10 : decode b_N_isFull 10 = .ok (.goto 4, 3) := by decide +kernel
theorem d_N_isFull_13 : decode b_N_isFull 13 = .ok (.iconst 0, 1) := by decide +kernel
theorem d_N_isFull_14 : decode b_N_isFull 14 = .ok (.ireturn, 1) := by decide +kernel
theorem d_N_addMain_0 : decode b_N_addMain 0 = .ok (.aload_n 0, 1) := by decide +kernel
theorem d_N_addMain_1 : decode b_N_addMain 1 = .ok (.iload_n 1, 1) := by decide +kernel
theorem d_N_addMain_2 : decode b_N_addMain 2 = .ok (.iconst (-1), 1) := by decide +kernel
theorem d_N_addMain_3 : decode b_N_addMain 3 = .ok (.iload_n 2, 1) := by decide +kernel
theorem d_N_addMain_4 : decode b_N_addMain 4 = .ok (.iconst 0, 1) := by decide +kernel
theorem d_N_addMain_5 : decode b_N_addMain 5 = .ok (.invokevirtual 40, 3) := by decide +kernel
theorem d_N_addMain_8 : decode b_N_addMain 8 = .ok (.istore_n 3, 1) := by decide +kernel
theorem d_N_addMain_9 : decode b_N_addMain 9 = .ok (.aload_n 0, 1) := by decide +kernel
theorem d_N_addMain_10 : decode b_N_addMain 10 = .ok (.getfield 24, 3) := by decide +kernel
theorem d_N_addMain_13 : decode b_N_addMain 13 = .ok (.iload_n 3, 1) := by decide +kernel
theorem d_N_addMain_14 : decode b_N_addMain 14 = .ok (.iload_n 2, 1) := by decide +kernel
theorem d_N_addMain_15 : decode b_N_addMain 15 = .ok (.ifCond .ne 7, 3) := by decide +kernel
theorem d_N_addMain_18 : decode b_N_addMain 18 = .ok (.iconst 1, 1) := by decide +kernel
theorem d_N_addMain_19 : decode b_N_addMain 19 = .ok (.goto 4, 3) := by decide +kernel
theorem d_N_addMain_22 : decode b_N_addMain 22 = .ok (.iconst 0, 1) := by decide +kernel
theorem d_N_addMain_23 : decode b_N_addMain 23 = .ok (.bastore, 1) := by decide +kernel
theorem d_N_addMain_24 : decode b_N_addMain 24 = .ok (.iload_n 3, 1) := by decide +kernel
theorem d_N_addMain_25 : decode b_N_addMain 25 = .ok (.ireturn, 1) := by decide +kernel
theorem d_N_addHung_0 : decode b_N_addHung 0 = .ok (.aload_n 0, 1) := by decide +kernel
theorem d_N_addHung_1 : decode b_N_addHung 1 = .ok (.iload_n 2, 1) := by decide +kernel
theorem d_N_addHung_2 : decode b_N_addHung 2 = .ok (.iload_n 1, 1) := by decide +kernel
theorem d_N_addHung_3 : decode b_N_addHung 3 = .ok (.aload_n 0, 1) := by decide +kernel
theorem d_N_addHung_4 : decode b_N_addHung 4 = .ok (.getfield 18, 3) := by decide +kernel
theorem d_N_addHung_7 : decode b_N_addHung 7 = .ok (.iload_n 1, 1) := by decide +kernel
theorem d_N_addHung_8 : decode b_N_addHung 8 = .ok (.iaload, 1) := by decide +kernel
theorem d_N_addHung_9 : decode b_N_addHung 9 = .ok (.iload_n 3, 1) := by decide +kernel
theorem d_N_addHung_10 : decode b_N_addHung 10 = .ok (.invokevirtual 40, 3) := by decide +kernel
theorem d_N_addHung_13 : decode b_N_addHung 13 = .ok (.istore 5, 2) := by decide +kernel
theorem d_N_addHung_15 : decode b_N_addHung 15 = .ok (.aload_n 0, 1) := by decide +kernel
theorem d_N_addHung_16 : decode b_N_addHung 16 = .ok (.iload 5, 2) := by decide +kernel
theorem d_N_addHung_18 : decode b_N_addHung 18 = .ok (.aload 4, 2) := by decide +kernel
theorem d_N_addHung_20 : decode b_N_addHung 20 = .ok (.invokevirtual 44, 3) := by decide +kernel
theorem d_N_addHung_23 : decode b_N_addHung 23 = .ok (.pop, 1) := by decide +kernel
theorem d_N_addHung_24 : decode b_N_addHung 24 = .ok (.iload 5, 2) := by decide +kernel
theorem d_N_addHung_26 : decode b_N_addHung 26 = .ok (.ireturn, 1) := by decide +kernel
theorem d_N_add_0 : decode b_N_add 0 = .ok (.aload_n 0, 1) := by decide +kernel
theorem d_N_add_1 : decode b_N_add 1 = .ok (.getfield 36, 3) := by decide +kernel
theorem d_N_add_4 : decode b_N_add 4 = .ok (.istore 5, 2) := by decide +kernel
theorem d_N_add_6 : decode b_N_add 6 = .ok (.aload_n 0, 1) := by decide +kernel
theorem d_N_add_7 : decode b_N_add 7 = .ok (.getfield 11, 3) := by decide +kernel
theorem d_N_add_10 : decode b_N_add 10 = .ok (.iload 5, 2) := by decide +kernel
theorem d_N_add_12 : decode b_N_add 12 = .ok (.iload_n 1, 1) := by decide +kernel
theorem d_N_add_13 : decode b_N_add 13 = .ok (.iastore, 1) := by decide +kernel
theorem d_N_add_14 : decode b_N_add 14 = .ok (.aload_n 0, 1) := by decide +kernel
theorem d_N_add_15 : decode b_N_add 15 = .ok (.getfield 15, 3) := by decide +kernel
theorem d_N_add_18 : decode b_N_add 18 = .ok (.iload 5, 2) := by decide +kernel
theorem d_N_add_20 : decode b_N_add 20 = .ok (.iload_n 2, 1) := by decide +kernel
theorem d_N_add_21 : decode b_N_add 21 = .ok (.iastore, 1) := by decide +kernel
theorem d_N_add_22 : decode b_N_add 22 = .ok (.aload_n 0, 1) := by decide +kernel
theorem d_N_add_23 : decode b_N_add 23 = .ok (.getfield 18, 3) := by decide +kernel
theorem d_N_add_26 : decode b_N_add 26 = .ok (.iload 5, 2) := by decide +kernel
theorem d_N_add_28 : decode b_N_add 28 = .ok (.iload_n 3, 1) := by decide +kernel
theorem d_N_add_29 : decode b_N_add 29 = .ok (.iastore, 1) := by decide +kernel
theorem d_N_add_30 : decode b_N_add 30 = .ok (.aload_n 0, 1) := by decide +kernel
theorem d_N_add_31 : decode b_N_add 31 = .ok (.getfield 21, 3) := by decide +kernel
theorem d_N_add_34 : decode b_N_add 34 = .ok (.iload 5, 2) := by decide +kernel
theorem d_N_add_36 : decode b_N_add 36 = .ok (.iload 4, 2) := by decide +kernel
theorem d_N_add_38 : decode b_N_add 38 = .ok (.iastore, 1) := by decide +kernel
theorem d_N_add_39 : decode b_N_add 39 = .ok (.aload_n 0, 1) := by decide +kernel
theorem d_N_add_40 : decode b_N_add 40 = .ok (.getfield 24, 3) := by decide +kernel
theorem d_N_add_43 : decode b_N_add 43 = .ok (.iload 5, 2) := by decide +kernel
theorem d_N_add_45 : decode b_N_add 45 = .ok (.iconst 0, 1) := by decide +kernel
theorem d_N_add_46 : decode b_N_add 46 = .ok (.bastore, 1) := by decide +kernel
theorem d_N_add_47 : decode b_N_add 47 = .ok (.aload_n 0, 1) := by decide +kernel
theorem d_N_add_48 : decode b_N_add 48 = .ok (.getfield 28, 3) := by decide +kernel
theorem d_N_add_51 : decode b_N_add 51 = .ok (.iload 5, 2) := by decide +kernel
theorem d_N_add_53 : decode b_N_add 53 = .ok (.iconst 0, 1) := by decide +kernel
theorem d_N_add_54 : decode b_N_add 54 = .ok (.iastore, 1) := by decide +kernel
theorem d_N_add_55 : decode b_N_add 55 = .ok (.aload_n 0, 1) := by decide +kernel
theorem d_N_add_56 : decode b_N_add 56 = .ok (.dup, 1) := by decide +kernel
theorem d_N_add_57 : decode b_N_add 57 = .ok (.getfield 36, 3) := by decide +kernel
theorem d_N_add_60 : decode b_N_add 60 = .ok (.iconst 1, 1) := by decide +kernel
theorem d_N_add_61 : decode b_N_add 61 = .ok (.iadd, 1) := by decide +kernel
theorem d_N_add_62 : decode b_N_add 62 = .ok (.putfield 36, 3) := by decide +kernel
theorem d_N_add_65 : decode b_N_add 65 = .ok (.iload 5, 2) := by decide +kernel
theorem d_N_add_67 : decode b_N_add 67 = .ok (.ireturn, 1) := by decide +kernel
theorem d_N_removeFrom_0 : decode b_N_removeFrom 0 = .ok (.aload_n 0, 1) := by decide +kernel
theorem d_N_removeFrom_1 : decode b_N_removeFrom 1 = .ok (.getfield 36, 3) := by decide +kernel
theorem d_N_removeFrom_4 : decode b_N_removeFrom 4 = .ok (.iload_n 1, 1) := by decide +kernel
theorem d_N_removeFrom_5 : decode b_N_removeFrom 5 = .ok (.isub, 1) := by decide +kernel
theorem d_N_removeFrom_6 : decode b_N_removeFrom 6 = .ok (.istore_n 2, 1) := by decide +kernel
theorem d_N_removeFrom_7 : decode b_N_removeFrom 7 = .ok (.aload_n 0, 1) := by decide +kernel
theorem d_N_removeFrom_8 : decode b_N_removeFrom 8 = .ok (.iload_n 1, 1) := by decide +kernel
theorem d_N_removeFrom_9 : decode b_N_removeFrom 9 = .ok (.putfield 36, 3) := by decide +kernel
theorem d_N_removeFrom_12 : decode b_N_removeFrom 12 = .ok (.iload_n 2, 1) := by decide +kernel
theorem d_N_removeFrom_13 : decode b_N_removeFrom 13 = .ok (.ireturn, 1) := by decide +kernel
theorem d_N_layRun_0 : decode b_N_layRun 0 = .ok (.aload_n 2, 1) := by decide +kernel
theorem d_N_layRun_1 : decode b_N_layRun 1 = .ok (.invokevirtual 48, 3) := by decide +kernel
theorem d_N_layRun_4 : decode b_N_layRun 4 = .ok (.istore_n 3, 1) := by decide +kernel
theorem d_N_layRun_5 : decode b_N_layRun 5 = .ok (.aload_n 0, 1) := by decide +kernel
theorem d_N_layRun_6 : decode b_N_layRun 6 = .ok (.getfield 28, 3) := by decide +kernel
theorem d_N_layRun_9 : decode b_N_layRun 9 = .ok (.iload_n 1, 1) := by decide +kernel
theorem d_N_layRun_10 : decode b_N_layRun 10 = .ok (.iaload, 1) := by decide +kernel
theorem d_N_layRun_11 : decode b_N_layRun 11 = .ok (.iload_n 3, 1) := by decide +kernel
theorem d_N_layRun_12 : decode b_N_layRun 12 = .ok (.if_icmp .eq 7, 3) := by decide +kernel
theorem d_N_layRun_15 : decode b_N_layRun 15 = .ok (.iconst 1, 1) := by decide +kernel
theorem d_N_layRun_16 : decode b_N_layRun 16 = .ok (.goto 4, 3) := by decide +kernel
theorem d_N_layRun_19 : decode b_N_layRun 19 = .ok (.iconst 0, 1) := by decide +kernel
theorem d_N_layRun_20 : decode b_N_layRun 20 = .ok (.istore 4, 2) := by decide +kernel
theorem d_N_layRun_22 : decode b_N_layRun 22 = .ok (.aload_n 0, 1) := by decide +kernel
theorem d_N_layRun_23 : decode b_N_layRun 23 = .ok (.getfield 28, 3) := by decide +kernel
theorem d_N_layRun_26 : decode b_N_layRun 26 = .ok (.iload_n 1, 1) := by decide +kernel
theorem d_N_layRun_27 : decode b_N_layRun 27 = .ok (.iload_n 3, 1) := by decide +kernel
theorem d_N_layRun_28 : decode b_N_layRun 28 = .ok (.iastore, 1) := by decide +kernel
theorem d_N_layRun_29 : decode b_N_layRun 29 = .ok (.iconst 0, 1) := by decide +kernel
theorem d_N_layRun_30 : decode b_N_layRun 30 = .ok (.istore 5, 2) := by decide +kernel
theorem d_N_layRun_32 : decode b_N_layRun 32 = .ok (.iload 5, 2) := by decide +kernel
theorem d_N_layRun_34 : decode b_N_layRun 34 = .ok (.iload_n 3, 1) := by decide +kernel
theorem d_N_layRun_35 : decode b_N_layRun 35 = .ok (.if_icmp .ge 60, 3) := by decide +kernel
theorem d_N_layRun_38 : decode b_N_layRun 38 = .ok (.iload_n 1, 1) := by decide +kernel
theorem d_N_layRun_39 : decode b_N_layRun 39 = .ok (.sipush 144, 3) := by decide +kernel
theorem d_N_layRun_42 : decode b_N_layRun 42 = .ok (.imul, 1) := by decide +kernel
theorem d_N_layRun_43 : decode b_N_layRun 43 = .ok (.iload 5, 2) := by decide +kernel
theorem d_N_layRun_45 : decode b_N_layRun 45 = .ok (.iadd, 1) := by decide +kernel
theorem d_N_layRun_46 : decode b_N_layRun 46 = .ok (.istore 6, 2) := by decide +kernel
theorem d_N_layRun_48 : decode b_N_layRun 48 = .ok (.iload 4, 2) := by decide +kernel
theorem d_N_layRun_50 : decode b_N_layRun 50 = .ok (.ifCond .ne 19, 3) := by decide +kernel
theorem d_N_layRun_53 : decode b_N_layRun 53 = .ok (.aload_n 0, 1) := by decide +kernel
theorem d_N_layRun_54 : decode b_N_layRun 54 = .ok (.getfield 33, 3) := by decide +kernel
theorem d_N_layRun_57 : decode b_N_layRun 57 = .ok (.iload 6, 2) := by decide +kernel
theorem d_N_layRun_59 : decode b_N_layRun 59 = .ok (.iaload, 1) := by decide +kernel
theorem d_N_layRun_60 : decode b_N_layRun 60 = .ok (.aload_n 2, 1) := by decide +kernel
theorem d_N_layRun_61 : decode b_N_layRun 61 = .ok (.iload 5, 2) := by decide +kernel
theorem d_N_layRun_63 : decode b_N_layRun 63 = .ok (.invokevirtual 52, 3) := by decide +kernel
theorem d_N_layRun_66 : decode b_N_layRun 66 = .ok (.if_icmp .eq 7, 3) := by decide +kernel
theorem d_N_layRun_69 : decode b_N_layRun 69 = .ok (.iconst 1, 1) := by decide +kernel
theorem d_N_layRun_70 : decode b_N_layRun 70 = .ok (.goto 4, 3) := by decide +kernel
theorem d_N_layRun_73 : decode b_N_layRun 73 = .ok (.iconst 0, 1) := by decide +kernel
theorem d_N_layRun_74 : decode b_N_layRun 74 = .ok (.istore 4, 2) := by decide +kernel
theorem d_N_layRun_76 : decode b_N_layRun 76 = .ok (.aload_n 0, 1) := by decide +kernel
theorem d_N_layRun_77 : decode b_N_layRun 77 = .ok (.getfield 33, 3) := by decide +kernel
theorem d_N_layRun_80 : decode b_N_layRun 80 = .ok (.iload 6, 2) := by decide +kernel
theorem d_N_layRun_82 : decode b_N_layRun 82 = .ok (.aload_n 2, 1) := by decide +kernel
theorem d_N_layRun_83 : decode b_N_layRun 83 = .ok (.iload 5, 2) := by decide +kernel
theorem d_N_layRun_85 : decode b_N_layRun 85 = .ok (.invokevirtual 52, 3) := by decide +kernel
theorem d_N_layRun_88 : decode b_N_layRun 88 = .ok (.iastore, 1) := by decide +kernel
theorem d_N_layRun_89 : decode b_N_layRun 89 = .ok (.iinc 5 1, 3) := by decide +kernel
theorem d_N_layRun_92 : decode b_N_layRun 92 = .ok (.goto (-60), 3) := by decide +kernel
theorem d_N_layRun_95 : decode b_N_layRun 95 = .ok (.iload 4, 2) := by decide +kernel
theorem d_N_layRun_97 : decode b_N_layRun 97 = .ok (.ireturn, 1) := by decide +kernel
theorem d_N_changeUnits_0 : decode b_N_changeUnits 0 = .ok (.aload_n 0, 1) := by decide +kernel
theorem d_N_changeUnits_1 : decode b_N_changeUnits 1 = .ok (.getfield 21, 3) := by decide +kernel
theorem d_N_changeUnits_4 : decode b_N_changeUnits 4 = .ok (.iload_n 1, 1) := by decide +kernel
theorem d_N_changeUnits_5 : decode b_N_changeUnits 5 = .ok (.iaload, 1) := by decide +kernel
theorem d_N_changeUnits_6 : decode b_N_changeUnits 6 = .ok (.istore_n 3, 1) := by decide +kernel
theorem d_N_changeUnits_7 : decode b_N_changeUnits 7 = .ok (.aload_n 0, 1) := by decide +kernel
theorem d_N_changeUnits_8 : decode b_N_changeUnits 8 = .ok (.getfield 21, 3) := by decide +kernel
theorem d_N_changeUnits_11 : decode b_N_changeUnits 11 = .ok (.iload_n 1, 1) := by decide +kernel
theorem d_N_changeUnits_12 : decode b_N_changeUnits 12 = .ok (.iload_n 2, 1) := by decide +kernel
theorem d_N_changeUnits_13 : decode b_N_changeUnits 13 = .ok (.iastore, 1) := by decide +kernel
theorem d_N_changeUnits_14 : decode b_N_changeUnits 14 = .ok (.iload_n 3, 1) := by decide +kernel
theorem d_N_changeUnits_15 : decode b_N_changeUnits 15 = .ok (.ireturn, 1) := by decide +kernel
theorem d_N_changeAired_0 : decode b_N_changeAired 0 = .ok (.aload_n 0, 1) := by decide +kernel
theorem d_N_changeAired_1 : decode b_N_changeAired 1 = .ok (.getfield 24, 3) := by decide +kernel
theorem d_N_changeAired_4 : decode b_N_changeAired 4 = .ok (.iload_n 1, 1) := by decide +kernel
theorem d_N_changeAired_5 : decode b_N_changeAired 5 = .ok (.baload, 1) := by decide +kernel
theorem d_N_changeAired_6 : decode b_N_changeAired 6 = .ok (.istore_n 3, 1) := by decide +kernel
theorem d_N_changeAired_7 : decode b_N_changeAired 7 = .ok (.aload_n 0, 1) := by decide +kernel
theorem d_N_changeAired_8 : decode b_N_changeAired 8 = .ok (.getfield 24, 3) := by decide +kernel
theorem d_N_changeAired_11 : decode b_N_changeAired 11 = .ok (.iload_n 1, 1) := by decide +kernel
theorem d_N_changeAired_12 : decode b_N_changeAired 12 = .ok (.iload_n 2, 1) := by decide +kernel
theorem d_N_changeAired_13 : decode b_N_changeAired 13 = .ok (.bastore, 1) := by decide +kernel
theorem d_N_changeAired_14 : decode b_N_changeAired 14 = .ok (.iload_n 3, 1) := by decide +kernel
theorem d_N_changeAired_15 : decode b_N_changeAired 15 = .ok (.ireturn, 1) := by decide +kernel
theorem d_N_number_0 : decode b_N_number 0 = .ok (.aload_n 0, 1) := by decide +kernel
theorem d_N_number_1 : decode b_N_number 1 = .ok (.getfield 36, 3) := by decide +kernel
theorem d_N_number_4 : decode b_N_number 4 = .ok (.ireturn, 1) := by decide +kernel
theorem d_N_isMain_0 : decode b_N_isMain 0 = .ok (.aload_n 0, 1) := by decide +kernel
theorem d_N_isMain_1 : decode b_N_isMain 1 = .ok (.getfield 15, 3) := by decide +kernel
theorem d_N_isMain_4 : decode b_N_isMain 4 = .ok (.iload_n 1, 1) := by decide +kernel
theorem d_N_isMain_5 : decode b_N_isMain 5 = .ok (.iaload, 1) := by decide +kernel
theorem d_N_isMain_6 : decode b_N_isMain 6 = .ok (.iconst (-1), 1) := by decide +kernel
theorem d_N_isMain_7 : decode b_N_isMain 7 = .ok (.if_icmp .ne 7, 3) := by decide +kernel
theorem d_N_isMain_10 : decode b_N_isMain 10 = .ok (.iconst 1, 1) := by decide +kernel
theorem d_N_isMain_11 : decode b_N_isMain 11 = .ok (.goto 4, 3) := by decide +kernel
theorem d_N_isMain_14 : decode b_N_isMain 14 = .ok (.iconst 0, 1) := by decide +kernel
theorem d_N_isMain_15 : decode b_N_isMain 15 = .ok (.ireturn, 1) := by decide +kernel
theorem d_N_isDrain_0 : decode b_N_isDrain 0 = .ok (.aload_n 0, 1) := by decide +kernel
theorem d_N_isDrain_1 : decode b_N_isDrain 1 = .ok (.getfield 18, 3) := by decide +kernel
theorem d_N_isDrain_4 : decode b_N_isDrain 4 = .ok (.iload_n 1, 1) := by decide +kernel
theorem d_N_isDrain_5 : decode b_N_isDrain 5 = .ok (.iaload, 1) := by decide +kernel
theorem d_N_isDrain_6 : decode b_N_isDrain 6 = .ok (.ifCond .ne 7, 3) := by decide +kernel
theorem d_N_isDrain_9 : decode b_N_isDrain 9 = .ok (.iconst 1, 1) := by decide +kernel
theorem d_N_isDrain_10 : decode b_N_isDrain 10 = .ok (.goto 4, 3) := by decide +kernel
theorem d_N_isDrain_13 : decode b_N_isDrain 13 = .ok (.iconst 0, 1) := by decide +kernel
theorem d_N_isDrain_14 : decode b_N_isDrain 14 = .ok (.ireturn, 1) := by decide +kernel
theorem d_N_isAired_0 : decode b_N_isAired 0 = .ok (.aload_n 0, 1) := by decide +kernel
theorem d_N_isAired_1 : decode b_N_isAired 1 = .ok (.getfield 24, 3) := by decide +kernel
theorem d_N_isAired_4 : decode b_N_isAired 4 = .ok (.iload_n 1, 1) := by decide +kernel
theorem d_N_isAired_5 : decode b_N_isAired 5 = .ok (.baload, 1) := by decide +kernel
theorem d_N_isAired_6 : decode b_N_isAired 6 = .ok (.ireturn, 1) := by decide +kernel
theorem d_N_hasTrap_0 : decode b_N_hasTrap 0 = .ok (.aload_n 0, 1) := by decide +kernel
theorem d_N_hasTrap_1 : decode b_N_hasTrap 1 = .ok (.iload_n 1, 1) := by decide +kernel
theorem d_N_hasTrap_2 : decode b_N_hasTrap 2 = .ok (.invokevirtual 56, 3) := by decide +kernel
theorem d_N_hasTrap_5 : decode b_N_hasTrap 5 = .ok (.ifCond .eq 16, 3) := by decide +kernel
theorem d_N_hasTrap_8 : decode b_N_hasTrap 8 = .ok (.aload_n 0, 1) := by decide +kernel
theorem d_N_hasTrap_9 : decode b_N_hasTrap 9 = .ok (.getfield 21, 3) := by decide +kernel
theorem d_N_hasTrap_12 : decode b_N_hasTrap 12 = .ok (.iload_n 1, 1) := by decide +kernel
theorem d_N_hasTrap_13 : decode b_N_hasTrap 13 = .ok (.iaload, 1) := by decide +kernel
theorem d_N_hasTrap_14 : decode b_N_hasTrap 14 = .ok (.ifCond .le 7, 3) := by decide +kernel
theorem d_N_hasTrap_17 : decode b_N_hasTrap 17 = .ok (.iconst 1, 1) := by decide +kernel
theorem d_N_hasTrap_18 : decode b_N_hasTrap 18 = .ok (.goto 4, 3) := by decide +kernel
theorem d_N_hasTrap_21 : decode b_N_hasTrap 21 = .ok (.iconst 0, 1) := by decide +kernel
theorem d_N_hasTrap_22 : decode b_N_hasTrap 22 = .ok (.ireturn, 1) := by decide +kernel
theorem d_N_cellOf_0 : decode b_N_cellOf 0 = .ok (.aload_n 0, 1) := by decide +kernel
theorem d_N_cellOf_1 : decode b_N_cellOf 1 = .ok (.getfield 11, 3) := by decide +kernel
theorem d_N_cellOf_4 : decode b_N_cellOf 4 = .ok (.iload_n 1, 1) := by decide +kernel
theorem d_N_cellOf_5 : decode b_N_cellOf 5 = .ok (.iaload, 1) := by decide +kernel
theorem d_N_cellOf_6 : decode b_N_cellOf 6 = .ok (.ireturn, 1) := by decide +kernel
theorem d_N_aboveOf_0 : decode b_N_aboveOf 0 = .ok (.aload_n 0, 1) := by decide +kernel
theorem d_N_aboveOf_1 : decode b_N_aboveOf 1 = .ok (.getfield 15, 3) := by decide +kernel
theorem d_N_aboveOf_4 : decode b_N_aboveOf 4 = .ok (.iload_n 1, 1) := by decide +kernel
theorem d_N_aboveOf_5 : decode b_N_aboveOf 5 = .ok (.iaload, 1) := by decide +kernel
theorem d_N_aboveOf_6 : decode b_N_aboveOf 6 = .ok (.ireturn, 1) := by decide +kernel
theorem d_N_cellAbove_0 : decode b_N_cellAbove 0 = .ok (.aload_n 0, 1) := by decide +kernel
theorem d_N_cellAbove_1 : decode b_N_cellAbove 1 = .ok (.getfield 15, 3) := by decide +kernel
theorem d_N_cellAbove_4 : decode b_N_cellAbove 4 = .ok (.iload_n 1, 1) := by decide +kernel
theorem d_N_cellAbove_5 : decode b_N_cellAbove 5 = .ok (.iaload, 1) := by decide +kernel
theorem d_N_cellAbove_6 : decode b_N_cellAbove 6 = .ok (.istore_n 2, 1) := by decide +kernel
theorem d_N_cellAbove_7 : decode b_N_cellAbove 7 = .ok (.iload_n 2, 1) := by decide +kernel
theorem d_N_cellAbove_8 : decode b_N_cellAbove 8 = .ok (.iconst (-1), 1) := by decide +kernel
theorem d_N_cellAbove_9 : decode b_N_cellAbove 9 = .ok (.if_icmp .ne 12, 3) := by decide +kernel
theorem d_N_cellAbove_12 : decode b_N_cellAbove 12 = .ok (.aload_n 0, 1) := by decide +kernel
theorem d_N_cellAbove_13 : decode b_N_cellAbove 13 = .ok (.getfield 11, 3) := by decide +kernel
theorem d_N_cellAbove_16 : decode b_N_cellAbove 16 = .ok (.iload_n 1, 1) := by decide +kernel
theorem d_N_cellAbove_17 : decode b_N_cellAbove 17 = .ok (.iaload, 1) := by decide +kernel
theorem d_N_cellAbove_18 : decode b_N_cellAbove 18 = .ok (.goto 9, 3) := by decide +kernel
theorem d_N_cellAbove_21 : decode b_N_cellAbove 21 = .ok (.aload_n 0, 1) := by decide +kernel
theorem d_N_cellAbove_22 : decode b_N_cellAbove 22 = .ok (.getfield 11, 3) := by decide +kernel
theorem d_N_cellAbove_25 : decode b_N_cellAbove 25 = .ok (.iload_n 2, 1) := by decide +kernel
theorem d_N_cellAbove_26 : decode b_N_cellAbove 26 = .ok (.iaload, 1) := by decide +kernel
theorem d_N_cellAbove_27 : decode b_N_cellAbove 27 = .ok (.ireturn, 1) := by decide +kernel
theorem d_N_sortOf_0 : decode b_N_sortOf 0 = .ok (.aload_n 0, 1) := by decide +kernel
theorem d_N_sortOf_1 : decode b_N_sortOf 1 = .ok (.getfield 18, 3) := by decide +kernel
theorem d_N_sortOf_4 : decode b_N_sortOf 4 = .ok (.iload_n 1, 1) := by decide +kernel
theorem d_N_sortOf_5 : decode b_N_sortOf 5 = .ok (.iaload, 1) := by decide +kernel
theorem d_N_sortOf_6 : decode b_N_sortOf 6 = .ok (.ireturn, 1) := by decide +kernel
theorem d_N_unitsOf_0 : decode b_N_unitsOf 0 = .ok (.aload_n 0, 1) := by decide +kernel
theorem d_N_unitsOf_1 : decode b_N_unitsOf 1 = .ok (.getfield 21, 3) := by decide +kernel
theorem d_N_unitsOf_4 : decode b_N_unitsOf 4 = .ok (.iload_n 1, 1) := by decide +kernel
theorem d_N_unitsOf_5 : decode b_N_unitsOf 5 = .ok (.iaload, 1) := by decide +kernel
theorem d_N_unitsOf_6 : decode b_N_unitsOf 6 = .ok (.ireturn, 1) := by decide +kernel
theorem d_N_cellsOfRun_0 : decode b_N_cellsOfRun 0 = .ok (.aload_n 0, 1) := by decide +kernel
theorem d_N_cellsOfRun_1 : decode b_N_cellsOfRun 1 = .ok (.getfield 28, 3) := by decide +kernel
theorem d_N_cellsOfRun_4 : decode b_N_cellsOfRun 4 = .ok (.iload_n 1, 1) := by decide +kernel
theorem d_N_cellsOfRun_5 : decode b_N_cellsOfRun 5 = .ok (.iaload, 1) := by decide +kernel
theorem d_N_cellsOfRun_6 : decode b_N_cellsOfRun 6 = .ok (.ireturn, 1) := by decide +kernel
theorem d_N_hasRunCell_0 : decode b_N_hasRunCell 0 = .ok (.iload_n 2, 1) := by decide +kernel
theorem d_N_hasRunCell_1 : decode b_N_hasRunCell 1 = .ok (.ifCond .lt 17, 3) := by decide +kernel
theorem d_N_hasRunCell_4 : decode b_N_hasRunCell 4 = .ok (.iload_n 2, 1) := by decide +kernel
theorem d_N_hasRunCell_5 : decode b_N_hasRunCell 5 = .ok (.aload_n 0, 1) := by decide +kernel
theorem d_N_hasRunCell_6 : decode b_N_hasRunCell 6 = .ok (.getfield 28, 3) := by decide +kernel
theorem d_N_hasRunCell_9 : decode b_N_hasRunCell 9 = .ok (.iload_n 1, 1) := by decide +kernel
theorem d_N_hasRunCell_10 : decode b_N_hasRunCell 10 = .ok (.iaload, 1) := by decide +kernel
theorem d_N_hasRunCell_11 : decode b_N_hasRunCell 11 = .ok (.if_icmp .ge 7, 3) := by decide +kernel
theorem d_N_hasRunCell_14 : decode b_N_hasRunCell 14 = .ok (.iconst 1, 1) := by decide +kernel
theorem d_N_hasRunCell_15 : decode b_N_hasRunCell 15 = .ok (.goto 4, 3) := by decide +kernel
theorem d_N_hasRunCell_18 : decode b_N_hasRunCell 18 = .ok (.iconst 0, 1) := by decide +kernel
theorem d_N_hasRunCell_19 : decode b_N_hasRunCell 19 = .ok (.ireturn, 1) := by decide +kernel
theorem d_N_runCell_0 : decode b_N_runCell 0 = .ok (.aload_n 0, 1) := by decide +kernel
theorem d_N_runCell_1 : decode b_N_runCell 1 = .ok (.getfield 33, 3) := by decide +kernel
theorem d_N_runCell_4 : decode b_N_runCell 4 = .ok (.iload_n 1, 1) := by decide +kernel
theorem d_N_runCell_5 : decode b_N_runCell 5 = .ok (.sipush 144, 3) := by decide +kernel
theorem d_N_runCell_8 : decode b_N_runCell 8 = .ok (.imul, 1) := by decide +kernel
theorem d_N_runCell_9 : decode b_N_runCell 9 = .ok (.iload_n 2, 1) := by decide +kernel
theorem d_N_runCell_10 : decode b_N_runCell 10 = .ok (.iadd, 1) := by decide +kernel
theorem d_N_runCell_11 : decode b_N_runCell 11 = .ok (.iaload, 1) := by decide +kernel
theorem d_N_runCell_12 : decode b_N_runCell 12 = .ok (.ireturn, 1) := by decide +kernel
theorem d_N_steps_0 : decode b_N_steps 0 = .ok (.aload_n 0, 1) := by decide +kernel
theorem d_N_steps_1 : decode b_N_steps 1 = .ok (.iload_n 1, 1) := by decide +kernel
theorem d_N_steps_2 : decode b_N_steps 2 = .ok (.invokevirtual 60, 3) := by decide +kernel
theorem d_N_steps_5 : decode b_N_steps 5 = .ok (.ifCond .eq 7, 3) := by decide +kernel
theorem d_N_steps_8 : decode b_N_steps 8 = .ok (.iconst 0, 1) := by decide +kernel
theorem d_N_steps_9 : decode b_N_steps 9 = .ok (.goto 11, 3) := by decide +kernel
theorem d_N_steps_12 : decode b_N_steps 12 = .ok (.aload_n 0, 1) := by decide +kernel
theorem d_N_steps_13 : decode b_N_steps 13 = .ok (.getfield 28, 3) := by decide +kernel
theorem d_N_steps_16 : decode b_N_steps 16 = .ok (.iload_n 1, 1) := by decide +kernel
theorem d_N_steps_17 : decode b_N_steps 17 = .ok (.iaload, 1) := by decide +kernel
theorem d_N_steps_18 : decode b_N_steps 18 = .ok (.iconst 1, 1) := by decide +kernel
theorem d_N_steps_19 : decode b_N_steps 19 = .ok (.isub, 1) := by decide +kernel
theorem d_N_steps_20 : decode b_N_steps 20 = .ok (.ireturn, 1) := by decide +kernel
theorem d_N_lengthOf_0 : decode b_N_lengthOf 0 = .ok (.aload_n 0, 1) := by decide +kernel
theorem d_N_lengthOf_1 : decode b_N_lengthOf 1 = .ok (.iload_n 1, 1) := by decide +kernel
theorem d_N_lengthOf_2 : decode b_N_lengthOf 2 = .ok (.invokevirtual 63, 3) := by decide +kernel
theorem d_N_lengthOf_5 : decode b_N_lengthOf 5 = .ok (.bipush 50, 2) := by decide +kernel
theorem d_N_lengthOf_7 : decode b_N_lengthOf 7 = .ok (.imul, 1) := by decide +kernel
theorem d_N_lengthOf_8 : decode b_N_lengthOf 8 = .ok (.ireturn, 1) := by decide +kernel
theorem d_N_turnsOf_0 : decode b_N_turnsOf 0 = .ok (.iconst 0, 1) := by decide +kernel
theorem d_N_turnsOf_1 : decode b_N_turnsOf 1 = .ok (.istore_n 2, 1) := by decide +kernel
theorem d_N_turnsOf_2 : decode b_N_turnsOf 2 = .ok (.iconst 2, 1) := by decide +kernel
theorem d_N_turnsOf_3 : decode b_N_turnsOf 3 = .ok (.istore_n 3, 1) := by decide +kernel
theorem d_N_turnsOf_4 : decode b_N_turnsOf 4 = .ok (.iload_n 3, 1) := by decide +kernel
theorem d_N_turnsOf_5 : decode b_N_turnsOf 5 = .ok (.aload_n 0, 1) := by decide +kernel
theorem d_N_turnsOf_6 : decode b_N_turnsOf 6 = .ok (.getfield 28, 3) := by decide +kernel
theorem d_N_turnsOf_9 : decode b_N_turnsOf 9 = .ok (.iload_n 1, 1) := by decide +kernel
theorem d_N_turnsOf_10 : decode b_N_turnsOf 10 = .ok (.iaload, 1) := by decide +kernel
theorem d_N_turnsOf_11 : decode b_N_turnsOf 11 = .ok (.if_icmp .ge 51, 3) := by decide +kernel
theorem d_N_turnsOf_14 : decode b_N_turnsOf 14 = .ok (.aload_n 0, 1) := by decide +kernel
theorem d_N_turnsOf_15 : decode b_N_turnsOf 15 = .ok (.iload_n 1, 1) := by decide +kernel
theorem d_N_turnsOf_16 : decode b_N_turnsOf 16 = .ok (.iload_n 3, 1) := by decide +kernel
theorem d_N_turnsOf_17 : decode b_N_turnsOf 17 = .ok (.iconst 1, 1) := by decide +kernel
theorem d_N_turnsOf_18 : decode b_N_turnsOf 18 = .ok (.isub, 1) := by decide +kernel
theorem d_N_turnsOf_19 : decode b_N_turnsOf 19 = .ok (.invokevirtual 66, 3) := by decide +kernel
theorem d_N_turnsOf_22 : decode b_N_turnsOf 22 = .ok (.aload_n 0, 1) := by decide +kernel
theorem d_N_turnsOf_23 : decode b_N_turnsOf 23 = .ok (.iload_n 1, 1) := by decide +kernel
theorem d_N_turnsOf_24 : decode b_N_turnsOf 24 = .ok (.iload_n 3, 1) := by decide +kernel
theorem d_N_turnsOf_25 : decode b_N_turnsOf 25 = .ok (.iconst 2, 1) := by decide +kernel
theorem d_N_turnsOf_26 : decode b_N_turnsOf 26 = .ok (.isub, 1) := by decide +kernel
theorem d_N_turnsOf_27 : decode b_N_turnsOf 27 = .ok (.invokevirtual 66, 3) := by decide +kernel
theorem d_N_turnsOf_30 : decode b_N_turnsOf 30 = .ok (.isub, 1) := by decide +kernel
theorem d_N_turnsOf_31 : decode b_N_turnsOf 31 = .ok (.istore 4, 2) := by decide +kernel
theorem d_N_turnsOf_33 : decode b_N_turnsOf 33 = .ok (.aload_n 0, 1) := by decide +kernel
theorem d_N_turnsOf_34 : decode b_N_turnsOf 34 = .ok (.iload_n 1, 1) := by decide +kernel
theorem d_N_turnsOf_35 : decode b_N_turnsOf 35 = .ok (.iload_n 3, 1) := by decide +kernel
theorem d_N_turnsOf_36 : decode b_N_turnsOf 36 = .ok (.invokevirtual 66, 3) := by decide +kernel
theorem d_N_turnsOf_39 : decode b_N_turnsOf 39 = .ok (.aload_n 0, 1) := by decide +kernel
theorem d_N_turnsOf_40 : decode b_N_turnsOf 40 = .ok (.iload_n 1, 1) := by decide +kernel
theorem d_N_turnsOf_41 : decode b_N_turnsOf 41 = .ok (.iload_n 3, 1) := by decide +kernel
theorem d_N_turnsOf_42 : decode b_N_turnsOf 42 = .ok (.iconst 1, 1) := by decide +kernel
theorem d_N_turnsOf_43 : decode b_N_turnsOf 43 = .ok (.isub, 1) := by decide +kernel
theorem d_N_turnsOf_44 : decode b_N_turnsOf 44 = .ok (.invokevirtual 66, 3) := by decide +kernel
theorem d_N_turnsOf_47 : decode b_N_turnsOf 47 = .ok (.isub, 1) := by decide +kernel
theorem d_N_turnsOf_48 : decode b_N_turnsOf 48 = .ok (.iload 4, 2) := by decide +kernel
theorem d_N_turnsOf_50 : decode b_N_turnsOf 50 = .ok (.if_icmp .eq 6, 3) := by decide +kernel
theorem d_N_turnsOf_53 : decode b_N_turnsOf 53 = .ok (.iinc 2 1, 3) := by decide +kernel
theorem d_N_turnsOf_56 : decode b_N_turnsOf 56 = .ok (.iinc 3 1, 3) := by decide +kernel
theorem d_N_turnsOf_59 : decode b_N_turnsOf 59 = .ok (.goto (-55), 3) := by decide +kernel
theorem d_N_turnsOf_62 : decode b_N_turnsOf 62 = .ok (.iload_n 2, 1) := by decide +kernel
theorem d_N_turnsOf_63 : decode b_N_turnsOf 63 = .ok (.ireturn, 1) := by decide +kernel
theorem d_N_lengthToAir_0 : decode b_N_lengthToAir 0 = .ok (.iconst 0, 1) := by decide +kernel
theorem d_N_lengthToAir_1 : decode b_N_lengthToAir 1 = .ok (.istore_n 2, 1) := by decide +kernel
theorem d_N_lengthToAir_2 : decode b_N_lengthToAir 2 = .ok (.iload_n 1, 1) := by decide +kernel
theorem d_N_lengthToAir_3 : decode b_N_lengthToAir 3 = .ok (.istore_n 3, 1) := by decide +kernel
theorem d_N_lengthToAir_4 : decode b_N_lengthToAir 4 = .ok (.iconst 0, 1) := by decide +kernel
theorem d_N_lengthToAir_5 : decode b_N_lengthToAir 5 = .ok (.istore 4, 2) := by decide +kernel
theorem d_N_lengthToAir_7 : decode b_N_lengthToAir 7 = .ok (.iload 4, 2) := by decide +kernel
theorem d_N_lengthToAir_9 : decode b_N_lengthToAir 9 = .ok (.bipush 24, 2) := by decide +kernel
theorem d_N_lengthToAir_11 : decode b_N_lengthToAir 11 = .ok (.if_icmp .ge 38, 3) := by decide +kernel
theorem d_N_lengthToAir_14 : decode b_N_lengthToAir 14 = .ok (.iload_n 3, 1) := by decide +kernel
theorem d_N_lengthToAir_15 : decode b_N_lengthToAir 15 = .ok (.iconst (-1), 1) := by decide +kernel
theorem d_N_lengthToAir_16 : decode b_N_lengthToAir 16 = .ok (.if_icmp .eq 33, 3) := by decide +kernel
theorem d_N_lengthToAir_19 : decode b_N_lengthToAir 19 = .ok (.aload_n 0, 1) := by decide +kernel
theorem d_N_lengthToAir_20 : decode b_N_lengthToAir 20 = .ok (.getfield 24, 3) := by decide +kernel
theorem d_N_lengthToAir_23 : decode b_N_lengthToAir 23 = .ok (.iload_n 3, 1) := by decide +kernel
theorem d_N_lengthToAir_24 : decode b_N_lengthToAir 24 = .ok (.baload, 1) := by decide +kernel
theorem d_N_lengthToAir_25 : decode b_N_lengthToAir 25 = .ok (.ifCond .ne 24, 3) := by decide +kernel
theorem d_N_lengthToAir_28 : decode b_N_lengthToAir 28 = .ok (.iload_n 2, 1) := by decide +kernel
theorem d_N_lengthToAir_29 : decode b_N_lengthToAir 29 = .ok (.aload_n 0, 1) := by decide +kernel
theorem d_N_lengthToAir_30 : decode b_N_lengthToAir 30 = .ok (.iload_n 3, 1) := by decide +kernel
theorem d_N_lengthToAir_31 : decode b_N_lengthToAir 31 = .ok (.invokevirtual 70, 3) := by decide +kernel
theorem d_N_lengthToAir_34 : decode b_N_lengthToAir 34 = .ok (.iadd, 1) := by decide +kernel
theorem d_N_lengthToAir_35 : decode b_N_lengthToAir 35 = .ok (.istore_n 2, 1) := by decide +kernel
theorem d_N_lengthToAir_36 : decode b_N_lengthToAir 36 = .ok (.aload_n 0, 1) := by decide +kernel
theorem d_N_lengthToAir_37 : decode b_N_lengthToAir 37 = .ok (.getfield 15, 3) := by decide +kernel
theorem d_N_lengthToAir_40 : decode b_N_lengthToAir 40 = .ok (.iload_n 3, 1) := by decide +kernel
theorem d_N_lengthToAir_41 : decode b_N_lengthToAir 41 = .ok (.iaload, 1) := by decide +kernel
theorem d_N_lengthToAir_42 : decode b_N_lengthToAir 42 = .ok (.istore_n 3, 1) := by decide +kernel
theorem d_N_lengthToAir_43 : decode b_N_lengthToAir 43 = .ok (.iinc 4 1, 3) := by decide +kernel
theorem d_N_lengthToAir_46 : decode b_N_lengthToAir 46 = .ok (.goto (-39), 3) := by decide +kernel
theorem d_N_lengthToAir_49 : decode b_N_lengthToAir 49 = .ok (.iload_n 2, 1) := by decide +kernel
theorem d_N_lengthToAir_50 : decode b_N_lengthToAir 50 = .ok (.ireturn, 1) := by decide +kernel
theorem d_N_mains_0 : decode b_N_mains 0 = .ok (.iconst 0, 1) := by decide +kernel
theorem d_N_mains_1 : decode b_N_mains 1 = .ok (.istore_n 1, 1) := by decide +kernel
theorem d_N_mains_2 : decode b_N_mains 2 = .ok (.iconst 0, 1) := by decide +kernel
theorem d_N_mains_3 : decode b_N_mains 3 = .ok (.istore_n 2, 1) := by decide +kernel
theorem d_N_mains_4 : decode b_N_mains 4 = .ok (.iload_n 2, 1) := by decide +kernel
theorem d_N_mains_5 : decode b_N_mains 5 = .ok (.aload_n 0, 1) := by decide +kernel
theorem d_N_mains_6 : decode b_N_mains 6 = .ok (.getfield 36, 3) := by decide +kernel
theorem d_N_mains_9 : decode b_N_mains 9 = .ok (.if_icmp .ge 25, 3) := by decide +kernel
theorem d_N_mains_12 : decode b_N_mains 12 = .ok (.iload_n 1, 1) := by decide +kernel
theorem d_N_mains_13 : decode b_N_mains 13 = .ok (.aload_n 0, 1) := by decide +kernel
theorem d_N_mains_14 : decode b_N_mains 14 = .ok (.iload_n 2, 1) := by decide +kernel
theorem d_N_mains_15 : decode b_N_mains 15 = .ok (.invokevirtual 60, 3) := by decide +kernel
theorem d_N_mains_18 : decode b_N_mains 18 = .ok (.ifCond .eq 7, 3) := by decide +kernel
theorem d_N_mains_21 : decode b_N_mains 21 = .ok (.iconst 1, 1) := by decide +kernel
theorem d_N_mains_22 : decode b_N_mains 22 = .ok (.goto 4, 3) := by decide +kernel
theorem d_N_mains_25 : decode b_N_mains 25 = .ok (.iconst 0, 1) := by decide +kernel
theorem d_N_mains_26 : decode b_N_mains 26 = .ok (.iadd, 1) := by decide +kernel
theorem d_N_mains_27 : decode b_N_mains 27 = .ok (.istore_n 1, 1) := by decide +kernel
theorem d_N_mains_28 : decode b_N_mains 28 = .ok (.iinc 2 1, 3) := by decide +kernel
theorem d_N_mains_31 : decode b_N_mains 31 = .ok (.goto (-27), 3) := by decide +kernel
theorem d_N_mains_34 : decode b_N_mains 34 = .ok (.iload_n 1, 1) := by decide +kernel
theorem d_N_mains_35 : decode b_N_mains 35 = .ok (.ireturn, 1) := by decide +kernel
theorem d_N_traps_0 : decode b_N_traps 0 = .ok (.iconst 0, 1) := by decide +kernel
theorem d_N_traps_1 : decode b_N_traps 1 = .ok (.istore_n 1, 1) := by decide +kernel
theorem d_N_traps_2 : decode b_N_traps 2 = .ok (.iconst 0, 1) := by decide +kernel
theorem d_N_traps_3 : decode b_N_traps 3 = .ok (.istore_n 2, 1) := by decide +kernel
theorem d_N_traps_4 : decode b_N_traps 4 = .ok (.iload_n 2, 1) := by decide +kernel
theorem d_N_traps_5 : decode b_N_traps 5 = .ok (.aload_n 0, 1) := by decide +kernel
theorem d_N_traps_6 : decode b_N_traps 6 = .ok (.getfield 36, 3) := by decide +kernel
theorem d_N_traps_9 : decode b_N_traps 9 = .ok (.if_icmp .ge 25, 3) := by decide +kernel
theorem d_N_traps_12 : decode b_N_traps 12 = .ok (.iload_n 1, 1) := by decide +kernel
theorem d_N_traps_13 : decode b_N_traps 13 = .ok (.aload_n 0, 1) := by decide +kernel
theorem d_N_traps_14 : decode b_N_traps 14 = .ok (.iload_n 2, 1) := by decide +kernel
theorem d_N_traps_15 : decode b_N_traps 15 = .ok (.invokevirtual 73, 3) := by decide +kernel
theorem d_N_traps_18 : decode b_N_traps 18 = .ok (.ifCond .eq 7, 3) := by decide +kernel
theorem d_N_traps_21 : decode b_N_traps 21 = .ok (.iconst 1, 1) := by decide +kernel
theorem d_N_traps_22 : decode b_N_traps 22 = .ok (.goto 4, 3) := by decide +kernel
theorem d_N_traps_25 : decode b_N_traps 25 = .ok (.iconst 0, 1) := by decide +kernel
theorem d_N_traps_26 : decode b_N_traps 26 = .ok (.iadd, 1) := by decide +kernel
theorem d_N_traps_27 : decode b_N_traps 27 = .ok (.istore_n 1, 1) := by decide +kernel
theorem d_N_traps_28 : decode b_N_traps 28 = .ok (.iinc 2 1, 3) := by decide +kernel
theorem d_N_traps_31 : decode b_N_traps 31 = .ok (.goto (-27), 3) := by decide +kernel
theorem d_N_traps_34 : decode b_N_traps 34 = .ok (.iload_n 1, 1) := by decide +kernel
theorem d_N_traps_35 : decode b_N_traps 35 = .ok (.ireturn, 1) := by decide +kernel
theorem d_N_lengthOfAll_0 : decode b_N_lengthOfAll 0 = .ok (.iconst 0, 1) := by decide +kernel
theorem d_N_lengthOfAll_1 : decode b_N_lengthOfAll 1 = .ok (.istore_n 1, 1) := by decide +kernel
theorem d_N_lengthOfAll_2 : decode b_N_lengthOfAll 2 = .ok (.iconst 0, 1) := by decide +kernel
theorem d_N_lengthOfAll_3 : decode b_N_lengthOfAll 3 = .ok (.istore_n 2, 1) := by decide +kernel
theorem d_N_lengthOfAll_4 : decode b_N_lengthOfAll 4 = .ok (.iload_n 2, 1) := by decide +kernel
theorem d_N_lengthOfAll_5 : decode b_N_lengthOfAll 5 = .ok (.aload_n 0, 1) := by decide +kernel
theorem d_N_lengthOfAll_6 : decode b_N_lengthOfAll 6 = .ok (.getfield 36, 3) := by decide +kernel
theorem d_N_lengthOfAll_9 : decode b_N_lengthOfAll 9 = .ok (.if_icmp .ge 17, 3) := by decide +kernel
theorem d_N_lengthOfAll_12 : decode b_N_lengthOfAll 12 = .ok (.iload_n 1, 1) := by decide +kernel
theorem d_N_lengthOfAll_13 : decode b_N_lengthOfAll 13 = .ok (.aload_n 0, 1) := by decide +kernel
theorem d_N_lengthOfAll_14 : decode b_N_lengthOfAll 14 = .ok (.iload_n 2, 1) := by decide +kernel
theorem d_N_lengthOfAll_15 : decode b_N_lengthOfAll 15 = .ok (.invokevirtual 70, 3) := by decide +kernel
theorem d_N_lengthOfAll_18 : decode b_N_lengthOfAll 18 = .ok (.iadd, 1) := by decide +kernel
theorem d_N_lengthOfAll_19 : decode b_N_lengthOfAll 19 = .ok (.istore_n 1, 1) := by decide +kernel
theorem d_N_lengthOfAll_20 : decode b_N_lengthOfAll 20 = .ok (.iinc 2 1, 3) := by decide +kernel
theorem d_N_lengthOfAll_23 : decode b_N_lengthOfAll 23 = .ok (.goto (-19), 3) := by decide +kernel
theorem d_N_lengthOfAll_26 : decode b_N_lengthOfAll 26 = .ok (.iload_n 1, 1) := by decide +kernel
theorem d_N_lengthOfAll_27 : decode b_N_lengthOfAll 27 = .ok (.ireturn, 1) := by decide +kernel
theorem d_N_turnsOfAll_0 : decode b_N_turnsOfAll 0 = .ok (.iconst 0, 1) := by decide +kernel
theorem d_N_turnsOfAll_1 : decode b_N_turnsOfAll 1 = .ok (.istore_n 1, 1) := by decide +kernel
theorem d_N_turnsOfAll_2 : decode b_N_turnsOfAll 2 = .ok (.iconst 0, 1) := by decide +kernel
theorem d_N_turnsOfAll_3 : decode b_N_turnsOfAll 3 = .ok (.istore_n 2, 1) := by decide +kernel
theorem d_N_turnsOfAll_4 : decode b_N_turnsOfAll 4 = .ok (.iload_n 2, 1) := by decide +kernel
theorem d_N_turnsOfAll_5 : decode b_N_turnsOfAll 5 = .ok (.aload_n 0, 1) := by decide +kernel
theorem d_N_turnsOfAll_6 : decode b_N_turnsOfAll 6 = .ok (.getfield 36, 3) := by decide +kernel
theorem d_N_turnsOfAll_9 : decode b_N_turnsOfAll 9 = .ok (.if_icmp .ge 17, 3) := by decide +kernel
theorem d_N_turnsOfAll_12 : decode b_N_turnsOfAll 12 = .ok (.iload_n 1, 1) := by decide +kernel
theorem d_N_turnsOfAll_13 : decode b_N_turnsOfAll 13 = .ok (.aload_n 0, 1) := by decide +kernel
theorem d_N_turnsOfAll_14 : decode b_N_turnsOfAll 14 = .ok (.iload_n 2, 1) := by decide +kernel
theorem d_N_turnsOfAll_15 : decode b_N_turnsOfAll 15 = .ok (.invokevirtual 76, 3) := by decide +kernel
theorem d_N_turnsOfAll_18 : decode b_N_turnsOfAll 18 = .ok (.iadd, 1) := by decide +kernel
theorem d_N_turnsOfAll_19 : decode b_N_turnsOfAll 19 = .ok (.istore_n 1, 1) := by decide +kernel
theorem d_N_turnsOfAll_20 : decode b_N_turnsOfAll 20 = .ok (.iinc 2 1, 3) := by decide +kernel
theorem d_N_turnsOfAll_23 : decode b_N_turnsOfAll 23 = .ok (.goto (-19), 3) := by decide +kernel
theorem d_N_turnsOfAll_26 : decode b_N_turnsOfAll 26 = .ok (.iload_n 1, 1) := by decide +kernel
theorem d_N_turnsOfAll_27 : decode b_N_turnsOfAll 27 = .ok (.ireturn, 1) := by decide +kernel
theorem d_V_init_0 : decode b_V_init 0 = .ok (.aload_n 0, 1) := by decide +kernel
theorem d_V_init_1 : decode b_V_init 1 = .ok (.invokespecial 5, 3) := by decide +kernel
theorem d_V_init_4 : decode b_V_init 4 = .ok (.aload_n 0, 1) := by decide +kernel
theorem d_V_init_5 : decode b_V_init 5 = .ok (.iconst 4, 1) := by decide +kernel
theorem d_V_init_6 : decode b_V_init 6 = .ok (.newarray .int, 2) := by decide +kernel
theorem d_V_init_8 : decode b_V_init 8 = .ok (.dup, 1) := by decide +kernel
theorem d_V_init_9 : decode b_V_init 9 = .ok (.iconst 0, 1) := by decide +kernel
theorem d_V_init_10 : decode b_V_init 10 = .ok (.bipush 10, 2) := by decide +kernel
theorem d_V_init_12 : decode b_V_init 12 = .ok (.iastore, 1) := by decide +kernel
theorem d_V_init_13 : decode b_V_init 13 = .ok (.dup, 1) := by decide +kernel
theorem d_V_init_14 : decode b_V_init 14 = .ok (.iconst 1, 1) := by decide +kernel
theorem d_V_init_15 : decode b_V_init 15 = .ok (.sipush 500, 3) := by decide +kernel
theorem d_V_init_18 : decode b_V_init 18 = .ok (.iastore, 1) := by decide +kernel
theorem d_V_init_19 : decode b_V_init 19 = .ok (.dup, 1) := by decide +kernel
theorem d_V_init_20 : decode b_V_init 20 = .ok (.iconst 2, 1) := by decide +kernel
theorem d_V_init_21 : decode b_V_init 21 = .ok (.sipush 150, 3) := by decide +kernel
theorem d_V_init_24 : decode b_V_init 24 = .ok (.iastore, 1) := by decide +kernel
theorem d_V_init_25 : decode b_V_init 25 = .ok (.dup, 1) := by decide +kernel
theorem d_V_init_26 : decode b_V_init 26 = .ok (.iconst 3, 1) := by decide +kernel
theorem d_V_init_27 : decode b_V_init 27 = .ok (.sipush 600, 3) := by decide +kernel
theorem d_V_init_30 : decode b_V_init 30 = .ok (.iastore, 1) := by decide +kernel
theorem d_V_init_31 : decode b_V_init 31 = .ok (.putfield 11, 3) := by decide +kernel
theorem d_V_init_34 : decode b_V_init 34 = .ok (.aload_n 0, 1) := by decide +kernel
theorem d_V_init_35 : decode b_V_init 35 = .ok (.bipush 6, 2) := by decide +kernel
theorem d_V_init_37 : decode b_V_init 37 = .ok (.newarray .int, 2) := by decide +kernel
theorem d_V_init_39 : decode b_V_init 39 = .ok (.dup, 1) := by decide +kernel
theorem d_V_init_40 : decode b_V_init 40 = .ok (.iconst 0, 1) := by decide +kernel
theorem d_V_init_41 : decode b_V_init 41 = .ok (.iconst 2, 1) := by decide +kernel
theorem d_V_init_42 : decode b_V_init 42 = .ok (.iastore, 1) := by decide +kernel
theorem d_V_init_43 : decode b_V_init 43 = .ok (.dup, 1) := by decide +kernel
theorem d_V_init_44 : decode b_V_init 44 = .ok (.iconst 1, 1) := by decide +kernel
theorem d_V_init_45 : decode b_V_init 45 = .ok (.bipush 6, 2) := by decide +kernel
theorem d_V_init_47 : decode b_V_init 47 = .ok (.iastore, 1) := by decide +kernel
theorem d_V_init_48 : decode b_V_init 48 = .ok (.dup, 1) := by decide +kernel
theorem d_V_init_49 : decode b_V_init 49 = .ok (.iconst 2, 1) := by decide +kernel
theorem d_V_init_50 : decode b_V_init 50 = .ok (.bipush 12, 2) := by decide +kernel
theorem d_V_init_52 : decode b_V_init 52 = .ok (.iastore, 1) := by decide +kernel
theorem d_V_init_53 : decode b_V_init 53 = .ok (.dup, 1) := by decide +kernel
theorem d_V_init_54 : decode b_V_init 54 = .ok (.iconst 3, 1) := by decide +kernel
theorem d_V_init_55 : decode b_V_init 55 = .ok (.bipush 24, 2) := by decide +kernel
theorem d_V_init_57 : decode b_V_init 57 = .ok (.iastore, 1) := by decide +kernel
theorem d_V_init_58 : decode b_V_init 58 = .ok (.dup, 1) := by decide +kernel
theorem d_V_init_59 : decode b_V_init 59 = .ok (.iconst 4, 1) := by decide +kernel
theorem d_V_init_60 : decode b_V_init 60 = .ok (.bipush 60, 2) := by decide +kernel
theorem d_V_init_62 : decode b_V_init 62 = .ok (.iastore, 1) := by decide +kernel
theorem d_V_init_63 : decode b_V_init 63 = .ok (.dup, 1) := by decide +kernel
theorem d_V_init_64 : decode b_V_init 64 = .ok (.iconst 5, 1) := by decide +kernel
theorem d_V_init_65 : decode b_V_init 65 = .ok (.sipush 200, 3) := by decide +kernel
theorem d_V_init_68 : decode b_V_init 68 = .ok (.iastore, 1) := by decide +kernel
theorem d_V_init_69 : decode b_V_init 69 = .ok (.putfield 15, 3) := by decide +kernel
theorem d_V_init_72 : decode b_V_init 72 = .ok (.return_, 1) := by decide +kernel
theorem d_V_allows_0 : decode b_V_allows 0 = .ok (.iload_n 0, 1) := by decide +kernel
theorem d_V_allows_1 : decode b_V_allows 1 = .ok (.ifCond .lt 30, 3) := by decide +kernel
theorem d_V_allows_4 : decode b_V_allows 4 = .ok (.iload_n 0, 1) := by decide +kernel
theorem d_V_allows_5 : decode b_V_allows 5 = .ok (.iconst 4, 1) := by decide +kernel
theorem d_V_allows_6 : decode b_V_allows 6 = .ok (.if_icmp .ge 25, 3) := by decide +kernel
theorem d_V_allows_9 : decode b_V_allows 9 = .ok (.iload_n 1, 1) := by decide +kernel
theorem d_V_allows_10 : decode b_V_allows 10 = .ok (.getstatic 18, 3) := by decide +kernel
theorem d_V_allows_13 : decode b_V_allows 13 = .ok (.iload_n 0, 1) := by decide +kernel
theorem d_V_allows_14 : decode b_V_allows 14 = .ok (.iaload, 1) := by decide +kernel
theorem d_V_allows_15 : decode b_V_allows 15 = .ok (.if_icmp .lt 16, 3) := by decide +kernel
theorem d_V_allows_18 : decode b_V_allows 18 = .ok (.iload_n 1, 1) := by decide +kernel
theorem d_V_allows_19 : decode b_V_allows 19 = .ok (.getstatic 21, 3) := by decide +kernel
theorem d_V_allows_22 : decode b_V_allows 22 = .ok (.iload_n 0, 1) := by decide +kernel
theorem d_V_allows_23 : decode b_V_allows 23 = .ok (.iaload, 1) := by decide +kernel
theorem d_V_allows_24 : decode b_V_allows 24 = .ok (.if_icmp .gt 7, 3) := by decide +kernel
theorem d_V_allows_27 : decode b_V_allows 27 = .ok (.iconst 1, 1) := by decide +kernel
theorem d_V_allows_28 : decode b_V_allows 28 = .ok (.goto 4, 3) := by decide +kernel
theorem d_V_allows_31 : decode b_V_allows 31 = .ok (.iconst 0, 1) := by decide +kernel
theorem d_V_allows_32 : decode b_V_allows 32 = .ok (.ireturn, 1) := by decide +kernel
theorem d_V_allowsLimit_0 : decode b_V_allowsLimit 0 = .ok (.iload_n 0, 1) := by decide +kernel
theorem d_V_allowsLimit_1 : decode b_V_allowsLimit 1 = .ok (.ifCond .lt 25, 3) := by decide +kernel
theorem d_V_allowsLimit_4 : decode b_V_allowsLimit 4 = .ok (.iload_n 0, 1) := by decide +kernel
theorem d_V_allowsLimit_5 : decode b_V_allowsLimit 5 = .ok (.bipush 6, 2) := by decide +kernel
theorem d_V_allowsLimit_7 : decode b_V_allowsLimit 7 = .ok (.if_icmp .ge 19, 3) := by decide +kernel
theorem d_V_allowsLimit_10 : decode b_V_allowsLimit 10 = .ok (.iload_n 1, 1) := by decide +kernel
theorem d_V_allowsLimit_11 : decode b_V_allowsLimit 11 = .ok (.iconst 1, 1) := by decide +kernel
theorem d_V_allowsLimit_12 : decode b_V_allowsLimit 12 = .ok (.if_icmp .lt 14, 3) := by decide +kernel
theorem d_V_allowsLimit_15 : decode b_V_allowsLimit 15 = .ok (.iload_n 1, 1) := by decide +kernel
theorem d_V_allowsLimit_16 : decode b_V_allowsLimit 16 = .ok (.sipush 2000, 3) := by decide +kernel
theorem d_V_allowsLimit_19 : decode b_V_allowsLimit 19 = .ok (.if_icmp .gt 7, 3) := by decide +kernel
theorem d_V_allowsLimit_22 : decode b_V_allowsLimit 22 = .ok (.iconst 1, 1) := by decide +kernel
theorem d_V_allowsLimit_23 : decode b_V_allowsLimit 23 = .ok (.goto 4, 3) := by decide +kernel
theorem d_V_allowsLimit_26 : decode b_V_allowsLimit 26 = .ok (.iconst 0, 1) := by decide +kernel
theorem d_V_allowsLimit_27 : decode b_V_allowsLimit 27 = .ok (.ireturn, 1) := by decide +kernel
theorem d_V_changeValue_0 : decode b_V_changeValue 0 = .ok (.aload_n 0, 1) := by decide +kernel
theorem d_V_changeValue_1 : decode b_V_changeValue 1 = .ok (.getfield 11, 3) := by decide +kernel
theorem d_V_changeValue_4 : decode b_V_changeValue 4 = .ok (.iload_n 1, 1) := by decide +kernel
theorem d_V_changeValue_5 : decode b_V_changeValue 5 = .ok (.iaload, 1) := by decide +kernel
theorem d_V_changeValue_6 : decode b_V_changeValue 6 = .ok (.istore_n 3, 1) := by decide +kernel
theorem d_V_changeValue_7 : decode b_V_changeValue 7 = .ok (.aload_n 0, 1) := by decide +kernel
theorem d_V_changeValue_8 : decode b_V_changeValue 8 = .ok (.getfield 11, 3) := by decide +kernel
theorem d_V_changeValue_11 : decode b_V_changeValue 11 = .ok (.iload_n 1, 1) := by decide +kernel
theorem d_V_changeValue_12 : decode b_V_changeValue 12 = .ok (.iload_n 2, 1) := by decide +kernel
theorem d_V_changeValue_13 : decode b_V_changeValue 13 = .ok (.iastore, 1) := by decide +kernel
theorem d_V_changeValue_14 : decode b_V_changeValue 14 = .ok (.iload_n 3, 1) := by decide +kernel
theorem d_V_changeValue_15 : decode b_V_changeValue 15 = .ok (.ireturn, 1) := by decide +kernel
theorem d_V_wouldRise_0 : decode b_V_wouldRise 0 = .ok (.iload_n 1, 1) := by decide +kernel
theorem d_V_wouldRise_1 : decode b_V_wouldRise 1 = .ok (.ifCond .eq 15, 3) := by decide +kernel
theorem d_V_wouldRise_4 : decode b_V_wouldRise 4 = .ok (.aload_n 0, 1) := by decide +kernel
theorem d_V_wouldRise_5 : decode b_V_wouldRise 5 = .ok (.getfield 15, 3) := by decide +kernel
theorem d_V_wouldRise_8 : decode b_V_wouldRise 8 = .ok (.iload_n 1, 1) := by decide +kernel
theorem d_V_wouldRise_9 : decode b_V_wouldRise 9 = .ok (.iconst 1, 1) := by decide +kernel
theorem d_V_wouldRise_10 : decode b_V_wouldRise 10 = .ok (.isub, 1) := by decide +kernel
theorem d_V_wouldRise_11 : decode b_V_wouldRise 11 = .ok (.iaload, 1) := by decide +kernel
theorem d_V_wouldRise_12 : decode b_V_wouldRise 12 = .ok (.iload_n 2, 1) := by decide +kernel
theorem d_V_wouldRise_13 : decode b_V_wouldRise 13 = .ok (.if_icmp .ge 24, 3) := by decide +kernel
theorem d_V_wouldRise_16 : decode b_V_wouldRise 16 = .ok (.iload_n 1, 1) := by decide +kernel
theorem d_V_wouldRise_17 : decode b_V_wouldRise 17 = .ok (.iconst 5, 1) := by decide +kernel
theorem d_V_wouldRise_18 : decode b_V_wouldRise 18 = .ok (.if_icmp .eq 15, 3) := by decide +kernel
theorem d_V_wouldRise_21 : decode b_V_wouldRise 21 = .ok (.iload_n 2, 1) := by decide +kernel
theorem d_V_wouldRise_22 : decode b_V_wouldRise 22 = .ok (.aload_n 0, 1) := by decide +kernel
theorem d_V_wouldRise_23 : decode b_V_wouldRise 23 = .ok (.getfield 15, 3) := by decide +kernel
theorem d_V_wouldRise_26 : decode b_V_wouldRise 26 = .ok (.iload_n 1, 1) := by decide +kernel
theorem d_V_wouldRise_27 : decode b_V_wouldRise 27 = .ok (.iconst 1, 1) := by decide +kernel
theorem d_V_wouldRise_28 : decode b_V_wouldRise 28 = .ok (.iadd, 1) := by decide +kernel
theorem d_V_wouldRise_29 : decode b_V_wouldRise 29 = .ok (.iaload, 1) := by decide +kernel
theorem d_V_wouldRise_30 : decode b_V_wouldRise 30 = .ok (.if_icmp .ge 7, 3) := by decide +kernel
theorem d_V_wouldRise_33 : decode b_V_wouldRise 33 = .ok (.iconst 1, 1) := by decide +kernel
theorem d_V_wouldRise_34 : decode b_V_wouldRise 34 = .ok (.goto 4, 3) := by decide +kernel
theorem d_V_wouldRise_37 : decode b_V_wouldRise 37 = .ok (.iconst 0, 1) := by decide +kernel
theorem d_V_wouldRise_38 : decode b_V_wouldRise 38 = .ok (.ireturn, 1) := by decide +kernel
theorem d_V_changeLimit_0 : decode b_V_changeLimit 0 = .ok (.aload_n 0, 1) := by decide +kernel
theorem d_V_changeLimit_1 : decode b_V_changeLimit 1 = .ok (.getfield 15, 3) := by decide +kernel
theorem d_V_changeLimit_4 : decode b_V_changeLimit 4 = .ok (.iload_n 1, 1) := by decide +kernel
theorem d_V_changeLimit_5 : decode b_V_changeLimit 5 = .ok (.iaload, 1) := by decide +kernel
theorem d_V_changeLimit_6 : decode b_V_changeLimit 6 = .ok (.istore_n 3, 1) := by decide +kernel
theorem d_V_changeLimit_7 : decode b_V_changeLimit 7 = .ok (.aload_n 0, 1) := by decide +kernel
theorem d_V_changeLimit_8 : decode b_V_changeLimit 8 = .ok (.getfield 15, 3) := by decide +kernel
theorem d_V_changeLimit_11 : decode b_V_changeLimit 11 = .ok (.iload_n 1, 1) := by decide +kernel
theorem d_V_changeLimit_12 : decode b_V_changeLimit 12 = .ok (.iload_n 2, 1) := by decide +kernel
theorem d_V_changeLimit_13 : decode b_V_changeLimit 13 = .ok (.iastore, 1) := by decide +kernel
theorem d_V_changeLimit_14 : decode b_V_changeLimit 14 = .ok (.iload_n 3, 1) := by decide +kernel
theorem d_V_changeLimit_15 : decode b_V_changeLimit 15 = .ok (.ireturn, 1) := by decide +kernel
theorem d_V_slope_0 : decode b_V_slope 0 = .ok (.aload_n 0, 1) := by decide +kernel
theorem d_V_slope_1 : decode b_V_slope 1 = .ok (.getfield 11, 3) := by decide +kernel
theorem d_V_slope_4 : decode b_V_slope 4 = .ok (.iconst 0, 1) := by decide +kernel
theorem d_V_slope_5 : decode b_V_slope 5 = .ok (.iaload, 1) := by decide +kernel
theorem d_V_slope_6 : decode b_V_slope 6 = .ok (.ireturn, 1) := by decide +kernel
theorem d_V_cover_0 : decode b_V_cover 0 = .ok (.aload_n 0, 1) := by decide +kernel
theorem d_V_cover_1 : decode b_V_cover 1 = .ok (.getfield 11, 3) := by decide +kernel
theorem d_V_cover_4 : decode b_V_cover 4 = .ok (.iconst 1, 1) := by decide +kernel
theorem d_V_cover_5 : decode b_V_cover 5 = .ok (.iaload, 1) := by decide +kernel
theorem d_V_cover_6 : decode b_V_cover 6 = .ok (.ireturn, 1) := by decide +kernel
theorem d_V_reach_0 : decode b_V_reach 0 = .ok (.aload_n 0, 1) := by decide +kernel
theorem d_V_reach_1 : decode b_V_reach 1 = .ok (.getfield 11, 3) := by decide +kernel
theorem d_V_reach_4 : decode b_V_reach 4 = .ok (.iconst 2, 1) := by decide +kernel
theorem d_V_reach_5 : decode b_V_reach 5 = .ok (.iaload, 1) := by decide +kernel
theorem d_V_reach_6 : decode b_V_reach 6 = .ok (.ireturn, 1) := by decide +kernel
theorem d_V_bar_0 : decode b_V_bar 0 = .ok (.aload_n 0, 1) := by decide +kernel
theorem d_V_bar_1 : decode b_V_bar 1 = .ok (.getfield 11, 3) := by decide +kernel
theorem d_V_bar_4 : decode b_V_bar 4 = .ok (.iconst 3, 1) := by decide +kernel
theorem d_V_bar_5 : decode b_V_bar 5 = .ok (.iaload, 1) := by decide +kernel
theorem d_V_bar_6 : decode b_V_bar 6 = .ok (.ireturn, 1) := by decide +kernel
theorem d_V_sizeFor_0 : decode b_V_sizeFor 0 = .ok (.iload_n 2, 1) := by decide +kernel
theorem d_V_sizeFor_1 : decode b_V_sizeFor 1 = .ok (.ifCond .ge 5, 3) := by decide +kernel
theorem d_V_sizeFor_4 : decode b_V_sizeFor 4 = .ok (.iconst (-1), 1) := by decide +kernel
theorem d_V_sizeFor_5 : decode b_V_sizeFor 5 = .ok (.ireturn, 1) := by decide +kernel
theorem d_V_sizeFor_6 : decode b_V_sizeFor 6 = .ok (.iload_n 2, 1) := by decide +kernel
theorem d_V_sizeFor_7 : decode b_V_sizeFor 7 = .ok (.istore_n 3, 1) := by decide +kernel
theorem d_V_sizeFor_8 : decode b_V_sizeFor 8 = .ok (.iload_n 3, 1) := by decide +kernel
theorem d_V_sizeFor_9 : decode b_V_sizeFor 9 = .ok (.bipush 6, 2) := by decide +kernel
theorem d_V_sizeFor_11 : decode b_V_sizeFor 11 = .ok (.if_icmp .ge 21, 3) := by decide +kernel
theorem d_V_sizeFor_14 : decode b_V_sizeFor 14 = .ok (.aload_n 0, 1) := by decide +kernel
theorem d_V_sizeFor_15 : decode b_V_sizeFor 15 = .ok (.getfield 15, 3) := by decide +kernel
theorem d_V_sizeFor_18 : decode b_V_sizeFor 18 = .ok (.iload_n 3, 1) := by decide +kernel
theorem d_V_sizeFor_19 : decode b_V_sizeFor 19 = .ok (.iaload, 1) := by decide +kernel
theorem d_V_sizeFor_20 : decode b_V_sizeFor 20 = .ok (.iload_n 1, 1) := by decide +kernel
theorem d_V_sizeFor_21 : decode b_V_sizeFor 21 = .ok (.if_icmp .lt 5, 3) := by decide +kernel
theorem d_V_sizeFor_24 : decode b_V_sizeFor 24 = .ok (.iload_n 3, 1) := by decide +kernel
theorem d_V_sizeFor_25 : decode b_V_sizeFor 25 = .ok (.ireturn, 1) := by decide +kernel
theorem d_V_sizeFor_26 : decode b_V_sizeFor 26 = .ok (.iinc 3 1, 3) := by decide +kernel
theorem d_V_sizeFor_29 : decode b_V_sizeFor 29 = .ok (.goto (-21), 3) := by decide +kernel
theorem d_V_sizeFor_32 : decode b_V_sizeFor 32 = .ok (.iconst (-1), 1) := by decide +kernel
theorem d_V_sizeFor_33 : decode b_V_sizeFor 33 = .ok (.ireturn, 1) := by decide +kernel
theorem d_K_init_0 : decode b_K_init 0 = .ok (.aload_n 0, 1) := by decide +kernel
theorem d_K_init_1 : decode b_K_init 1 = .ok (.invokespecial 3, 3) := by decide +kernel
theorem d_K_init_4 : decode b_K_init 4 = .ok (.aload_n 0, 1) := by decide +kernel
theorem d_K_init_5 : decode b_K_init 5 = .ok (.bipush 24, 2) := by decide +kernel
theorem d_K_init_7 : decode b_K_init 7 = .ok (.newarray .int, 2) := by decide +kernel
theorem d_K_init_9 : decode b_K_init 9 = .ok (.putfield 11, 3) := by decide +kernel
theorem d_K_init_12 : decode b_K_init 12 = .ok (.aload_n 0, 1) := by decide +kernel
theorem d_K_init_13 : decode b_K_init 13 = .ok (.bipush 24, 2) := by decide +kernel
theorem d_K_init_15 : decode b_K_init 15 = .ok (.newarray .int, 2) := by decide +kernel
theorem d_K_init_17 : decode b_K_init 17 = .ok (.putfield 17, 3) := by decide +kernel
theorem d_K_init_20 : decode b_K_init 20 = .ok (.aload_n 0, 1) := by decide +kernel
theorem d_K_init_21 : decode b_K_init 21 = .ok (.bipush 24, 2) := by decide +kernel
theorem d_K_init_23 : decode b_K_init 23 = .ok (.newarray .int, 2) := by decide +kernel
theorem d_K_init_25 : decode b_K_init 25 = .ok (.putfield 20, 3) := by decide +kernel
theorem d_K_init_28 : decode b_K_init 28 = .ok (.return_, 1) := by decide +kernel
theorem d_K_settle_0 : decode b_K_settle 0 = .ok (.aload_n 0, 1) := by decide +kernel
theorem d_K_settle_1 : decode b_K_settle 1 = .ok (.aload_n 1, 1) := by decide +kernel
theorem d_K_settle_2 : decode b_K_settle 2 = .ok (.aload_n 2, 1) := by decide +kernel
theorem d_K_settle_3 : decode b_K_settle 3 = .ok (.invokevirtual 23, 3) := by decide +kernel
theorem d_K_settle_6 : decode b_K_settle 6 = .ok (.aload_n 0, 1) := by decide +kernel
theorem d_K_settle_7 : decode b_K_settle 7 = .ok (.aload_n 1, 1) := by decide +kernel
theorem d_K_settle_8 : decode b_K_settle 8 = .ok (.aload_n 2, 1) := by decide +kernel
theorem d_K_settle_9 : decode b_K_settle 9 = .ok (.invokevirtual 27, 3) := by decide +kernel
theorem d_K_settle_12 : decode b_K_settle 12 = .ok (.return_, 1) := by decide +kernel
theorem d_K_settleSizes_0 : decode b_K_settleSizes 0 = .ok (.iconst 0, 1) := by decide +kernel
theorem d_K_settleSizes_1 : decode b_K_settleSizes 1 = .ok (.istore_n 3, 1) := by decide +kernel
theorem d_K_settleSizes_2 : decode b_K_settleSizes 2 = .ok (.iload_n 3, 1) := by decide +kernel
theorem d_K_settleSizes_3 : decode b_K_settleSizes 3 = .ok (.aload_n 1, 1) := by decide +kernel
theorem d_K_settleSizes_4 : decode b_K_settleSizes 4 = .ok (.invokevirtual 30, 3) := by decide +kernel
theorem d_K_settleSizes_7 : decode b_K_settleSizes 7 = .ok (.if_icmp .ge 27, 3) := by decide +kernel
theorem d_K_settleSizes_10 : decode b_K_settleSizes 10 = .ok (.aload_n 0, 1) := by decide +kernel
theorem d_K_settleSizes_11 : decode b_K_settleSizes 11 = .ok (.getfield 11, 3) := by decide +kernel
theorem d_K_settleSizes_14 : decode b_K_settleSizes 14 = .ok (.iload_n 3, 1) := by decide +kernel
theorem d_K_settleSizes_15 : decode b_K_settleSizes 15 = .ok (.aload_n 1, 1) := by decide +kernel
theorem d_K_settleSizes_16 : decode b_K_settleSizes 16 = .ok (.iload_n 3, 1) := by decide +kernel
theorem d_K_settleSizes_17 : decode b_K_settleSizes 17 = .ok (.invokevirtual 34, 3) := by decide +kernel
theorem d_K_settleSizes_20 : decode b_K_settleSizes 20 = .ok (.iastore, 1) := by decide +kernel
theorem d_K_settleSizes_21 : decode b_K_settleSizes 21 = .ok (.aload_n 0, 1) := by decide +kernel
theorem d_K_settleSizes_22 : decode b_K_settleSizes 22 = .ok (.getfield 17, 3) := by decide +kernel
theorem d_K_settleSizes_25 : decode b_K_settleSizes 25 = .ok (.iload_n 3, 1) := by decide +kernel
theorem d_K_settleSizes_26 : decode b_K_settleSizes 26 = .ok (.iconst 0, 1) := by decide +kernel
theorem d_K_settleSizes_27 : decode b_K_settleSizes 27 = .ok (.iastore, 1) := by decide +kernel
theorem d_K_settleSizes_28 : decode b_K_settleSizes 28 = .ok (.iinc 3 1, 3) := by decide +kernel
theorem d_K_settleSizes_31 : decode b_K_settleSizes 31 = .ok (.goto (-29), 3) := by decide +kernel
theorem d_K_settleSizes_34 : decode b_K_settleSizes 34 = .ok (.aload_n 1, 1) := by decide +kernel
theorem d_K_settleSizes_35 : decode b_K_settleSizes 35 = .ok (.invokevirtual 30, 3) := by decide +kernel
theorem d_K_settleSizes_38 : decode b_K_settleSizes 38 = .ok (.iconst 1, 1) := by decide +kernel
theorem d_K_settleSizes_39 : decode b_K_settleSizes 39 = .ok (.isub, 1) := by decide +kernel
theorem d_K_settleSizes_40 : decode b_K_settleSizes 40 = .ok (.istore_n 3, 1) := by decide +kernel
theorem d_K_settleSizes_41 : decode b_K_settleSizes 41 = .ok (.iload_n 3, 1) := by decide +kernel
theorem d_K_settleSizes_42 : decode b_K_settleSizes 42 = .ok (.ifCond .lt 83, 3) := by decide +kernel
theorem d_K_settleSizes_45 : decode b_K_settleSizes 45 = .ok (.aload_n 1, 1) := by decide +kernel
theorem d_K_settleSizes_46 : decode b_K_settleSizes 46 = .ok (.iload_n 3, 1) := by decide +kernel
theorem d_K_settleSizes_47 : decode b_K_settleSizes 47 = .ok (.invokevirtual 38, 3) := by decide +kernel
theorem d_K_settleSizes_50 : decode b_K_settleSizes 50 = .ok (.istore 4, 2) := by decide +kernel
theorem d_K_settleSizes_52 : decode b_K_settleSizes 52 = .ok (.iload 4, 2) := by decide +kernel
theorem d_K_settleSizes_54 : decode b_K_settleSizes 54 = .ok (.iconst (-1), 1) := by decide +kernel
theorem d_K_settleSizes_55 : decode b_K_settleSizes 55 = .ok (.if_icmp .eq 64, 3) := by decide +kernel
theorem d_K_settleSizes_58 : decode b_K_settleSizes 58 = .ok (.aload_n 0, 1) := by decide +kernel
theorem d_K_settleSizes_59 : decode b_K_settleSizes 59 = .ok (.getfield 17, 3) := by decide +kernel
theorem d_K_settleSizes_62 : decode b_K_settleSizes 62 = .ok (.iload_n 3, 1) := by decide +kernel
theorem d_K_settleSizes_63 : decode b_K_settleSizes 63 = .ok (.aload_n 2, 1) := by decide +kernel
theorem d_K_settleSizes_64 : decode b_K_settleSizes 64 = .ok (.aload_n 0, 1) := by decide +kernel
theorem d_K_settleSizes_65 : decode b_K_settleSizes 65 = .ok (.getfield 11, 3) := by decide +kernel
theorem d_K_settleSizes_68 : decode b_K_settleSizes 68 = .ok (.iload_n 3, 1) := by decide +kernel
theorem d_K_settleSizes_69 : decode b_K_settleSizes 69 = .ok (.iaload, 1) := by decide +kernel
theorem d_K_settleSizes_70 : decode b_K_settleSizes 70 = .ok (.aload_n 0, 1) := by decide +kernel
theorem d_K_settleSizes_71 : decode b_K_settleSizes 71 = .ok (.getfield 17, 3) := by decide +kernel
theorem d_K_settleSizes_74 : decode b_K_settleSizes 74 = .ok (.iload_n 3, 1) := by decide +kernel
theorem d_K_settleSizes_75 : decode b_K_settleSizes 75 = .ok (.iaload, 1) := by decide +kernel
theorem d_K_settleSizes_76 : decode b_K_settleSizes 76 = .ok (.invokevirtual 41, 3) := by decide +kernel
theorem d_K_settleSizes_79 : decode b_K_settleSizes 79 = .ok (.iastore, 1) := by decide +kernel
theorem d_K_settleSizes_80 : decode b_K_settleSizes 80 = .ok (.aload_n 0, 1) := by decide +kernel
theorem d_K_settleSizes_81 : decode b_K_settleSizes 81 = .ok (.getfield 11, 3) := by decide +kernel
theorem d_K_settleSizes_84 : decode b_K_settleSizes 84 = .ok (.iload 4, 2) := by decide +kernel
theorem d_K_settleSizes_86 : decode b_K_settleSizes 86 = .ok (.dup2, 1) := by decide +kernel
theorem d_K_settleSizes_87 : decode b_K_settleSizes 87 = .ok (.iaload, 1) := by decide +kernel
theorem d_K_settleSizes_88 : decode b_K_settleSizes 88 = .ok (.aload_n 0, 1) := by decide +kernel
theorem d_K_settleSizes_89 : decode b_K_settleSizes 89 = .ok (.getfield 11, 3) := by decide +kernel
theorem d_K_settleSizes_92 : decode b_K_settleSizes 92 = .ok (.iload_n 3, 1) := by decide +kernel
theorem d_K_settleSizes_93 : decode b_K_settleSizes 93 = .ok (.iaload, 1) := by decide +kernel
theorem d_K_settleSizes_94 : decode b_K_settleSizes 94 = .ok (.iadd, 1) := by decide +kernel
theorem d_K_settleSizes_95 : decode b_K_settleSizes 95 = .ok (.iastore, 1) := by decide +kernel
theorem d_K_settleSizes_96 : decode b_K_settleSizes 96 = .ok (.aload_n 0, 1) := by decide +kernel
theorem d_K_settleSizes_97 : decode b_K_settleSizes 97 = .ok (.getfield 17, 3) := by decide +kernel
theorem d_K_settleSizes_100 : decode b_K_settleSizes 100 = .ok (.iload 4, 2) := by decide +kernel
theorem d_K_settleSizes_102 : decode b_K_settleSizes 102 = .ok (.aload_n 0, 1) := by decide +kernel
theorem d_K_settleSizes_103 : decode b_K_settleSizes 103 = .ok (.getfield 17, 3) := by decide +kernel
theorem d_K_settleSizes_106 : decode b_K_settleSizes 106 = .ok (.iload 4, 2) := by decide +kernel
theorem d_K_settleSizes_108 : decode b_K_settleSizes 108 = .ok (.iaload, 1) := by decide +kernel
theorem d_K_settleSizes_109 : decode b_K_settleSizes 109 = .ok (.aload_n 0, 1) := by decide +kernel
theorem d_K_settleSizes_110 : decode b_K_settleSizes 110 = .ok (.getfield 17, 3) := by decide +kernel
theorem d_K_settleSizes_113 : decode b_K_settleSizes 113 = .ok (.iload_n 3, 1) := by decide +kernel
theorem d_K_settleSizes_114 : decode b_K_settleSizes 114 = .ok (.iaload, 1) := by decide +kernel
theorem d_K_settleSizes_115 : decode b_K_settleSizes 115 = .ok (.invokestatic 47, 3) := by decide +kernel
theorem d_K_settleSizes_118 : decode b_K_settleSizes 118 = .ok (.iastore, 1) := by decide +kernel
theorem d_K_settleSizes_119 : decode b_K_settleSizes 119 = .ok (.iinc 3 (-1), 3) := by decide +kernel
theorem d_K_settleSizes_122 : decode b_K_settleSizes 122 = .ok (.goto (-81), 3) := by decide +kernel
theorem d_K_settleSizes_125 : decode b_K_settleSizes 125 = .ok (.return_, 1) := by decide +kernel
theorem d_K_wider_0 : decode b_K_wider 0 = .ok (.iload_n 0, 1) := by decide +kernel
theorem d_K_wider_1 : decode b_K_wider 1 = .ok (.iconst (-1), 1) := by decide +kernel
theorem d_K_wider_2 : decode b_K_wider 2 = .ok (.if_icmp .eq 8, 3) := by decide +kernel
theorem d_K_wider_5 : decode b_K_wider 5 = .ok (.iload_n 1, 1) := by decide +kernel
theorem d_K_wider_6 : decode b_K_wider 6 = .ok (.iconst (-1), 1) := by decide +kernel
theorem d_K_wider_7 : decode b_K_wider 7 = .ok (.if_icmp .ne 7, 3) := by decide +kernel
theorem d_K_wider_10 : decode b_K_wider 10 = .ok (.iconst (-1), 1) := by decide +kernel
theorem d_K_wider_11 : decode b_K_wider 11 = .ok (.goto 8, 3) := by decide +kernel
theorem d_K_wider_14 : decode b_K_wider 14 = .ok (.iload_n 0, 1) := by decide +kernel
theorem d_K_wider_15 : decode b_K_wider 15 = .ok (.iload_n 1, 1) := by decide +kernel
theorem d_K_wider_16 : decode b_K_wider 16 = .ok (.invokestatic 50, 3) := by decide +kernel
theorem d_K_wider_19 : decode b_K_wider 19 = .ok (.ireturn, 1) := by decide +kernel
theorem d_K_settleLevels_0 : decode b_K_settleLevels 0 = .ok (.aload_n 0, 1) := by decide +kernel
theorem d_K_settleLevels_1 : decode b_K_settleLevels 1 = .ok (.iconst 5, 1) := by decide +kernel
theorem d_K_settleLevels_2 : decode b_K_settleLevels 2 = .ok (.aload_n 2, 1) := by decide +kernel
theorem d_K_settleLevels_3 : decode b_K_settleLevels 3 = .ok (.invokevirtual 55, 3) := by decide +kernel
theorem d_K_settleLevels_6 : decode b_K_settleLevels 6 = .ok (.imul, 1) := by decide +kernel
theorem d_K_settleLevels_7 : decode b_K_settleLevels 7 = .ok (.putfield 58, 3) := by decide +kernel
theorem d_K_settleLevels_10 : decode b_K_settleLevels 10 = .ok (.iconst 0, 1) := by decide +kernel
theorem d_K_settleLevels_11 : decode b_K_settleLevels 11 = .ok (.istore_n 3, 1) := by decide +kernel
theorem d_K_settleLevels_12 : decode b_K_settleLevels 12 = .ok (.iload_n 3, 1) := by decide +kernel
theorem d_K_settleLevels_13 : decode b_K_settleLevels 13 = .ok (.aload_n 1, 1) := by decide +kernel
theorem d_K_settleLevels_14 : decode b_K_settleLevels 14 = .ok (.invokevirtual 30, 3) := by decide +kernel
theorem d_K_settleLevels_17 : decode b_K_settleLevels 17 = .ok (.if_icmp .ge 58, 3) := by decide +kernel
theorem d_K_settleLevels_20 : decode b_K_settleLevels 20 = .ok (.aload_n 1, 1) := by decide +kernel
theorem d_K_settleLevels_21 : decode b_K_settleLevels 21 = .ok (.iload_n 3, 1) := by decide +kernel
theorem d_K_settleLevels_22 : decode b_K_settleLevels 22 = .ok (.invokevirtual 38, 3) := by decide +kernel
theorem d_K_settleLevels_25 : decode b_K_settleLevels 25 = .ok (.istore 4, 2) := by decide +kernel
theorem d_K_settleLevels_27 : decode b_K_settleLevels 27 = .ok (.aload_n 0, 1) := by decide +kernel
theorem d_K_settleLevels_28 : decode b_K_settleLevels 28 = .ok (.getfield 20, 3) := by decide +kernel
theorem d_K_settleLevels_31 : decode b_K_settleLevels 31 = .ok (.iload_n 3, 1) := by decide +kernel
theorem d_K_settleLevels_32 : decode b_K_settleLevels 32 = .ok (.iload 4, 2) := by decide +kernel
theorem d_K_settleLevels_34 : decode b_K_settleLevels 34 = .ok (.iconst (-1), 1) := by decide +kernel
theorem d_K_settleLevels_35 : decode b_K_settleLevels 35 = .ok (.if_icmp .eq 11, 3) := by decide +kernel
theorem d_K_settleLevels_38 : decode b_K_settleLevels 38 = .ok (.aload_n 1, 1) := by decide +kernel
theorem d_K_settleLevels_39 : decode b_K_settleLevels 39 = .ok (.iload_n 3, 1) := by decide +kernel
theorem d_K_settleLevels_40 : decode b_K_settleLevels 40 = .ok (.invokevirtual 62, 3) := by decide +kernel
theorem d_K_settleLevels_43 : decode b_K_settleLevels 43 = .ok (.ifCond .ne 7, 3) := by decide +kernel
theorem d_K_settleLevels_46 : decode b_K_settleLevels 46 = .ok (.iconst 0, 1) := by decide +kernel
theorem d_K_settleLevels_47 : decode b_K_settleLevels 47 = .ok (.goto 21, 3) := by decide +kernel
theorem d_K_settleLevels_50 : decode b_K_settleLevels 50 = .ok (.aload_n 0, 1) := by decide +kernel
theorem d_K_settleLevels_51 : decode b_K_settleLevels 51 = .ok (.getfield 20, 3) := by decide +kernel
theorem d_K_settleLevels_54 : decode b_K_settleLevels 54 = .ok (.iload 4, 2) := by decide +kernel
theorem d_K_settleLevels_56 : decode b_K_settleLevels 56 = .ok (.iaload, 1) := by decide +kernel
theorem d_K_settleLevels_57 : decode b_K_settleLevels 57 = .ok (.aload_n 0, 1) := by decide +kernel
theorem d_K_settleLevels_58 : decode b_K_settleLevels 58 = .ok (.getfield 58, 3) := by decide +kernel
theorem d_K_settleLevels_61 : decode b_K_settleLevels 61 = .ok (.aload_n 1, 1) := by decide +kernel
theorem d_K_settleLevels_62 : decode b_K_settleLevels 62 = .ok (.iload_n 3, 1) := by decide +kernel
theorem d_K_settleLevels_63 : decode b_K_settleLevels 63 = .ok (.invokevirtual 66, 3) := by decide +kernel
theorem d_K_settleLevels_66 : decode b_K_settleLevels 66 = .ok (.imul, 1) := by decide +kernel
theorem d_K_settleLevels_67 : decode b_K_settleLevels 67 = .ok (.iadd, 1) := by decide +kernel
theorem d_K_settleLevels_68 : decode b_K_settleLevels 68 = .ok (.iastore, 1) := by decide +kernel
theorem d_K_settleLevels_69 : decode b_K_settleLevels 69 = .ok (.iinc 3 1, 3) := by decide +kernel
theorem d_K_settleLevels_72 : decode b_K_settleLevels 72 = .ok (.goto (-60), 3) := by decide +kernel
theorem d_K_settleLevels_75 : decode b_K_settleLevels 75 = .ok (.return_, 1) := by decide +kernel
theorem d_K_loadOf_0 : decode b_K_loadOf 0 = .ok (.aload_n 0, 1) := by decide +kernel
theorem d_K_loadOf_1 : decode b_K_loadOf 1 = .ok (.getfield 11, 3) := by decide +kernel
theorem d_K_loadOf_4 : decode b_K_loadOf 4 = .ok (.iload_n 1, 1) := by decide +kernel
theorem d_K_loadOf_5 : decode b_K_loadOf 5 = .ok (.iaload, 1) := by decide +kernel
theorem d_K_loadOf_6 : decode b_K_loadOf 6 = .ok (.ireturn, 1) := by decide +kernel
theorem d_K_sizeOf_0 : decode b_K_sizeOf 0 = .ok (.aload_n 0, 1) := by decide +kernel
theorem d_K_sizeOf_1 : decode b_K_sizeOf 1 = .ok (.getfield 17, 3) := by decide +kernel
theorem d_K_sizeOf_4 : decode b_K_sizeOf 4 = .ok (.iload_n 1, 1) := by decide +kernel
theorem d_K_sizeOf_5 : decode b_K_sizeOf 5 = .ok (.iaload, 1) := by decide +kernel
theorem d_K_sizeOf_6 : decode b_K_sizeOf 6 = .ok (.ireturn, 1) := by decide +kernel
theorem d_K_levelAt_0 : decode b_K_levelAt 0 = .ok (.aload_n 0, 1) := by decide +kernel
theorem d_K_levelAt_1 : decode b_K_levelAt 1 = .ok (.getfield 20, 3) := by decide +kernel
theorem d_K_levelAt_4 : decode b_K_levelAt 4 = .ok (.iload_n 1, 1) := by decide +kernel
theorem d_K_levelAt_5 : decode b_K_levelAt 5 = .ok (.iaload, 1) := by decide +kernel
theorem d_K_levelAt_6 : decode b_K_levelAt 6 = .ok (.aload_n 0, 1) := by decide +kernel
theorem d_K_levelAt_7 : decode b_K_levelAt 7 = .ok (.getfield 58, 3) := by decide +kernel
theorem d_K_levelAt_10 : decode b_K_levelAt 10 = .ok (.iload_n 2, 1) := by decide +kernel
theorem d_K_levelAt_11 : decode b_K_levelAt 11 = .ok (.imul, 1) := by decide +kernel
theorem d_K_levelAt_12 : decode b_K_levelAt 12 = .ok (.isub, 1) := by decide +kernel
theorem d_K_levelAt_13 : decode b_K_levelAt 13 = .ok (.ireturn, 1) := by decide +kernel
theorem d_K_isSafe_0 : decode b_K_isSafe 0 = .ok (.aload_n 1, 1) := by decide +kernel
theorem d_K_isSafe_1 : decode b_K_isSafe 1 = .ok (.iload_n 3, 1) := by decide +kernel
theorem d_K_isSafe_2 : decode b_K_isSafe 2 = .ok (.invokevirtual 69, 3) := by decide +kernel
theorem d_K_isSafe_5 : decode b_K_isSafe 5 = .ok (.ifCond .ne 5, 3) := by decide +kernel
theorem d_K_isSafe_8 : decode b_K_isSafe 8 = .ok (.iconst 0, 1) := by decide +kernel
theorem d_K_isSafe_9 : decode b_K_isSafe 9 = .ok (.ireturn, 1) := by decide +kernel
theorem d_K_isSafe_10 : decode b_K_isSafe 10 = .ok (.aload_n 1, 1) := by decide +kernel
theorem d_K_isSafe_11 : decode b_K_isSafe 11 = .ok (.iload_n 3, 1) := by decide +kernel
theorem d_K_isSafe_12 : decode b_K_isSafe 12 = .ok (.invokevirtual 72, 3) := by decide +kernel
theorem d_K_isSafe_15 : decode b_K_isSafe 15 = .ok (.ifCond .eq 5, 3) := by decide +kernel
theorem d_K_isSafe_18 : decode b_K_isSafe 18 = .ok (.iconst 1, 1) := by decide +kernel
theorem d_K_isSafe_19 : decode b_K_isSafe 19 = .ok (.ireturn, 1) := by decide +kernel
theorem d_K_isSafe_20 : decode b_K_isSafe 20 = .ok (.aload_n 0, 1) := by decide +kernel
theorem d_K_isSafe_21 : decode b_K_isSafe 21 = .ok (.getfield 17, 3) := by decide +kernel
theorem d_K_isSafe_24 : decode b_K_isSafe 24 = .ok (.iload_n 3, 1) := by decide +kernel
theorem d_K_isSafe_25 : decode b_K_isSafe 25 = .ok (.iaload, 1) := by decide +kernel
theorem d_K_isSafe_26 : decode b_K_isSafe 26 = .ok (.iconst (-1), 1) := by decide +kernel
theorem d_K_isSafe_27 : decode b_K_isSafe 27 = .ok (.if_icmp .eq 28, 3) := by decide +kernel
theorem d_K_isSafe_30 : decode b_K_isSafe 30 = .ok (.aload_n 1, 1) := by decide +kernel
theorem d_K_isSafe_31 : decode b_K_isSafe 31 = .ok (.iload_n 3, 1) := by decide +kernel
theorem d_K_isSafe_32 : decode b_K_isSafe 32 = .ok (.invokevirtual 75, 3) := by decide +kernel
theorem d_K_isSafe_35 : decode b_K_isSafe 35 = .ok (.aload_n 2, 1) := by decide +kernel
theorem d_K_isSafe_36 : decode b_K_isSafe 36 = .ok (.invokevirtual 78, 3) := by decide +kernel
theorem d_K_isSafe_39 : decode b_K_isSafe 39 = .ok (.aload_n 0, 1) := by decide +kernel
theorem d_K_isSafe_40 : decode b_K_isSafe 40 = .ok (.getfield 17, 3) := by decide +kernel
theorem d_K_isSafe_43 : decode b_K_isSafe 43 = .ok (.iload_n 3, 1) := by decide +kernel
theorem d_K_isSafe_44 : decode b_K_isSafe 44 = .ok (.iaload, 1) := by decide +kernel
theorem d_K_isSafe_45 : decode b_K_isSafe 45 = .ok (.iconst 1, 1) := by decide +kernel
theorem d_K_isSafe_46 : decode b_K_isSafe 46 = .ok (.iadd, 1) := by decide +kernel
theorem d_K_isSafe_47 : decode b_K_isSafe 47 = .ok (.imul, 1) := by decide +kernel
theorem d_K_isSafe_48 : decode b_K_isSafe 48 = .ok (.if_icmp .gt 7, 3) := by decide +kernel
theorem d_K_isSafe_51 : decode b_K_isSafe 51 = .ok (.iconst 1, 1) := by decide +kernel
theorem d_K_isSafe_52 : decode b_K_isSafe 52 = .ok (.goto 4, 3) := by decide +kernel
theorem d_K_isSafe_55 : decode b_K_isSafe 55 = .ok (.iconst 0, 1) := by decide +kernel
theorem d_K_isSafe_56 : decode b_K_isSafe 56 = .ok (.ireturn, 1) := by decide +kernel
theorem d_K_secondsOf_0 : decode b_K_secondsOf 0 = .ok (.aload_n 1, 1) := by decide +kernel
theorem d_K_secondsOf_1 : decode b_K_secondsOf 1 = .ok (.iload_n 2, 1) := by decide +kernel
theorem d_K_secondsOf_2 : decode b_K_secondsOf 2 = .ok (.invokevirtual 72, 3) := by decide +kernel
theorem d_K_secondsOf_5 : decode b_K_secondsOf 5 = .ok (.ifCond .ne 19, 3) := by decide +kernel
theorem d_K_secondsOf_8 : decode b_K_secondsOf 8 = .ok (.aload_n 1, 1) := by decide +kernel
theorem d_K_secondsOf_9 : decode b_K_secondsOf 9 = .ok (.iload_n 2, 1) := by decide +kernel
theorem d_K_secondsOf_10 : decode b_K_secondsOf 10 = .ok (.invokevirtual 62, 3) := by decide +kernel
theorem d_K_secondsOf_13 : decode b_K_secondsOf 13 = .ok (.ifCond .ne 11, 3) := by decide +kernel
theorem d_K_secondsOf_16 : decode b_K_secondsOf 16 = .ok (.aload_n 1, 1) := by decide +kernel
theorem d_K_secondsOf_17 : decode b_K_secondsOf 17 = .ok (.iload_n 2, 1) := by decide +kernel
theorem d_K_secondsOf_18 : decode b_K_secondsOf 18 = .ok (.invokevirtual 34, 3) := by decide +kernel
theorem d_K_secondsOf_21 : decode b_K_secondsOf 21 = .ok (.ifCond .gt 5, 3) := by decide +kernel
theorem d_K_secondsOf_24 : decode b_K_secondsOf 24 = .ok (.iconst (-1), 1) := by decide +kernel
theorem d_K_secondsOf_25 : decode b_K_secondsOf 25 = .ok (.ireturn, 1) := by decide +kernel
theorem d_K_secondsOf_26 : decode b_K_secondsOf 26 = .ok (.iconst 0, 1) := by decide +kernel
theorem d_K_secondsOf_27 : decode b_K_secondsOf 27 = .ok (.istore_n 3, 1) := by decide +kernel
theorem d_K_secondsOf_28 : decode b_K_secondsOf 28 = .ok (.iload_n 2, 1) := by decide +kernel
theorem d_K_secondsOf_29 : decode b_K_secondsOf 29 = .ok (.istore 4, 2) := by decide +kernel
theorem d_K_secondsOf_31 : decode b_K_secondsOf 31 = .ok (.iconst 0, 1) := by decide +kernel
theorem d_K_secondsOf_32 : decode b_K_secondsOf 32 = .ok (.istore 5, 2) := by decide +kernel
theorem d_K_secondsOf_34 : decode b_K_secondsOf 34 = .ok (.iload 5, 2) := by decide +kernel
theorem d_K_secondsOf_36 : decode b_K_secondsOf 36 = .ok (.bipush 24, 2) := by decide +kernel
theorem d_K_secondsOf_38 : decode b_K_secondsOf 38 = .ok (.if_icmp .ge 65, 3) := by decide +kernel
theorem d_K_secondsOf_41 : decode b_K_secondsOf 41 = .ok (.aload_n 1, 1) := by decide +kernel
theorem d_K_secondsOf_42 : decode b_K_secondsOf 42 = .ok (.iload 4, 2) := by decide +kernel
theorem d_K_secondsOf_44 : decode b_K_secondsOf 44 = .ok (.invokevirtual 72, 3) := by decide +kernel
theorem d_K_secondsOf_47 : decode b_K_secondsOf 47 = .ok (.ifCond .ne 56, 3) := by decide +kernel
theorem d_K_secondsOf_50 : decode b_K_secondsOf 50 = .ok (.aload_n 0, 1) := by decide +kernel
theorem d_K_secondsOf_51 : decode b_K_secondsOf 51 = .ok (.getfield 17, 3) := by decide +kernel
theorem d_K_secondsOf_54 : decode b_K_secondsOf 54 = .ok (.iload 4, 2) := by decide +kernel
theorem d_K_secondsOf_56 : decode b_K_secondsOf 56 = .ok (.iaload, 1) := by decide +kernel
theorem d_K_secondsOf_57 : decode b_K_secondsOf 57 = .ok (.iconst (-1), 1) := by decide +kernel
theorem d_K_secondsOf_58 : decode b_K_secondsOf 58 = .ok (.if_icmp .ne 5, 3) := by decide +kernel
theorem d_K_secondsOf_61 : decode b_K_secondsOf 61 = .ok (.iconst (-1), 1) := by decide +kernel
theorem d_K_secondsOf_62 : decode b_K_secondsOf 62 = .ok (.ireturn, 1) := by decide +kernel
theorem d_K_secondsOf_63 : decode b_K_secondsOf 63 = .ok (.aload_n 0, 1) := by decide +kernel
theorem d_K_secondsOf_64 : decode b_K_secondsOf 64 = .ok (.getfield 17, 3) := by decide +kernel
theorem d_K_secondsOf_67 : decode b_K_secondsOf 67 = .ok (.iload 4, 2) := by decide +kernel
theorem d_K_secondsOf_69 : decode b_K_secondsOf 69 = .ok (.iaload, 1) := by decide +kernel
theorem d_K_secondsOf_70 : decode b_K_secondsOf 70 = .ok (.iconst 1, 1) := by decide +kernel
theorem d_K_secondsOf_71 : decode b_K_secondsOf 71 = .ok (.iadd, 1) := by decide +kernel
theorem d_K_secondsOf_72 : decode b_K_secondsOf 72 = .ok (.istore 6, 2) := by decide +kernel
theorem d_K_secondsOf_74 : decode b_K_secondsOf 74 = .ok (.iload_n 3, 1) := by decide +kernel
theorem d_K_secondsOf_75 : decode b_K_secondsOf 75 = .ok (.aload_n 1, 1) := by decide +kernel
theorem d_K_secondsOf_76 : decode b_K_secondsOf 76 = .ok (.iload 4, 2) := by decide +kernel
theorem d_K_secondsOf_78 : decode b_K_secondsOf 78 = .ok (.invokevirtual 81, 3) := by decide +kernel
theorem d_K_secondsOf_81 : decode b_K_secondsOf 81 = .ok (.iload 6, 2) := by decide +kernel
theorem d_K_secondsOf_83 : decode b_K_secondsOf 83 = .ok (.imul, 1) := by decide +kernel
theorem d_K_secondsOf_84 : decode b_K_secondsOf 84 = .ok (.iload 6, 2) := by decide +kernel
theorem d_K_secondsOf_86 : decode b_K_secondsOf 86 = .ok (.imul, 1) := by decide +kernel
theorem d_K_secondsOf_87 : decode b_K_secondsOf 87 = .ok (.iadd, 1) := by decide +kernel
theorem d_K_secondsOf_88 : decode b_K_secondsOf 88 = .ok (.istore_n 3, 1) := by decide +kernel
theorem d_K_secondsOf_89 : decode b_K_secondsOf 89 = .ok (.aload_n 1, 1) := by decide +kernel
theorem d_K_secondsOf_90 : decode b_K_secondsOf 90 = .ok (.iload 4, 2) := by decide +kernel
theorem d_K_secondsOf_92 : decode b_K_secondsOf 92 = .ok (.invokevirtual 38, 3) := by decide +kernel
theorem d_K_secondsOf_95 : decode b_K_secondsOf 95 = .ok (.istore 4, 2) := by decide +kernel
theorem d_K_secondsOf_97 : decode b_K_secondsOf 97 = .ok (.iinc 5 1, 3) := by decide +kernel
theorem d_K_secondsOf_100 : decode b_K_secondsOf 100 = .ok (.goto (-66), 3) := by decide +kernel
theorem d_K_secondsOf_103 : decode b_K_secondsOf 103 = .ok (.iload_n 3, 1) := by decide +kernel
theorem d_K_secondsOf_104 : decode b_K_secondsOf 104 = .ok (.bipush 40, 2) := by decide +kernel
theorem d_K_secondsOf_106 : decode b_K_secondsOf 106 = .ok (.aload_n 1, 1) := by decide +kernel
theorem d_K_secondsOf_107 : decode b_K_secondsOf 107 = .ok (.iload_n 2, 1) := by decide +kernel
theorem d_K_secondsOf_108 : decode b_K_secondsOf 108 = .ok (.invokevirtual 34, 3) := by decide +kernel
theorem d_K_secondsOf_111 : decode b_K_secondsOf 111 = .ok (.imul, 1) := by decide +kernel
theorem d_K_secondsOf_112 : decode b_K_secondsOf 112 = .ok (.idiv, 1) := by decide +kernel
theorem d_K_secondsOf_113 : decode b_K_secondsOf 113 = .ok (.ireturn, 1) := by decide +kernel
theorem d_K_runsOfSize_0 : decode b_K_runsOfSize 0 = .ok (.iconst 0, 1) := by decide +kernel
theorem d_K_runsOfSize_1 : decode b_K_runsOfSize 1 = .ok (.istore_n 3, 1) := by decide +kernel
theorem d_K_runsOfSize_2 : decode b_K_runsOfSize 2 = .ok (.iconst 0, 1) := by decide +kernel
theorem d_K_runsOfSize_3 : decode b_K_runsOfSize 3 = .ok (.istore 4, 2) := by decide +kernel
theorem d_K_runsOfSize_5 : decode b_K_runsOfSize 5 = .ok (.iload 4, 2) := by decide +kernel
theorem d_K_runsOfSize_7 : decode b_K_runsOfSize 7 = .ok (.aload_n 1, 1) := by decide +kernel
theorem d_K_runsOfSize_8 : decode b_K_runsOfSize 8 = .ok (.invokevirtual 30, 3) := by decide +kernel
theorem d_K_runsOfSize_11 : decode b_K_runsOfSize 11 = .ok (.if_icmp .ge 37, 3) := by decide +kernel
theorem d_K_runsOfSize_14 : decode b_K_runsOfSize 14 = .ok (.iload_n 3, 1) := by decide +kernel
theorem d_K_runsOfSize_15 : decode b_K_runsOfSize 15 = .ok (.aload_n 1, 1) := by decide +kernel
theorem d_K_runsOfSize_16 : decode b_K_runsOfSize 16 = .ok (.iload 4, 2) := by decide +kernel
theorem d_K_runsOfSize_18 : decode b_K_runsOfSize 18 = .ok (.invokevirtual 72, 3) := by decide +kernel
theorem d_K_runsOfSize_21 : decode b_K_runsOfSize 21 = .ok (.ifCond .ne 18, 3) := by decide +kernel
theorem d_K_runsOfSize_24 : decode b_K_runsOfSize 24 = .ok (.aload_n 0, 1) := by decide +kernel
theorem d_K_runsOfSize_25 : decode b_K_runsOfSize 25 = .ok (.getfield 17, 3) := by decide +kernel
theorem d_K_runsOfSize_28 : decode b_K_runsOfSize 28 = .ok (.iload 4, 2) := by decide +kernel
theorem d_K_runsOfSize_30 : decode b_K_runsOfSize 30 = .ok (.iaload, 1) := by decide +kernel
theorem d_K_runsOfSize_31 : decode b_K_runsOfSize 31 = .ok (.iload_n 2, 1) := by decide +kernel
theorem d_K_runsOfSize_32 : decode b_K_runsOfSize 32 = .ok (.if_icmp .ne 7, 3) := by decide +kernel
theorem d_K_runsOfSize_35 : decode b_K_runsOfSize 35 = .ok (.iconst 1, 1) := by decide +kernel
theorem d_K_runsOfSize_36 : decode b_K_runsOfSize 36 = .ok (.goto 4, 3) := by decide +kernel
theorem d_K_runsOfSize_39 : decode b_K_runsOfSize 39 = .ok (.iconst 0, 1) := by decide +kernel
theorem d_K_runsOfSize_40 : decode b_K_runsOfSize 40 = .ok (.iadd, 1) := by decide +kernel
theorem d_K_runsOfSize_41 : decode b_K_runsOfSize 41 = .ok (.istore_n 3, 1) := by decide +kernel
theorem d_K_runsOfSize_42 : decode b_K_runsOfSize 42 = .ok (.iinc 4 1, 3) := by decide +kernel
theorem d_K_runsOfSize_45 : decode b_K_runsOfSize 45 = .ok (.goto (-40), 3) := by decide +kernel
theorem d_K_runsOfSize_48 : decode b_K_runsOfSize 48 = .ok (.iload_n 3, 1) := by decide +kernel
theorem d_K_runsOfSize_49 : decode b_K_runsOfSize 49 = .ok (.ireturn, 1) := by decide +kernel
theorem d_K_safeTraps_0 : decode b_K_safeTraps 0 = .ok (.iconst 0, 1) := by decide +kernel
theorem d_K_safeTraps_1 : decode b_K_safeTraps 1 = .ok (.istore_n 3, 1) := by decide +kernel
theorem d_K_safeTraps_2 : decode b_K_safeTraps 2 = .ok (.iconst 0, 1) := by decide +kernel
theorem d_K_safeTraps_3 : decode b_K_safeTraps 3 = .ok (.istore 4, 2) := by decide +kernel
theorem d_K_safeTraps_5 : decode b_K_safeTraps 5 = .ok (.iload 4, 2) := by decide +kernel
theorem d_K_safeTraps_7 : decode b_K_safeTraps 7 = .ok (.aload_n 1, 1) := by decide +kernel
theorem d_K_safeTraps_8 : decode b_K_safeTraps 8 = .ok (.invokevirtual 30, 3) := by decide +kernel
theorem d_K_safeTraps_11 : decode b_K_safeTraps 11 = .ok (.if_icmp .ge 28, 3) := by decide +kernel
theorem d_K_safeTraps_14 : decode b_K_safeTraps 14 = .ok (.iload_n 3, 1) := by decide +kernel
theorem d_K_safeTraps_15 : decode b_K_safeTraps 15 = .ok (.aload_n 0, 1) := by decide +kernel
theorem d_K_safeTraps_16 : decode b_K_safeTraps 16 = .ok (.aload_n 1, 1) := by decide +kernel
theorem d_K_safeTraps_17 : decode b_K_safeTraps 17 = .ok (.aload_n 2, 1) := by decide +kernel
theorem d_K_safeTraps_18 : decode b_K_safeTraps 18 = .ok (.iload 4, 2) := by decide +kernel
theorem d_K_safeTraps_20 : decode b_K_safeTraps 20 = .ok (.invokevirtual 84, 3) := by decide +kernel
theorem d_K_safeTraps_23 : decode b_K_safeTraps 23 = .ok (.ifCond .eq 7, 3) := by decide +kernel
theorem d_K_safeTraps_26 : decode b_K_safeTraps 26 = .ok (.iconst 1, 1) := by decide +kernel
theorem d_K_safeTraps_27 : decode b_K_safeTraps 27 = .ok (.goto 4, 3) := by decide +kernel
theorem d_K_safeTraps_30 : decode b_K_safeTraps 30 = .ok (.iconst 0, 1) := by decide +kernel
theorem d_K_safeTraps_31 : decode b_K_safeTraps 31 = .ok (.iadd, 1) := by decide +kernel
theorem d_K_safeTraps_32 : decode b_K_safeTraps 32 = .ok (.istore_n 3, 1) := by decide +kernel
theorem d_K_safeTraps_33 : decode b_K_safeTraps 33 = .ok (.iinc 4 1, 3) := by decide +kernel
theorem d_K_safeTraps_36 : decode b_K_safeTraps 36 = .ok (.goto (-31), 3) := by decide +kernel
theorem d_K_safeTraps_39 : decode b_K_safeTraps 39 = .ok (.iload_n 3, 1) := by decide +kernel
theorem d_K_safeTraps_40 : decode b_K_safeTraps 40 = .ok (.ireturn, 1) := by decide +kernel
theorem d_K_mostSeconds_0 : decode b_K_mostSeconds 0 = .ok (.iconst (-1), 1) := by decide +kernel
theorem d_K_mostSeconds_1 : decode b_K_mostSeconds 1 = .ok (.istore_n 2, 1) := by decide +kernel
theorem d_K_mostSeconds_2 : decode b_K_mostSeconds 2 = .ok (.iconst 0, 1) := by decide +kernel
theorem d_K_mostSeconds_3 : decode b_K_mostSeconds 3 = .ok (.istore_n 3, 1) := by decide +kernel
theorem d_K_mostSeconds_4 : decode b_K_mostSeconds 4 = .ok (.iload_n 3, 1) := by decide +kernel
theorem d_K_mostSeconds_5 : decode b_K_mostSeconds 5 = .ok (.aload_n 1, 1) := by decide +kernel
theorem d_K_mostSeconds_6 : decode b_K_mostSeconds 6 = .ok (.invokevirtual 30, 3) := by decide +kernel
theorem d_K_mostSeconds_9 : decode b_K_mostSeconds 9 = .ok (.if_icmp .ge 20, 3) := by decide +kernel
theorem d_K_mostSeconds_12 : decode b_K_mostSeconds 12 = .ok (.iload_n 2, 1) := by decide +kernel
theorem d_K_mostSeconds_13 : decode b_K_mostSeconds 13 = .ok (.aload_n 0, 1) := by decide +kernel
theorem d_K_mostSeconds_14 : decode b_K_mostSeconds 14 = .ok (.aload_n 1, 1) := by decide +kernel
theorem d_K_mostSeconds_15 : decode b_K_mostSeconds 15 = .ok (.iload_n 3, 1) := by decide +kernel
theorem d_K_mostSeconds_16 : decode b_K_mostSeconds 16 = .ok (.invokevirtual 88, 3) := by decide +kernel
theorem d_K_mostSeconds_19 : decode b_K_mostSeconds 19 = .ok (.invokestatic 50, 3) := by decide +kernel
theorem d_K_mostSeconds_22 : decode b_K_mostSeconds 22 = .ok (.istore_n 2, 1) := by decide +kernel
theorem d_K_mostSeconds_23 : decode b_K_mostSeconds 23 = .ok (.iinc 3 1, 3) := by decide +kernel
theorem d_K_mostSeconds_26 : decode b_K_mostSeconds 26 = .ok (.goto (-22), 3) := by decide +kernel
theorem d_K_mostSeconds_29 : decode b_K_mostSeconds 29 = .ok (.iload_n 2, 1) := by decide +kernel
theorem d_K_mostSeconds_30 : decode b_K_mostSeconds 30 = .ok (.ireturn, 1) := by decide +kernel
theorem d_C_init_0 : decode b_C_init 0 = .ok (.aload_n 0, 1) := by decide +kernel
theorem d_C_init_1 : decode b_C_init 1 = .ok (.invokespecial 3, 3) := by decide +kernel
theorem d_C_init_4 : decode b_C_init 4 = .ok (.aload_n 0, 1) := by decide +kernel
theorem d_C_init_5 : decode b_C_init 5 = .ok (.sipush 144, 3) := by decide +kernel
theorem d_C_init_8 : decode b_C_init 8 = .ok (.newarray .int, 2) := by decide +kernel
theorem d_C_init_10 : decode b_C_init 10 = .ok (.putfield 11, 3) := by decide +kernel
theorem d_C_init_13 : decode b_C_init 13 = .ok (.aload_n 0, 1) := by decide +kernel
theorem d_C_init_14 : decode b_C_init 14 = .ok (.getfield 11, 3) := by decide +kernel
theorem d_C_init_17 : decode b_C_init 17 = .ok (.iconst (-1), 1) := by decide +kernel
theorem d_C_init_18 : decode b_C_init 18 = .ok (.invokestatic 17, 3) := by decide +kernel
theorem d_C_init_21 : decode b_C_init 21 = .ok (.return_, 1) := by decide +kernel
theorem d_C_search_0 : decode b_C_search 0 = .ok (.aload_n 0, 1) := by decide +kernel
theorem d_C_search_1 : decode b_C_search 1 = .ok (.iconst 0, 1) := by decide +kernel
theorem d_C_search_2 : decode b_C_search 2 = .ok (.putfield 23, 3) := by decide +kernel
theorem d_C_search_5 : decode b_C_search 5 = .ok (.aload_n 0, 1) := by decide +kernel
theorem d_C_search_6 : decode b_C_search 6 = .ok (.iconst (-1), 1) := by decide +kernel
theorem d_C_search_7 : decode b_C_search 7 = .ok (.putfield 27, 3) := by decide +kernel
theorem d_C_search_10 : decode b_C_search 10 = .ok (.aload_n 0, 1) := by decide +kernel
theorem d_C_search_11 : decode b_C_search 11 = .ok (.iconst (-1), 1) := by decide +kernel
theorem d_C_search_12 : decode b_C_search 12 = .ok (.putfield 30, 3) := by decide +kernel
theorem d_C_search_15 : decode b_C_search 15 = .ok (.aload_n 0, 1) := by decide +kernel
theorem d_C_search_16 : decode b_C_search 16 = .ok (.iconst (-1), 1) := by decide +kernel
theorem d_C_search_17 : decode b_C_search 17 = .ok (.putfield 33, 3) := by decide +kernel
theorem d_C_search_20 : decode b_C_search 20 = .ok (.iconst 0, 1) := by decide +kernel
theorem d_C_search_21 : decode b_C_search 21 = .ok (.istore 4, 2) := by decide +kernel
theorem d_C_search_23 : decode b_C_search 23 = .ok (.iload 4, 2) := by decide +kernel
theorem d_C_search_25 : decode b_C_search 25 = .ok (.aload_n 1, 1) := by decide +kernel
theorem d_C_search_26 : decode b_C_search 26 = .ok (.invokevirtual 36, 3) := by decide +kernel
theorem d_C_search_29 : decode b_C_search 29 = .ok (.if_icmp .ge 42, 3) := by decide +kernel
theorem d_C_search_32 : decode b_C_search 32 = .ok (.aload_n 1, 1) := by decide +kernel
theorem d_C_search_33 : decode b_C_search 33 = .ok (.iload 4, 2) := by decide +kernel
theorem d_C_search_35 : decode b_C_search 35 = .ok (.invokestatic 42, 3) := by decide +kernel
theorem d_C_search_38 : decode b_C_search 38 = .ok (.ifCond .eq 27, 3) := by decide +kernel
theorem d_C_search_41 : decode b_C_search 41 = .ok (.aload_n 0, 1) := by decide +kernel
theorem d_C_search_42 : decode b_C_search 42 = .ok (.aload_n 1, 1) := by decide +kernel
theorem d_C_search_43 : decode b_C_search 43 = .ok (.aload_n 2, 1) := by decide +kernel
theorem d_C_search_44 : decode b_C_search 44 = .ok (.iload 4, 2) := by decide +kernel
theorem d_C_search_46 : decode b_C_search 46 = .ok (.invokevirtual 46, 3) := by decide +kernel
theorem d_C_search_49 : decode b_C_search 49 = .ok (.aload_n 0, 1) := by decide +kernel
theorem d_C_search_50 : decode b_C_search 50 = .ok (.aload_n 1, 1) := by decide +kernel
theorem d_C_search_51 : decode b_C_search 51 = .ok (.aload_n 2, 1) := by decide +kernel
theorem d_C_search_52 : decode b_C_search 52 = .ok (.iload_n 3, 1) := by decide +kernel
theorem d_C_search_53 : decode b_C_search 53 = .ok (.iload 4, 2) := by decide +kernel
theorem d_C_search_55 : decode b_C_search 55 = .ok (.invokevirtual 50, 3) := by decide +kernel
theorem d_C_search_58 : decode b_C_search 58 = .ok (.aload_n 0, 1) := by decide +kernel
theorem d_C_search_59 : decode b_C_search 59 = .ok (.aload_n 1, 1) := by decide +kernel
theorem d_C_search_60 : decode b_C_search 60 = .ok (.iload 4, 2) := by decide +kernel
theorem d_C_search_62 : decode b_C_search 62 = .ok (.invokevirtual 54, 3) := by decide +kernel
theorem d_C_search_65 : decode b_C_search 65 = .ok (.iinc 4 1, 3) := by decide +kernel
theorem d_C_search_68 : decode b_C_search 68 = .ok (.goto (-45), 3) := by decide +kernel
theorem d_C_search_71 : decode b_C_search 71 = .ok (.return_, 1) := by decide +kernel
theorem d_C_pairs_0 : decode b_C_pairs 0 = .ok (.aload_n 0, 1) := by decide +kernel
theorem d_C_pairs_1 : decode b_C_pairs 1 = .ok (.getfield 23, 3) := by decide +kernel
theorem d_C_pairs_4 : decode b_C_pairs 4 = .ok (.ireturn, 1) := by decide +kernel
theorem d_C_firstNode_0 : decode b_C_firstNode 0 = .ok (.aload_n 0, 1) := by decide +kernel
theorem d_C_firstNode_1 : decode b_C_firstNode 1 = .ok (.getfield 27, 3) := by decide +kernel
theorem d_C_firstNode_4 : decode b_C_firstNode 4 = .ok (.ireturn, 1) := by decide +kernel
theorem d_C_otherNode_0 : decode b_C_otherNode 0 = .ok (.aload_n 0, 1) := by decide +kernel
theorem d_C_otherNode_1 : decode b_C_otherNode 1 = .ok (.getfield 30, 3) := by decide +kernel
theorem d_C_otherNode_4 : decode b_C_otherNode 4 = .ok (.ireturn, 1) := by decide +kernel
theorem d_C_firstCell_0 : decode b_C_firstCell 0 = .ok (.aload_n 0, 1) := by decide +kernel
theorem d_C_firstCell_1 : decode b_C_firstCell 1 = .ok (.getfield 33, 3) := by decide +kernel
theorem d_C_firstCell_4 : decode b_C_firstCell 4 = .ok (.ireturn, 1) := by decide +kernel
theorem d_C_isDrainRun_0 : decode b_C_isDrainRun 0 = .ok (.aload_n 0, 1) := by decide +kernel
theorem d_C_isDrainRun_1 : decode b_C_isDrainRun 1 = .ok (.iload_n 1, 1) := by decide +kernel
theorem d_C_isDrainRun_2 : decode b_C_isDrainRun 2 = .ok (.invokevirtual 58, 3) := by decide +kernel
theorem d_C_isDrainRun_5 : decode b_C_isDrainRun 5 = .ok (.ifCond .eq 15, 3) := by decide +kernel
theorem d_C_isDrainRun_8 : decode b_C_isDrainRun 8 = .ok (.aload_n 0, 1) := by decide +kernel
theorem d_C_isDrainRun_9 : decode b_C_isDrainRun 9 = .ok (.iload_n 1, 1) := by decide +kernel
theorem d_C_isDrainRun_10 : decode b_C_isDrainRun 10 = .ok (.invokevirtual 62, 3) := by decide +kernel
theorem d_C_isDrainRun_13 : decode b_C_isDrainRun 13 = .ok (.ifCond .ne 7, 3) := by decide +kernel
theorem d_C_isDrainRun_16 : decode b_C_isDrainRun 16 = .ok (.iconst 1, 1) := by decide +kernel
theorem d_C_isDrainRun_17 : decode b_C_isDrainRun 17 = .ok (.goto 4, 3) := by decide +kernel
theorem d_C_isDrainRun_20 : decode b_C_isDrainRun 20 = .ok (.iconst 0, 1) := by decide +kernel
theorem d_C_isDrainRun_21 : decode b_C_isDrainRun 21 = .ok (.ireturn, 1) := by decide +kernel
theorem d_C_mark_0 : decode b_C_mark 0 = .ok (.iconst 0, 1) := by decide +kernel
theorem d_C_mark_1 : decode b_C_mark 1 = .ok (.istore 4, 2) := by decide +kernel
theorem d_C_mark_3 : decode b_C_mark 3 = .ok (.iload 4, 2) := by decide +kernel
theorem d_C_mark_5 : decode b_C_mark 5 = .ok (.aload_n 1, 1) := by decide +kernel
theorem d_C_mark_6 : decode b_C_mark 6 = .ok (.iload_n 3, 1) := by decide +kernel
theorem d_C_mark_7 : decode b_C_mark 7 = .ok (.invokevirtual 65, 3) := by decide +kernel
theorem d_C_mark_10 : decode b_C_mark 10 = .ok (.if_icmp .ge 28, 3) := by decide +kernel
theorem d_C_mark_13 : decode b_C_mark 13 = .ok (.aload_n 0, 1) := by decide +kernel
theorem d_C_mark_14 : decode b_C_mark 14 = .ok (.getfield 11, 3) := by decide +kernel
theorem d_C_mark_17 : decode b_C_mark 17 = .ok (.aload_n 1, 1) := by decide +kernel
theorem d_C_mark_18 : decode b_C_mark 18 = .ok (.iload_n 3, 1) := by decide +kernel
theorem d_C_mark_19 : decode b_C_mark 19 = .ok (.iload 4, 2) := by decide +kernel
theorem d_C_mark_21 : decode b_C_mark 21 = .ok (.invokevirtual 69, 3) := by decide +kernel
theorem d_C_mark_24 : decode b_C_mark 24 = .ok (.aload_n 2, 1) := by decide +kernel
theorem d_C_mark_25 : decode b_C_mark 25 = .ok (.iload_n 3, 1) := by decide +kernel
theorem d_C_mark_26 : decode b_C_mark 26 = .ok (.iload 4, 2) := by decide +kernel
theorem d_C_mark_28 : decode b_C_mark 28 = .ok (.invokevirtual 73, 3) := by decide +kernel
theorem d_C_mark_31 : decode b_C_mark 31 = .ok (.iastore, 1) := by decide +kernel
theorem d_C_mark_32 : decode b_C_mark 32 = .ok (.iinc 4 1, 3) := by decide +kernel
theorem d_C_mark_35 : decode b_C_mark 35 = .ok (.goto (-32), 3) := by decide +kernel
theorem d_C_mark_38 : decode b_C_mark 38 = .ok (.return_, 1) := by decide +kernel
theorem d_C_unmark_0 : decode b_C_unmark 0 = .ok (.iconst 0, 1) := by decide +kernel
theorem d_C_unmark_1 : decode b_C_unmark 1 = .ok (.istore_n 3, 1) := by decide +kernel
theorem d_C_unmark_2 : decode b_C_unmark 2 = .ok (.iload_n 3, 1) := by decide +kernel
theorem d_C_unmark_3 : decode b_C_unmark 3 = .ok (.aload_n 1, 1) := by decide +kernel
theorem d_C_unmark_4 : decode b_C_unmark 4 = .ok (.iload_n 2, 1) := by decide +kernel
theorem d_C_unmark_5 : decode b_C_unmark 5 = .ok (.invokevirtual 65, 3) := by decide +kernel
theorem d_C_unmark_8 : decode b_C_unmark 8 = .ok (.if_icmp .ge 21, 3) := by decide +kernel
theorem d_C_unmark_11 : decode b_C_unmark 11 = .ok (.aload_n 0, 1) := by decide +kernel
theorem d_C_unmark_12 : decode b_C_unmark 12 = .ok (.getfield 11, 3) := by decide +kernel
theorem d_C_unmark_15 : decode b_C_unmark 15 = .ok (.aload_n 1, 1) := by decide +kernel
theorem d_C_unmark_16 : decode b_C_unmark 16 = .ok (.iload_n 2, 1) := by decide +kernel
theorem d_C_unmark_17 : decode b_C_unmark 17 = .ok (.iload_n 3, 1) := by decide +kernel
theorem d_C_unmark_18 : decode b_C_unmark 18 = .ok (.invokevirtual 69, 3) := by decide +kernel
theorem d_C_unmark_21 : decode b_C_unmark 21 = .ok (.iconst (-1), 1) := by decide +kernel
theorem d_C_unmark_22 : decode b_C_unmark 22 = .ok (.iastore, 1) := by decide +kernel
theorem d_C_unmark_23 : decode b_C_unmark 23 = .ok (.iinc 3 1, 3) := by decide +kernel
theorem d_C_unmark_26 : decode b_C_unmark 26 = .ok (.goto (-24), 3) := by decide +kernel
theorem d_C_unmark_29 : decode b_C_unmark 29 = .ok (.return_, 1) := by decide +kernel
theorem d_C_searchAbove_0 : decode b_C_searchAbove 0 = .ok (.iload 4, 2) := by decide +kernel
theorem d_C_searchAbove_2 : decode b_C_searchAbove 2 = .ok (.iconst 1, 1) := by decide +kernel
theorem d_C_searchAbove_3 : decode b_C_searchAbove 3 = .ok (.iadd, 1) := by decide +kernel
theorem d_C_searchAbove_4 : decode b_C_searchAbove 4 = .ok (.istore 5, 2) := by decide +kernel
theorem d_C_searchAbove_6 : decode b_C_searchAbove 6 = .ok (.iload 5, 2) := by decide +kernel
theorem d_C_searchAbove_8 : decode b_C_searchAbove 8 = .ok (.aload_n 1, 1) := by decide +kernel
theorem d_C_searchAbove_9 : decode b_C_searchAbove 9 = .ok (.invokevirtual 36, 3) := by decide +kernel
theorem d_C_searchAbove_12 : decode b_C_searchAbove 12 = .ok (.if_icmp .ge 69, 3) := by decide +kernel
theorem d_C_searchAbove_15 : decode b_C_searchAbove 15 = .ok (.aload_n 1, 1) := by decide +kernel
theorem d_C_searchAbove_16 : decode b_C_searchAbove 16 = .ok (.iload 5, 2) := by decide +kernel
theorem d_C_searchAbove_18 : decode b_C_searchAbove 18 = .ok (.invokestatic 42, 3) := by decide +kernel
theorem d_C_searchAbove_21 : decode b_C_searchAbove 21 = .ok (.ifCond .eq 54, 3) := by decide +kernel
theorem d_C_searchAbove_24 : decode b_C_searchAbove 24 = .ok (.aload_n 1, 1) := by decide +kernel
theorem d_C_searchAbove_25 : decode b_C_searchAbove 25 = .ok (.iload 4, 2) := by decide +kernel
theorem d_C_searchAbove_27 : decode b_C_searchAbove 27 = .ok (.iload 5, 2) := by decide +kernel
theorem d_C_searchAbove_29 : decode b_C_searchAbove 29 = .ok (.invokestatic 78, 3) := by decide +kernel
theorem d_C_searchAbove_32 : decode b_C_searchAbove 32 = .ok (.ifCond .eq 6, 3) := by decide +kernel
theorem d_C_searchAbove_35 : decode b_C_searchAbove 35 = .ok (.goto 40, 3) := by decide +kernel
theorem d_C_searchAbove_38 : decode b_C_searchAbove 38 = .ok (.aload_n 0, 1) := by decide +kernel
theorem d_C_searchAbove_39 : decode b_C_searchAbove 39 = .ok (.aload_n 1, 1) := by decide +kernel
theorem d_C_searchAbove_40 : decode b_C_searchAbove 40 = .ok (.aload_n 2, 1) := by decide +kernel
theorem d_C_searchAbove_41 : decode b_C_searchAbove 41 = .ok (.iload_n 3, 1) := by decide +kernel
theorem d_C_searchAbove_42 : decode b_C_searchAbove 42 = .ok (.iload 5, 2) := by decide +kernel
theorem d_C_searchAbove_44 : decode b_C_searchAbove 44 = .ok (.invokevirtual 82, 3) := by decide +kernel
theorem d_C_searchAbove_47 : decode b_C_searchAbove 47 = .ok (.istore 6, 2) := by decide +kernel
theorem d_C_searchAbove_49 : decode b_C_searchAbove 49 = .ok (.iload 6, 2) := by decide +kernel
theorem d_C_searchAbove_51 : decode b_C_searchAbove 51 = .ok (.iconst (-1), 1) := by decide +kernel
theorem d_C_searchAbove_52 : decode b_C_searchAbove 52 = .ok (.if_icmp .eq 23, 3) := by decide +kernel
theorem d_C_searchAbove_55 : decode b_C_searchAbove 55 = .ok (.aload_n 0, 1) := by decide +kernel
theorem d_C_searchAbove_56 : decode b_C_searchAbove 56 = .ok (.iload 4, 2) := by decide +kernel
theorem d_C_searchAbove_58 : decode b_C_searchAbove 58 = .ok (.iload 5, 2) := by decide +kernel
theorem d_C_searchAbove_60 : decode b_C_searchAbove 60 = .ok (.iload 6, 2) := by decide +kernel
theorem d_C_searchAbove_62 : decode b_C_searchAbove 62 = .ok (.invokevirtual 86, 3) := by decide +kernel
theorem d_C_searchAbove_65 : decode b_C_searchAbove 65 = .ok (.aload_n 0, 1) := by decide +kernel
theorem d_C_searchAbove_66 : decode b_C_searchAbove 66 = .ok (.dup, 1) := by decide +kernel
theorem d_C_searchAbove_67 : decode b_C_searchAbove 67 = .ok (.getfield 23, 3) := by decide +kernel
theorem d_C_searchAbove_70 : decode b_C_searchAbove 70 = .ok (.iconst 1, 1) := by decide +kernel
theorem d_C_searchAbove_71 : decode b_C_searchAbove 71 = .ok (.iadd, 1) := by decide +kernel
theorem d_C_searchAbove_72 : decode b_C_searchAbove 72 = .ok (.putfield 23, 3) := by decide +kernel
theorem d_C_searchAbove_75 : decode b_C_searchAbove 75 = .ok (.iinc 5 1, 3) := by decide +kernel
theorem d_C_searchAbove_78 : decode b_C_searchAbove 78 = .ok (.goto (-72), 3) := by decide +kernel
theorem d_C_searchAbove_81 : decode b_C_searchAbove 81 = .ok (.return_, 1) := by decide +kernel
theorem d_C_areJoined_0 : decode b_C_areJoined 0 = .ok (.aload_n 0, 1) := by decide +kernel
theorem d_C_areJoined_1 : decode b_C_areJoined 1 = .ok (.iload_n 1, 1) := by decide +kernel
theorem d_C_areJoined_2 : decode b_C_areJoined 2 = .ok (.invokevirtual 90, 3) := by decide +kernel
theorem d_C_areJoined_5 : decode b_C_areJoined 5 = .ok (.iload_n 2, 1) := by decide +kernel
theorem d_C_areJoined_6 : decode b_C_areJoined 6 = .ok (.if_icmp .eq 25, 3) := by decide +kernel
theorem d_C_areJoined_9 : decode b_C_areJoined 9 = .ok (.aload_n 0, 1) := by decide +kernel
theorem d_C_areJoined_10 : decode b_C_areJoined 10 = .ok (.iload_n 2, 1) := by decide +kernel
theorem d_C_areJoined_11 : decode b_C_areJoined 11 = .ok (.invokevirtual 90, 3) := by decide +kernel
theorem d_C_areJoined_14 : decode b_C_areJoined 14 = .ok (.iload_n 1, 1) := by decide +kernel
theorem d_C_areJoined_15 : decode b_C_areJoined 15 = .ok (.if_icmp .eq 16, 3) := by decide +kernel
theorem d_C_areJoined_18 : decode b_C_areJoined 18 = .ok (.aload_n 0, 1) := by decide +kernel
theorem d_C_areJoined_19 : decode b_C_areJoined 19 = .ok (.iload_n 1, 1) := by decide +kernel
theorem d_C_areJoined_20 : decode b_C_areJoined 20 = .ok (.invokevirtual 90, 3) := by decide +kernel
theorem d_C_areJoined_23 : decode b_C_areJoined 23 = .ok (.aload_n 0, 1) := by decide +kernel
theorem d_C_areJoined_24 : decode b_C_areJoined 24 = .ok (.iload_n 2, 1) := by decide +kernel
theorem d_C_areJoined_25 : decode b_C_areJoined 25 = .ok (.invokevirtual 90, 3) := by decide +kernel
theorem d_C_areJoined_28 : decode b_C_areJoined 28 = .ok (.if_icmp .ne 7, 3) := by decide +kernel
theorem d_C_areJoined_31 : decode b_C_areJoined 31 = .ok (.iconst 1, 1) := by decide +kernel
theorem d_C_areJoined_32 : decode b_C_areJoined 32 = .ok (.goto 4, 3) := by decide +kernel
theorem d_C_areJoined_35 : decode b_C_areJoined 35 = .ok (.iconst 0, 1) := by decide +kernel
theorem d_C_areJoined_36 : decode b_C_areJoined 36 = .ok (.ireturn, 1) := by decide +kernel
theorem d_C_leastCommonCell_0 : decode b_C_leastCommonCell 0 = .ok (.iconst (-1), 1) := by decide +kernel
theorem d_C_leastCommonCell_1 : decode b_C_leastCommonCell 1 = .ok (.istore 5, 2) := by decide +kernel
theorem d_C_leastCommonCell_3 : decode b_C_leastCommonCell 3 = .ok (.iconst 0, 1) := by decide +kernel
theorem d_C_leastCommonCell_4 : decode b_C_leastCommonCell 4 = .ok (.istore 6, 2) := by decide +kernel
theorem d_C_leastCommonCell_6 : decode b_C_leastCommonCell 6 = .ok (.iload 6, 2) := by decide +kernel
theorem d_C_leastCommonCell_8 : decode b_C_leastCommonCell 8 = .ok (.aload_n 1, 1) := by decide +kernel
theorem d_C_leastCommonCell_9 : decode b_C_leastCommonCell 9 = .ok (.iload 4, 2) := by decide +kernel
theorem d_C_leastCommonCell_11 : decode b_C_leastCommonCell 11 = .ok (.invokevirtual 65, 3) := by decide +kernel
theorem d_C_leastCommonCell_14 : decode b_C_leastCommonCell 14 = .ok (.if_icmp .ge 81, 3) := by decide +kernel
theorem d_C_leastCommonCell_17 : decode b_C_leastCommonCell 17 = .ok (.aload_n 1, 1) := by decide +kernel
theorem d_C_leastCommonCell_18 : decode b_C_leastCommonCell 18 = .ok (.iload 4, 2) := by decide +kernel
theorem d_C_leastCommonCell_20 : decode b_C_leastCommonCell 20 = .ok (.iload 6, 2) := by decide +kernel
theorem d_C_leastCommonCell_22 : decode b_C_leastCommonCell 22 = .ok (.invokevirtual 69, 3) := by decide +kernel
theorem d_C_leastCommonCell_25 : decode b_C_leastCommonCell 25 = .ok (.istore 7, 2) := by decide +kernel
theorem d_C_leastCommonCell_27 : decode b_C_leastCommonCell 27 = .ok (.aload_n 0, 1) := by decide +kernel
theorem d_C_leastCommonCell_28 : decode b_C_leastCommonCell 28 = .ok (.getfield 11, 3) := by decide +kernel
theorem d_C_leastCommonCell_31 : decode b_C_leastCommonCell 31 = .ok (.iload 7, 2) := by decide +kernel
theorem d_C_leastCommonCell_33 : decode b_C_leastCommonCell 33 = .ok (.iaload, 1) := by decide +kernel
theorem d_C_leastCommonCell_34 : decode b_C_leastCommonCell 34 = .ok (.istore 8, 2) := by decide +kernel
theorem d_C_leastCommonCell_36 : decode b_C_leastCommonCell 36 = .ok (.iload 8, 2) := by decide +kernel
theorem d_C_leastCommonCell_38 : decode b_C_leastCommonCell 38 = .ok (.iconst (-1), 1) := by decide +kernel
theorem d_C_leastCommonCell_39 : decode b_C_leastCommonCell 39 = .ok (.if_icmp .eq 25, 3) := by decide +kernel
theorem d_C_leastCommonCell_42 : decode b_C_leastCommonCell 42 = .ok (.iload 8, 2) := by decide +kernel
theorem d_C_leastCommonCell_44 : decode b_C_leastCommonCell 44 = .ok (.aload_n 2, 1) := by decide +kernel
theorem d_C_leastCommonCell_45 : decode b_C_leastCommonCell 45 = .ok (.iload 4, 2) := by decide +kernel
theorem d_C_leastCommonCell_47 : decode b_C_leastCommonCell 47 = .ok (.iload 6, 2) := by decide +kernel
theorem d_C_leastCommonCell_49 : decode b_C_leastCommonCell 49 = .ok (.invokevirtual 73, 3) := by decide +kernel
theorem d_C_leastCommonCell_52 : decode b_C_leastCommonCell 52 = .ok (.isub, 1) := by decide +kernel
theorem d_C_leastCommonCell_53 : decode b_C_leastCommonCell 53 = .ok (.invokestatic 93, 3) := by decide +kernel
theorem d_C_leastCommonCell_56 : decode b_C_leastCommonCell 56 = .ok (.iload_n 3, 1) := by decide +kernel
theorem d_C_leastCommonCell_57 : decode b_C_leastCommonCell 57 = .ok (.if_icmp .ge 7, 3) := by decide +kernel
theorem d_C_leastCommonCell_60 : decode b_C_leastCommonCell 60 = .ok (.iconst 1, 1) := by decide +kernel
theorem d_C_leastCommonCell_61 : decode b_C_leastCommonCell 61 = .ok (.goto 4, 3) := by decide +kernel
theorem d_C_leastCommonCell_64 : decode b_C_leastCommonCell 64 = .ok (.iconst 0, 1) := by decide +kernel
theorem d_C_leastCommonCell_65 : decode b_C_leastCommonCell 65 = .ok (.istore 9, 2) := by decide +kernel
theorem d_C_leastCommonCell_67 : decode b_C_leastCommonCell 67 = .ok (.iload 9, 2) := by decide +kernel
theorem d_C_leastCommonCell_69 : decode b_C_leastCommonCell 69 = .ok (.ifCond .eq 20, 3) := by decide +kernel
theorem d_C_leastCommonCell_72 : decode b_C_leastCommonCell 72 = .ok (.iload 5, 2) := by decide +kernel
theorem d_C_leastCommonCell_74 : decode b_C_leastCommonCell 74 = .ok (.iconst (-1), 1) := by decide +kernel
theorem d_C_leastCommonCell_75 : decode b_C_leastCommonCell 75 = .ok (.if_icmp .eq 10, 3) := by decide +kernel
theorem d_C_leastCommonCell_78 : decode b_C_leastCommonCell 78 = .ok (.iload 7, 2) := by decide +kernel
theorem d_C_leastCommonCell_80 : decode b_C_leastCommonCell 80 = .ok (.iload 5, 2) := by decide +kernel
theorem d_C_leastCommonCell_82 : decode b_C_leastCommonCell 82 = .ok (.if_icmp .ge 7, 3) := by decide +kernel
theorem d_C_leastCommonCell_85 : decode b_C_leastCommonCell 85 = .ok (.iload 7, 2) := by decide +kernel
theorem d_C_leastCommonCell_87 : decode b_C_leastCommonCell 87 = .ok (.istore 5, 2) := by decide +kernel
theorem d_C_leastCommonCell_89 : decode b_C_leastCommonCell 89 = .ok (.iinc 6 1, 3) := by decide +kernel
theorem d_C_leastCommonCell_92 : decode b_C_leastCommonCell 92 = .ok (.goto (-86), 3) := by decide +kernel
theorem d_C_leastCommonCell_95 : decode b_C_leastCommonCell 95 = .ok (.iload 5, 2) := by decide +kernel
theorem d_C_leastCommonCell_97 : decode b_C_leastCommonCell 97 = .ok (.ireturn, 1) := by decide +kernel
theorem d_C_keepIfFirst_0 : decode b_C_keepIfFirst 0 = .ok (.aload_n 0, 1) := by decide +kernel
theorem d_C_keepIfFirst_1 : decode b_C_keepIfFirst 1 = .ok (.getfield 23, 3) := by decide +kernel
theorem d_C_keepIfFirst_4 : decode b_C_keepIfFirst 4 = .ok (.ifCond .ne 18, 3) := by decide +kernel
theorem d_C_keepIfFirst_7 : decode b_C_keepIfFirst 7 = .ok (.aload_n 0, 1) := by decide +kernel
theorem d_C_keepIfFirst_8 : decode b_C_keepIfFirst 8 = .ok (.iload_n 1, 1) := by decide +kernel
theorem d_C_keepIfFirst_9 : decode b_C_keepIfFirst 9 = .ok (.putfield 27, 3) := by decide +kernel
theorem d_C_keepIfFirst_12 : decode b_C_keepIfFirst 12 = .ok (.aload_n 0, 1) := by decide +kernel
theorem d_C_keepIfFirst_13 : decode b_C_keepIfFirst 13 = .ok (.iload_n 2, 1) := by decide +kernel
theorem d_C_keepIfFirst_14 : decode b_C_keepIfFirst 14 = .ok (.putfield 30, 3) := by decide +kernel
theorem d_C_keepIfFirst_17 : decode b_C_keepIfFirst 17 = .ok (.aload_n 0, 1) := by decide +kernel
theorem d_C_keepIfFirst_18 : decode b_C_keepIfFirst 18 = .ok (.iload_n 3, 1) := by decide +kernel
theorem d_C_keepIfFirst_19 : decode b_C_keepIfFirst 19 = .ok (.putfield 33, 3) := by decide +kernel
theorem d_C_keepIfFirst_22 : decode b_C_keepIfFirst 22 = .ok (.return_, 1) := by decide +kernel
theorem d_S_init_0 : decode b_S_init 0 = .ok (.aload_n 0, 1) := by decide +kernel
theorem d_S_init_1 : decode b_S_init 1 = .ok (.invokespecial 1, 3) := by decide +kernel
theorem d_S_init_4 : decode b_S_init 4 = .ok (.aload_n 0, 1) := by decide +kernel
theorem d_S_init_5 : decode b_S_init 5 = .ok (.bipush 12, 2) := by decide +kernel
theorem d_S_init_7 : decode b_S_init 7 = .ok (.newarray .int, 2) := by decide +kernel
theorem d_S_init_9 : decode b_S_init 9 = .ok (.putfield 9, 3) := by decide +kernel
theorem d_S_init_12 : decode b_S_init 12 = .ok (.aload_n 0, 1) := by decide +kernel
theorem d_S_init_13 : decode b_S_init 13 = .ok (.sipush 4096, 3) := by decide +kernel
theorem d_S_init_16 : decode b_S_init 16 = .ok (.newarray .int, 2) := by decide +kernel
theorem d_S_init_18 : decode b_S_init 18 = .ok (.putfield 13, 3) := by decide +kernel
theorem d_S_init_21 : decode b_S_init 21 = .ok (.return_, 1) := by decide +kernel
theorem d_S_gather_0 : decode b_S_gather 0 = .ok (.aload_n 0, 1) := by decide +kernel
theorem d_S_gather_1 : decode b_S_gather 1 = .ok (.iconst 0, 1) := by decide +kernel
theorem d_S_gather_2 : decode b_S_gather 2 = .ok (.putfield 16, 3) := by decide +kernel
theorem d_S_gather_5 : decode b_S_gather 5 = .ok (.aload_n 0, 1) := by decide +kernel
theorem d_S_gather_6 : decode b_S_gather 6 = .ok (.iconst 0, 1) := by decide +kernel
theorem d_S_gather_7 : decode b_S_gather 7 = .ok (.putfield 20, 3) := by decide +kernel
theorem d_S_gather_10 : decode b_S_gather 10 = .ok (.aload_n 0, 1) := by decide +kernel
theorem d_S_gather_11 : decode b_S_gather 11 = .ok (.iconst 0, 1) := by decide +kernel
theorem d_S_gather_12 : decode b_S_gather 12 = .ok (.putfield 23, 3) := by decide +kernel
theorem d_S_gather_15 : decode b_S_gather 15 = .ok (.aload_n 0, 1) := by decide +kernel
theorem d_S_gather_16 : decode b_S_gather 16 = .ok (.iload 4, 2) := by decide +kernel
theorem d_S_gather_18 : decode b_S_gather 18 = .ok (.putfield 26, 3) := by decide +kernel
theorem d_S_gather_21 : decode b_S_gather 21 = .ok (.iconst 0, 1) := by decide +kernel
theorem d_S_gather_22 : decode b_S_gather 22 = .ok (.istore 5, 2) := by decide +kernel
theorem d_S_gather_24 : decode b_S_gather 24 = .ok (.iload 5, 2) := by decide +kernel
theorem d_S_gather_26 : decode b_S_gather 26 = .ok (.aload_n 1, 1) := by decide +kernel
theorem d_S_gather_27 : decode b_S_gather 27 = .ok (.invokevirtual 29, 3) := by decide +kernel
theorem d_S_gather_30 : decode b_S_gather 30 = .ok (.if_icmp .ge 38, 3) := by decide +kernel
theorem d_S_gather_33 : decode b_S_gather 33 = .ok (.aload_n 1, 1) := by decide +kernel
theorem d_S_gather_34 : decode b_S_gather 34 = .ok (.iload 5, 2) := by decide +kernel
theorem d_S_gather_36 : decode b_S_gather 36 = .ok (.invokevirtual 35, 3) := by decide +kernel
theorem d_S_gather_39 : decode b_S_gather 39 = .ok (.ifCond .ne 23, 3) := by decide +kernel
theorem d_S_gather_42 : decode b_S_gather 42 = .ok (.aload_n 2, 1) := by decide +kernel
theorem d_S_gather_43 : decode b_S_gather 43 = .ok (.iload 5, 2) := by decide +kernel
theorem d_S_gather_45 : decode b_S_gather 45 = .ok (.invokevirtual 39, 3) := by decide +kernel
theorem d_S_gather_48 : decode b_S_gather 48 = .ok (.iload_n 3, 1) := by decide +kernel
theorem d_S_gather_49 : decode b_S_gather 49 = .ok (.if_icmp .ne 13, 3) := by decide +kernel
theorem d_S_gather_52 : decode b_S_gather 52 = .ok (.aload_n 0, 1) := by decide +kernel
theorem d_S_gather_53 : decode b_S_gather 53 = .ok (.aload_n 1, 1) := by decide +kernel
theorem d_S_gather_54 : decode b_S_gather 54 = .ok (.iload 5, 2) := by decide +kernel
theorem d_S_gather_56 : decode b_S_gather 56 = .ok (.invokevirtual 45, 3) := by decide +kernel
theorem d_S_gather_59 : decode b_S_gather 59 = .ok (.invokevirtual 48, 3) := by decide +kernel
theorem d_S_gather_62 : decode b_S_gather 62 = .ok (.iinc 5 1, 3) := by decide +kernel
theorem d_S_gather_65 : decode b_S_gather 65 = .ok (.goto (-41), 3) := by decide +kernel
theorem d_S_gather_68 : decode b_S_gather 68 = .ok (.return_, 1) := by decide +kernel
theorem d_S_take_0 : decode b_S_take 0 = .ok (.iload_n 1, 1) := by decide +kernel
theorem d_S_take_1 : decode b_S_take 1 = .ok (.istore_n 2, 1) := by decide +kernel
theorem d_S_take_2 : decode b_S_take 2 = .ok (.aload_n 0, 1) := by decide +kernel
theorem d_S_take_3 : decode b_S_take 3 = .ok (.getfield 26, 3) := by decide +kernel
theorem d_S_take_6 : decode b_S_take 6 = .ok (.ifCond .le 33, 3) := by decide +kernel
theorem d_S_take_9 : decode b_S_take 9 = .ok (.iload_n 1, 1) := by decide +kernel
theorem d_S_take_10 : decode b_S_take 10 = .ok (.aload_n 0, 1) := by decide +kernel
theorem d_S_take_11 : decode b_S_take 11 = .ok (.getfield 26, 3) := by decide +kernel
theorem d_S_take_14 : decode b_S_take 14 = .ok (.if_icmp .le 25, 3) := by decide +kernel
theorem d_S_take_17 : decode b_S_take 17 = .ok (.aload_n 0, 1) := by decide +kernel
theorem d_S_take_18 : decode b_S_take 18 = .ok (.dup, 1) := by decide +kernel
theorem d_S_take_19 : decode b_S_take 19 = .ok (.getfield 20, 3) := by decide +kernel
theorem d_S_take_22 : decode b_S_take 22 = .ok (.iload_n 1, 1) := by decide +kernel
theorem d_S_take_23 : decode b_S_take 23 = .ok (.aload_n 0, 1) := by decide +kernel
theorem d_S_take_24 : decode b_S_take 24 = .ok (.getfield 26, 3) := by decide +kernel
theorem d_S_take_27 : decode b_S_take 27 = .ok (.idiv, 1) := by decide +kernel
theorem d_S_take_28 : decode b_S_take 28 = .ok (.iadd, 1) := by decide +kernel
theorem d_S_take_29 : decode b_S_take 29 = .ok (.putfield 20, 3) := by decide +kernel
theorem d_S_take_32 : decode b_S_take 32 = .ok (.iload_n 1, 1) := by decide +kernel
theorem d_S_take_33 : decode b_S_take 33 = .ok (.aload_n 0, 1) := by decide +kernel
theorem d_S_take_34 : decode b_S_take 34 = .ok (.getfield 26, 3) := by decide +kernel
theorem d_S_take_37 : decode b_S_take 37 = .ok (.irem, 1) := by decide +kernel
theorem d_S_take_38 : decode b_S_take 38 = .ok (.istore_n 2, 1) := by decide +kernel
theorem d_S_take_39 : decode b_S_take 39 = .ok (.iload_n 2, 1) := by decide +kernel
theorem d_S_take_40 : decode b_S_take 40 = .ok (.ifCond .ne 4, 3) := by decide +kernel
theorem d_S_take_43 : decode b_S_take 43 = .ok (.return_, 1) := by decide +kernel
theorem d_S_take_44 : decode b_S_take 44 = .ok (.aload_n 0, 1) := by decide +kernel
theorem d_S_take_45 : decode b_S_take 45 = .ok (.getfield 16, 3) := by decide +kernel
theorem d_S_take_48 : decode b_S_take 48 = .ok (.bipush 12, 2) := by decide +kernel
theorem d_S_take_50 : decode b_S_take 50 = .ok (.if_icmp .ge 13, 3) := by decide +kernel
theorem d_S_take_53 : decode b_S_take 53 = .ok (.aload_n 0, 1) := by decide +kernel
theorem d_S_take_54 : decode b_S_take 54 = .ok (.getfield 9, 3) := by decide +kernel
theorem d_S_take_57 : decode b_S_take 57 = .ok (.aload_n 0, 1) := by decide +kernel
theorem d_S_take_58 : decode b_S_take 58 = .ok (.getfield 16, 3) := by decide +kernel
theorem d_S_take_61 : decode b_S_take 61 = .ok (.iload_n 2, 1) := by decide +kernel
theorem d_S_take_62 : decode b_S_take 62 = .ok (.iastore, 1) := by decide +kernel
theorem d_S_take_63 : decode b_S_take 63 = .ok (.aload_n 0, 1) := by decide +kernel
theorem d_S_take_64 : decode b_S_take 64 = .ok (.dup, 1) := by decide +kernel
theorem d_S_take_65 : decode b_S_take 65 = .ok (.getfield 23, 3) := by decide +kernel
theorem d_S_take_68 : decode b_S_take 68 = .ok (.iload_n 2, 1) := by decide +kernel
theorem d_S_take_69 : decode b_S_take 69 = .ok (.iadd, 1) := by decide +kernel
theorem d_S_take_70 : decode b_S_take 70 = .ok (.putfield 23, 3) := by decide +kernel
theorem d_S_take_73 : decode b_S_take 73 = .ok (.aload_n 0, 1) := by decide +kernel
theorem d_S_take_74 : decode b_S_take 74 = .ok (.dup, 1) := by decide +kernel
theorem d_S_take_75 : decode b_S_take 75 = .ok (.getfield 16, 3) := by decide +kernel
theorem d_S_take_78 : decode b_S_take 78 = .ok (.iconst 1, 1) := by decide +kernel
theorem d_S_take_79 : decode b_S_take 79 = .ok (.iadd, 1) := by decide +kernel
theorem d_S_take_80 : decode b_S_take 80 = .ok (.putfield 16, 3) := by decide +kernel
theorem d_S_take_83 : decode b_S_take 83 = .ok (.return_, 1) := by decide +kernel
theorem d_S_pieces_0 : decode b_S_pieces 0 = .ok (.aload_n 0, 1) := by decide +kernel
theorem d_S_pieces_1 : decode b_S_pieces 1 = .ok (.getfield 16, 3) := by decide +kernel
theorem d_S_pieces_4 : decode b_S_pieces 4 = .ok (.ireturn, 1) := by decide +kernel
theorem d_S_hasTooMany_0 : decode b_S_hasTooMany 0 = .ok (.aload_n 0, 1) := by decide +kernel
theorem d_S_hasTooMany_1 : decode b_S_hasTooMany 1 = .ok (.getfield 16, 3) := by decide +kernel
theorem d_S_hasTooMany_4 : decode b_S_hasTooMany 4 = .ok (.bipush 12, 2) := by decide +kernel
theorem d_S_hasTooMany_6 : decode b_S_hasTooMany 6 = .ok (.if_icmp .le 7, 3) := by decide +kernel
theorem d_S_hasTooMany_9 : decode b_S_hasTooMany 9 = .ok (.iconst 1, 1) := by decide +kernel
theorem d_S_hasTooMany_10 : decode b_S_hasTooMany 10 = .ok (.goto 4, 3) := by decide +kernel
theorem d_S_hasTooMany_13 : decode b_S_hasTooMany 13 = .ok (.iconst 0, 1) := by decide +kernel
theorem d_S_hasTooMany_14 : decode b_S_hasTooMany 14 = .ok (.ireturn, 1) := by decide +kernel
theorem d_S_fewestBars_0 : decode b_S_fewestBars 0 = .ok (.aload_n 0, 1) := by decide +kernel
theorem d_S_fewestBars_1 : decode b_S_fewestBars 1 = .ok (.getfield 20, 3) := by decide +kernel
theorem d_S_fewestBars_4 : decode b_S_fewestBars 4 = .ok (.aload_n 0, 1) := by decide +kernel
theorem d_S_fewestBars_5 : decode b_S_fewestBars 5 = .ok (.invokevirtual 52, 3) := by decide +kernel
theorem d_S_fewestBars_8 : decode b_S_fewestBars 8 = .ok (.iadd, 1) := by decide +kernel
theorem d_S_fewestBars_9 : decode b_S_fewestBars 9 = .ok (.ireturn, 1) := by decide +kernel
theorem d_S_waste_0 : decode b_S_waste 0 = .ok (.aload_n 0, 1) := by decide +kernel
theorem d_S_waste_1 : decode b_S_waste 1 = .ok (.invokevirtual 52, 3) := by decide +kernel
theorem d_S_waste_4 : decode b_S_waste 4 = .ok (.aload_n 0, 1) := by decide +kernel
theorem d_S_waste_5 : decode b_S_waste 5 = .ok (.getfield 26, 3) := by decide +kernel
theorem d_S_waste_8 : decode b_S_waste 8 = .ok (.imul, 1) := by decide +kernel
theorem d_S_waste_9 : decode b_S_waste 9 = .ok (.aload_n 0, 1) := by decide +kernel
theorem d_S_waste_10 : decode b_S_waste 10 = .ok (.getfield 23, 3) := by decide +kernel
theorem d_S_waste_13 : decode b_S_waste 13 = .ok (.isub, 1) := by decide +kernel
theorem d_S_waste_14 : decode b_S_waste 14 = .ok (.ireturn, 1) := by decide +kernel
theorem d_S_barsForPieces_0 : decode b_S_barsForPieces 0 = .ok (.aload_n 0, 1) := by decide +kernel
theorem d_S_barsForPieces_1 : decode b_S_barsForPieces 1 = .ok (.getfield 16, 3) := by decide +kernel
theorem d_S_barsForPieces_4 : decode b_S_barsForPieces 4 = .ok (.bipush 12, 2) := by decide +kernel
theorem d_S_barsForPieces_6 : decode b_S_barsForPieces 6 = .ok (.invokestatic 55, 3) := by decide +kernel
theorem d_S_barsForPieces_9 : decode b_S_barsForPieces 9 = .ok (.istore_n 1, 1) := by decide +kernel
theorem d_S_barsForPieces_10 : decode b_S_barsForPieces 10 = .ok (.iconst 1, 1) := by decide +kernel
theorem d_S_barsForPieces_11 : decode b_S_barsForPieces 11 = .ok (.iload_n 1, 1) := by decide +kernel
theorem d_S_barsForPieces_12 : decode b_S_barsForPieces 12 = .ok (.ishl, 1) := by decide +kernel
theorem d_S_barsForPieces_13 : decode b_S_barsForPieces 13 = .ok (.iconst 1, 1) := by decide +kernel
theorem d_S_barsForPieces_14 : decode b_S_barsForPieces 14 = .ok (.isub, 1) := by decide +kernel
theorem d_S_barsForPieces_15 : decode b_S_barsForPieces 15 = .ok (.istore_n 2, 1) := by decide +kernel
theorem d_S_barsForPieces_16 : decode b_S_barsForPieces 16 = .ok (.aload_n 0, 1) := by decide +kernel
theorem d_S_barsForPieces_17 : decode b_S_barsForPieces 17 = .ok (.getfield 13, 3) := by decide +kernel
theorem d_S_barsForPieces_20 : decode b_S_barsForPieces 20 = .ok (.iconst 0, 1) := by decide +kernel
theorem d_S_barsForPieces_21 : decode b_S_barsForPieces 21 = .ok (.aload_n 0, 1) := by decide +kernel
theorem d_S_barsForPieces_22 : decode b_S_barsForPieces 22 = .ok (.getfield 26, 3) := by decide +kernel
theorem d_S_barsForPieces_25 : decode b_S_barsForPieces 25 = .ok (.iastore, 1) := by decide +kernel
theorem d_S_barsForPieces_26 : decode b_S_barsForPieces 26 = .ok (.iconst 1, 1) := by decide +kernel
theorem d_S_barsForPieces_27 : decode b_S_barsForPieces 27 = .ok (.istore_n 3, 1) := by decide +kernel
theorem d_S_barsForPieces_28 : decode b_S_barsForPieces 28 = .ok (.iload_n 3, 1) := by decide +kernel
theorem d_S_barsForPieces_29 : decode b_S_barsForPieces 29 = .ok (.iload_n 2, 1) := by decide +kernel
theorem d_S_barsForPieces_30 : decode b_S_barsForPieces 30 = .ok (.if_icmp .gt 21, 3) := by decide +kernel
theorem d_S_barsForPieces_33 : decode b_S_barsForPieces 33 = .ok (.aload_n 0, 1) := by decide +kernel
theorem d_S_barsForPieces_34 : decode b_S_barsForPieces 34 = .ok (.getfield 13, 3) := by decide +kernel
theorem d_S_barsForPieces_37 : decode b_S_barsForPieces 37 = .ok (.iload_n 3, 1) := by decide +kernel
theorem d_S_barsForPieces_38 : decode b_S_barsForPieces 38 = .ok (.aload_n 0, 1) := by decide +kernel
theorem d_S_barsForPieces_39 : decode b_S_barsForPieces 39 = .ok (.iload_n 3, 1) := by decide +kernel
theorem d_S_barsForPieces_40 : decode b_S_barsForPieces 40 = .ok (.iload_n 1, 1) := by decide +kernel
theorem d_S_barsForPieces_41 : decode b_S_barsForPieces 41 = .ok (.invokevirtual 61, 3) := by decide +kernel
theorem d_S_barsForPieces_44 : decode b_S_barsForPieces 44 = .ok (.iastore, 1) := by decide +kernel
theorem d_S_barsForPieces_45 : decode b_S_barsForPieces 45 = .ok (.iinc 3 1, 3) := by decide +kernel
theorem d_S_barsForPieces_48 : decode b_S_barsForPieces 48 = .ok (.goto (-20), 3) := by decide +kernel
theorem d_S_barsForPieces_51 : decode b_S_barsForPieces 51 = .ok (.aload_n 0, 1) := by decide +kernel
theorem d_S_barsForPieces_52 : decode b_S_barsForPieces 52 = .ok (.getfield 13, 3) := by decide +kernel
theorem d_S_barsForPieces_55 : decode b_S_barsForPieces 55 = .ok (.iload_n 2, 1) := by decide +kernel
theorem d_S_barsForPieces_56 : decode b_S_barsForPieces 56 = .ok (.iaload, 1) := by decide +kernel
theorem d_S_barsForPieces_57 : decode b_S_barsForPieces 57 = .ok (.sipush 4096, 3) := by decide +kernel
theorem d_S_barsForPieces_60 : decode b_S_barsForPieces 60 = .ok (.idiv, 1) := by decide +kernel
theorem d_S_barsForPieces_61 : decode b_S_barsForPieces 61 = .ok (.ireturn, 1) := by decide +kernel
theorem d_S_bestCutting_0 : decode b_S_bestCutting 0 = .ok (.ldc 64, 2) := by decide +kernel
theorem d_S_bestCutting_2 : decode b_S_bestCutting 2 = .ok (.istore_n 3, 1) := by decide +kernel
theorem d_S_bestCutting_3 : decode b_S_bestCutting 3 = .ok (.iconst 0, 1) := by decide +kernel
theorem d_S_bestCutting_4 : decode b_S_bestCutting 4 = .ok (.istore 4, 2) := by decide +kernel
theorem d_S_bestCutting_6 : decode b_S_bestCutting 6 = .ok (.iload 4, 2) := by decide +kernel
theorem d_S_bestCutting_8 : decode b_S_bestCutting 8 = .ok (.iload_n 2, 1) := by decide +kernel
theorem d_S_bestCutting_9 : decode b_S_bestCutting 9 = .ok (.if_icmp .ge 47, 3) := by decide +kernel
theorem d_S_bestCutting_12 : decode b_S_bestCutting 12 = .ok (.iconst 1, 1) := by decide +kernel
theorem d_S_bestCutting_13 : decode b_S_bestCutting 13 = .ok (.iload 4, 2) := by decide +kernel
theorem d_S_bestCutting_15 : decode b_S_bestCutting 15 = .ok (.ishl, 1) := by decide +kernel
theorem d_S_bestCutting_16 : decode b_S_bestCutting 16 = .ok (.istore 5, 2) := by decide +kernel
theorem d_S_bestCutting_18 : decode b_S_bestCutting 18 = .ok (.iload_n 1, 1) := by decide +kernel
theorem d_S_bestCutting_19 : decode b_S_bestCutting 19 = .ok (.iload 5, 2) := by decide +kernel
theorem d_S_bestCutting_21 : decode b_S_bestCutting 21 = .ok (.iand, 1) := by decide +kernel
theorem d_S_bestCutting_22 : decode b_S_bestCutting 22 = .ok (.ifCond .eq 28, 3) := by decide +kernel
theorem d_S_bestCutting_25 : decode b_S_bestCutting 25 = .ok (.iload_n 3, 1) := by decide +kernel
theorem d_S_bestCutting_26 : decode b_S_bestCutting 26 = .ok (.aload_n 0, 1) := by decide +kernel
theorem d_S_bestCutting_27 : decode b_S_bestCutting 27 = .ok (.aload_n 0, 1) := by decide +kernel
theorem d_S_bestCutting_28 : decode b_S_bestCutting 28 = .ok (.getfield 13, 3) := by decide +kernel
theorem d_S_bestCutting_31 : decode b_S_bestCutting 31 = .ok (.iload_n 1, 1) := by decide +kernel
theorem d_S_bestCutting_32 : decode b_S_bestCutting 32 = .ok (.iload 5, 2) := by decide +kernel
theorem d_S_bestCutting_34 : decode b_S_bestCutting 34 = .ok (.ixor, 1) := by decide +kernel
theorem d_S_bestCutting_35 : decode b_S_bestCutting 35 = .ok (.iaload, 1) := by decide +kernel
theorem d_S_bestCutting_36 : decode b_S_bestCutting 36 = .ok (.aload_n 0, 1) := by decide +kernel
theorem d_S_bestCutting_37 : decode b_S_bestCutting 37 = .ok (.getfield 9, 3) := by decide +kernel
theorem d_S_bestCutting_40 : decode b_S_bestCutting 40 = .ok (.iload 4, 2) := by decide +kernel
theorem d_S_bestCutting_42 : decode b_S_bestCutting 42 = .ok (.iaload, 1) := by decide +kernel
theorem d_S_bestCutting_43 : decode b_S_bestCutting 43 = .ok (.invokevirtual 65, 3) := by decide +kernel
theorem d_S_bestCutting_46 : decode b_S_bestCutting 46 = .ok (.invokestatic 55, 3) := by decide +kernel
theorem d_S_bestCutting_49 : decode b_S_bestCutting 49 = .ok (.istore_n 3, 1) := by decide +kernel
theorem d_S_bestCutting_50 : decode b_S_bestCutting 50 = .ok (.iinc 4 1, 3) := by decide +kernel
theorem d_S_bestCutting_53 : decode b_S_bestCutting 53 = .ok (.goto (-47), 3) := by decide +kernel
theorem d_S_bestCutting_56 : decode b_S_bestCutting 56 = .ok (.iload_n 3, 1) := by decide +kernel
theorem d_S_bestCutting_57 : decode b_S_bestCutting 57 = .ok (.ireturn, 1) := by decide +kernel
theorem d_S_cutNext_0 : decode b_S_cutNext 0 = .ok (.iload_n 1, 1) := by decide +kernel
theorem d_S_cutNext_1 : decode b_S_cutNext 1 = .ok (.sipush 4096, 3) := by decide +kernel
theorem d_S_cutNext_4 : decode b_S_cutNext 4 = .ok (.irem, 1) := by decide +kernel
theorem d_S_cutNext_5 : decode b_S_cutNext 5 = .ok (.istore_n 3, 1) := by decide +kernel
theorem d_S_cutNext_6 : decode b_S_cutNext 6 = .ok (.iload_n 3, 1) := by decide +kernel
theorem d_S_cutNext_7 : decode b_S_cutNext 7 = .ok (.iload_n 2, 1) := by decide +kernel
theorem d_S_cutNext_8 : decode b_S_cutNext 8 = .ok (.iadd, 1) := by decide +kernel
theorem d_S_cutNext_9 : decode b_S_cutNext 9 = .ok (.aload_n 0, 1) := by decide +kernel
theorem d_S_cutNext_10 : decode b_S_cutNext 10 = .ok (.getfield 26, 3) := by decide +kernel
theorem d_S_cutNext_13 : decode b_S_cutNext 13 = .ok (.if_icmp .gt 9, 3) := by decide +kernel
theorem d_S_cutNext_16 : decode b_S_cutNext 16 = .ok (.iload_n 1, 1) := by decide +kernel
theorem d_S_cutNext_17 : decode b_S_cutNext 17 = .ok (.iload_n 2, 1) := by decide +kernel
theorem d_S_cutNext_18 : decode b_S_cutNext 18 = .ok (.iadd, 1) := by decide +kernel
theorem d_S_cutNext_19 : decode b_S_cutNext 19 = .ok (.goto 12, 3) := by decide +kernel
theorem d_S_cutNext_22 : decode b_S_cutNext 22 = .ok (.iload_n 1, 1) := by decide +kernel
theorem d_S_cutNext_23 : decode b_S_cutNext 23 = .ok (.iload_n 3, 1) := by decide +kernel
theorem d_S_cutNext_24 : decode b_S_cutNext 24 = .ok (.isub, 1) := by decide +kernel
theorem d_S_cutNext_25 : decode b_S_cutNext 25 = .ok (.sipush 4096, 3) := by decide +kernel
theorem d_S_cutNext_28 : decode b_S_cutNext 28 = .ok (.iadd, 1) := by decide +kernel
theorem d_S_cutNext_29 : decode b_S_cutNext 29 = .ok (.iload_n 2, 1) := by decide +kernel
theorem d_S_cutNext_30 : decode b_S_cutNext 30 = .ok (.iadd, 1) := by decide +kernel
theorem d_S_cutNext_31 : decode b_S_cutNext 31 = .ok (.ireturn, 1) := by decide +kernel
theorem d_H_init_0 : decode b_H_init 0 = .ok (.aload_n 0, 1) := by decide +kernel
theorem d_H_init_1 : decode b_H_init 1 = .ok (.invokespecial 1, 3) := by decide +kernel
theorem d_H_init_4 : decode b_H_init 4 = .ok (.aload_n 0, 1) := by decide +kernel
theorem d_H_init_5 : decode b_H_init 5 = .ok (.new 7, 3) := by decide +kernel
theorem d_H_init_8 : decode b_H_init 8 = .ok (.dup, 1) := by decide +kernel
theorem d_H_init_9 : decode b_H_init 9 = .ok (.invokespecial 9, 3) := by decide +kernel
theorem d_H_init_12 : decode b_H_init 12 = .ok (.putfield 10, 3) := by decide +kernel
theorem d_H_init_15 : decode b_H_init 15 = .ok (.aload_n 0, 1) := by decide +kernel
theorem d_H_init_16 : decode b_H_init 16 = .ok (.new 16, 3) := by decide +kernel
theorem d_H_init_19 : decode b_H_init 19 = .ok (.dup, 1) := by decide +kernel
theorem d_H_init_20 : decode b_H_init 20 = .ok (.invokespecial 18, 3) := by decide +kernel
theorem d_H_init_23 : decode b_H_init 23 = .ok (.putfield 19, 3) := by decide +kernel
theorem d_H_init_26 : decode b_H_init 26 = .ok (.aload_n 0, 1) := by decide +kernel
theorem d_H_init_27 : decode b_H_init 27 = .ok (.new 23, 3) := by decide +kernel
theorem d_H_init_30 : decode b_H_init 30 = .ok (.dup, 1) := by decide +kernel
theorem d_H_init_31 : decode b_H_init 31 = .ok (.invokespecial 25, 3) := by decide +kernel
theorem d_H_init_34 : decode b_H_init 34 = .ok (.putfield 26, 3) := by decide +kernel
theorem d_H_init_37 : decode b_H_init 37 = .ok (.aload_n 0, 1) := by decide +kernel
theorem d_H_init_38 : decode b_H_init 38 = .ok (.new 30, 3) := by decide +kernel
theorem d_H_init_41 : decode b_H_init 41 = .ok (.dup, 1) := by decide +kernel
theorem d_H_init_42 : decode b_H_init 42 = .ok (.invokespecial 32, 3) := by decide +kernel
theorem d_H_init_45 : decode b_H_init 45 = .ok (.putfield 33, 3) := by decide +kernel
theorem d_H_init_48 : decode b_H_init 48 = .ok (.aload_n 0, 1) := by decide +kernel
theorem d_H_init_49 : decode b_H_init 49 = .ok (.new 37, 3) := by decide +kernel
theorem d_H_init_52 : decode b_H_init 52 = .ok (.dup, 1) := by decide +kernel
theorem d_H_init_53 : decode b_H_init 53 = .ok (.invokespecial 39, 3) := by decide +kernel
theorem d_H_init_56 : decode b_H_init 56 = .ok (.putfield 40, 3) := by decide +kernel
theorem d_H_init_59 : decode b_H_init 59 = .ok (.aload_n 0, 1) := by decide +kernel
theorem d_H_init_60 : decode b_H_init 60 = .ok (.new 44, 3) := by decide +kernel
theorem d_H_init_63 : decode b_H_init 63 = .ok (.dup, 1) := by decide +kernel
theorem d_H_init_64 : decode b_H_init 64 = .ok (.invokespecial 46, 3) := by decide +kernel
theorem d_H_init_67 : decode b_H_init 67 = .ok (.putfield 47, 3) := by decide +kernel
theorem d_H_init_70 : decode b_H_init 70 = .ok (.return_, 1) := by decide +kernel
theorem d_H_price_0 : decode b_H_price 0 = .ok (.iload_n 1, 1) := by decide +kernel
theorem d_H_price_1 : decode b_H_price 1 = .ok (.invokestatic 51, 3) := by decide +kernel
theorem d_H_price_4 : decode b_H_price 4 = .ok (.ifCond .ne 7, 3) := by decide +kernel
theorem d_H_price_7 : decode b_H_price 7 = .ok (.sipush (-1001), 3) := by decide +kernel
theorem d_H_price_10 : decode b_H_price 10 = .ok (.ireturn, 1) := by decide +kernel
theorem d_H_price_11 : decode b_H_price 11 = .ok (.iload_n 2, 1) := by decide +kernel
theorem d_H_price_12 : decode b_H_price 12 = .ok (.bipush 9, 2) := by decide +kernel
theorem d_H_price_14 : decode b_H_price 14 = .ok (.invokestatic 55, 3) := by decide +kernel
theorem d_H_price_17 : decode b_H_price 17 = .ok (.ifCond .eq 7, 3) := by decide +kernel
theorem d_H_price_20 : decode b_H_price 20 = .ok (.sipush (-1002), 3) := by decide +kernel
theorem d_H_price_23 : decode b_H_price 23 = .ok (.ireturn, 1) := by decide +kernel
theorem d_H_price_24 : decode b_H_price 24 = .ok (.aload_n 0, 1) := by decide +kernel
theorem d_H_price_25 : decode b_H_price 25 = .ok (.getfield 10, 3) := by decide +kernel
theorem d_H_price_28 : decode b_H_price 28 = .ok (.iload_n 1, 1) := by decide +kernel
theorem d_H_price_29 : decode b_H_price 29 = .ok (.iload_n 2, 1) := by decide +kernel
theorem d_H_price_30 : decode b_H_price 30 = .ok (.invokevirtual 59, 3) := by decide +kernel
theorem d_H_price_33 : decode b_H_price 33 = .ok (.ireturn, 1) := by decide +kernel
theorem d_H_cheapest_0 : decode b_H_cheapest 0 = .ok (.iload_n 1, 1) := by decide +kernel
theorem d_H_cheapest_1 : decode b_H_cheapest 1 = .ok (.invokestatic 51, 3) := by decide +kernel
theorem d_H_cheapest_4 : decode b_H_cheapest 4 = .ok (.ifCond .eq 10, 3) := by decide +kernel
theorem d_H_cheapest_7 : decode b_H_cheapest 7 = .ok (.iload_n 2, 1) := by decide +kernel
theorem d_H_cheapest_8 : decode b_H_cheapest 8 = .ok (.invokestatic 51, 3) := by decide +kernel
theorem d_H_cheapest_11 : decode b_H_cheapest 11 = .ok (.ifCond .ne 7, 3) := by decide +kernel
theorem d_H_cheapest_14 : decode b_H_cheapest 14 = .ok (.sipush (-1001), 3) := by decide +kernel
theorem d_H_cheapest_17 : decode b_H_cheapest 17 = .ok (.ireturn, 1) := by decide +kernel
theorem d_H_cheapest_18 : decode b_H_cheapest 18 = .ok (.aload_n 0, 1) := by decide +kernel
theorem d_H_cheapest_19 : decode b_H_cheapest 19 = .ok (.getfield 10, 3) := by decide +kernel
theorem d_H_cheapest_22 : decode b_H_cheapest 22 = .ok (.iload_n 1, 1) := by decide +kernel
theorem d_H_cheapest_23 : decode b_H_cheapest 23 = .ok (.iload_n 2, 1) := by decide +kernel
theorem d_H_cheapest_24 : decode b_H_cheapest 24 = .ok (.invokevirtual 63, 3) := by decide +kernel
theorem d_H_cheapest_27 : decode b_H_cheapest 27 = .ok (.ifCond .eq 13, 3) := by decide +kernel
theorem d_H_cheapest_30 : decode b_H_cheapest 30 = .ok (.aload_n 0, 1) := by decide +kernel
theorem d_H_cheapest_31 : decode b_H_cheapest 31 = .ok (.getfield 10, 3) := by decide +kernel
theorem d_H_cheapest_34 : decode b_H_cheapest 34 = .ok (.invokevirtual 66, 3) := by decide +kernel
theorem d_H_cheapest_37 : decode b_H_cheapest 37 = .ok (.goto 4, 3) := by decide +kernel
theorem d_H_cheapest_40 : decode b_H_cheapest 40 = .ok (.iconst (-1), 1) := by decide +kernel
theorem d_H_cheapest_41 : decode b_H_cheapest 41 = .ok (.ireturn, 1) := by decide +kernel
theorem d_H_way_0 : decode b_H_way 0 = .ok (.iload_n 1, 1) := by decide +kernel
theorem d_H_way_1 : decode b_H_way 1 = .ok (.invokestatic 51, 3) := by decide +kernel
theorem d_H_way_4 : decode b_H_way 4 = .ok (.ifCond .eq 10, 3) := by decide +kernel
theorem d_H_way_7 : decode b_H_way 7 = .ok (.iload_n 2, 1) := by decide +kernel
theorem d_H_way_8 : decode b_H_way 8 = .ok (.invokestatic 51, 3) := by decide +kernel
theorem d_H_way_11 : decode b_H_way 11 = .ok (.ifCond .ne 7, 3) := by decide +kernel
theorem d_H_way_14 : decode b_H_way 14 = .ok (.sipush (-1001), 3) := by decide +kernel
theorem d_H_way_17 : decode b_H_way 17 = .ok (.ireturn, 1) := by decide +kernel
theorem d_H_way_18 : decode b_H_way 18 = .ok (.aload_n 0, 1) := by decide +kernel
theorem d_H_way_19 : decode b_H_way 19 = .ok (.getfield 10, 3) := by decide +kernel
theorem d_H_way_22 : decode b_H_way 22 = .ok (.iload_n 1, 1) := by decide +kernel
theorem d_H_way_23 : decode b_H_way 23 = .ok (.iload_n 2, 1) := by decide +kernel
theorem d_H_way_24 : decode b_H_way 24 = .ok (.invokevirtual 63, 3) := by decide +kernel
theorem d_H_way_27 : decode b_H_way 27 = .ok (.ifCond .eq 14, 3) := by decide +kernel
theorem d_H_way_30 : decode b_H_way 30 = .ok (.aload_n 0, 1) := by decide +kernel
theorem d_H_way_31 : decode b_H_way 31 = .ok (.getfield 10, 3) := by decide +kernel
theorem d_H_way_34 : decode b_H_way 34 = .ok (.iload_n 3, 1) := by decide +kernel
theorem d_H_way_35 : decode b_H_way 35 = .ok (.invokevirtual 70, 3) := by decide +kernel
theorem d_H_way_38 : decode b_H_way 38 = .ok (.goto 4, 3) := by decide +kernel
theorem d_H_way_41 : decode b_H_way 41 = .ok (.iconst (-1), 1) := by decide +kernel
theorem d_H_way_42 : decode b_H_way 42 = .ok (.ireturn, 1) := by decide +kernel
theorem d_H_main_0 : decode b_H_main 0 = .ok (.iload_n 1, 1) := by decide +kernel
theorem d_H_main_1 : decode b_H_main 1 = .ok (.invokestatic 51, 3) := by decide +kernel
theorem d_H_main_4 : decode b_H_main 4 = .ok (.ifCond .ne 7, 3) := by decide +kernel
theorem d_H_main_7 : decode b_H_main 7 = .ok (.sipush (-1001), 3) := by decide +kernel
theorem d_H_main_10 : decode b_H_main 10 = .ok (.ireturn, 1) := by decide +kernel
theorem d_H_main_11 : decode b_H_main 11 = .ok (.iload_n 2, 1) := by decide +kernel
theorem d_H_main_12 : decode b_H_main 12 = .ok (.iconst 1, 1) := by decide +kernel
theorem d_H_main_13 : decode b_H_main 13 = .ok (.invokestatic 55, 3) := by decide +kernel
theorem d_H_main_16 : decode b_H_main 16 = .ok (.ifCond .eq 7, 3) := by decide +kernel
theorem d_H_main_19 : decode b_H_main 19 = .ok (.sipush (-1002), 3) := by decide +kernel
theorem d_H_main_22 : decode b_H_main 22 = .ok (.ireturn, 1) := by decide +kernel
theorem d_H_main_23 : decode b_H_main 23 = .ok (.aload_n 0, 1) := by decide +kernel
theorem d_H_main_24 : decode b_H_main 24 = .ok (.getfield 19, 3) := by decide +kernel
theorem d_H_main_27 : decode b_H_main 27 = .ok (.invokevirtual 74, 3) := by decide +kernel
theorem d_H_main_30 : decode b_H_main 30 = .ok (.ifCond .eq 9, 3) := by decide +kernel
theorem d_H_main_33 : decode b_H_main 33 = .ok (.sipush (-1004), 3) := by decide +kernel
theorem d_H_main_36 : decode b_H_main 36 = .ok (.goto 12, 3) := by decide +kernel
theorem d_H_main_39 : decode b_H_main 39 = .ok (.aload_n 0, 1) := by decide +kernel
theorem d_H_main_40 : decode b_H_main 40 = .ok (.getfield 19, 3) := by decide +kernel
theorem d_H_main_43 : decode b_H_main 43 = .ok (.iload_n 1, 1) := by decide +kernel
theorem d_H_main_44 : decode b_H_main 44 = .ok (.iload_n 2, 1) := by decide +kernel
theorem d_H_main_45 : decode b_H_main 45 = .ok (.invokevirtual 78, 3) := by decide +kernel
theorem d_H_main_48 : decode b_H_main 48 = .ok (.ireturn, 1) := by decide +kernel
theorem d_H_hang_0 : decode b_H_hang 0 = .ok (.aload_n 0, 1) := by decide +kernel
theorem d_H_hang_1 : decode b_H_hang 1 = .ok (.getfield 19, 3) := by decide +kernel
theorem d_H_hang_4 : decode b_H_hang 4 = .ok (.iload_n 1, 1) := by decide +kernel
theorem d_H_hang_5 : decode b_H_hang 5 = .ok (.invokevirtual 81, 3) := by decide +kernel
theorem d_H_hang_8 : decode b_H_hang 8 = .ok (.ifCond .eq 10, 3) := by decide +kernel
theorem d_H_hang_11 : decode b_H_hang 11 = .ok (.iload_n 2, 1) := by decide +kernel
theorem d_H_hang_12 : decode b_H_hang 12 = .ok (.invokestatic 51, 3) := by decide +kernel
theorem d_H_hang_15 : decode b_H_hang 15 = .ok (.ifCond .ne 7, 3) := by decide +kernel
theorem d_H_hang_18 : decode b_H_hang 18 = .ok (.sipush (-1001), 3) := by decide +kernel
theorem d_H_hang_21 : decode b_H_hang 21 = .ok (.ireturn, 1) := by decide +kernel
theorem d_H_hang_22 : decode b_H_hang 22 = .ok (.iload_n 3, 1) := by decide +kernel
theorem d_H_hang_23 : decode b_H_hang 23 = .ok (.bipush 50, 2) := by decide +kernel
theorem d_H_hang_25 : decode b_H_hang 25 = .ok (.invokestatic 55, 3) := by decide +kernel
theorem d_H_hang_28 : decode b_H_hang 28 = .ok (.ifCond .eq 7, 3) := by decide +kernel
theorem d_H_hang_31 : decode b_H_hang 31 = .ok (.sipush (-1002), 3) := by decide +kernel
theorem d_H_hang_34 : decode b_H_hang 34 = .ok (.ireturn, 1) := by decide +kernel
theorem d_H_hang_35 : decode b_H_hang 35 = .ok (.iload_n 2, 1) := by decide +kernel
theorem d_H_hang_36 : decode b_H_hang 36 = .ok (.aload_n 0, 1) := by decide +kernel
theorem d_H_hang_37 : decode b_H_hang 37 = .ok (.getfield 19, 3) := by decide +kernel
theorem d_H_hang_40 : decode b_H_hang 40 = .ok (.iload_n 1, 1) := by decide +kernel
theorem d_H_hang_41 : decode b_H_hang 41 = .ok (.invokevirtual 82, 3) := by decide +kernel
theorem d_H_hang_44 : decode b_H_hang 44 = .ok (.if_icmp .eq 22, 3) := by decide +kernel
theorem d_H_hang_47 : decode b_H_hang 47 = .ok (.aload_n 0, 1) := by decide +kernel
theorem d_H_hang_48 : decode b_H_hang 48 = .ok (.getfield 10, 3) := by decide +kernel
theorem d_H_hang_51 : decode b_H_hang 51 = .ok (.iload_n 2, 1) := by decide +kernel
theorem d_H_hang_52 : decode b_H_hang 52 = .ok (.aload_n 0, 1) := by decide +kernel
theorem d_H_hang_53 : decode b_H_hang 53 = .ok (.getfield 19, 3) := by decide +kernel
theorem d_H_hang_56 : decode b_H_hang 56 = .ok (.iload_n 1, 1) := by decide +kernel
theorem d_H_hang_57 : decode b_H_hang 57 = .ok (.invokevirtual 82, 3) := by decide +kernel
theorem d_H_hang_60 : decode b_H_hang 60 = .ok (.invokevirtual 63, 3) := by decide +kernel
theorem d_H_hang_63 : decode b_H_hang 63 = .ok (.ifCond .ne 7, 3) := by decide +kernel
theorem d_H_hang_66 : decode b_H_hang 66 = .ok (.sipush (-1003), 3) := by decide +kernel
theorem d_H_hang_69 : decode b_H_hang 69 = .ok (.ireturn, 1) := by decide +kernel
theorem d_H_hang_70 : decode b_H_hang 70 = .ok (.aload_n 0, 1) := by decide +kernel
theorem d_H_hang_71 : decode b_H_hang 71 = .ok (.getfield 19, 3) := by decide +kernel
theorem d_H_hang_74 : decode b_H_hang 74 = .ok (.invokevirtual 74, 3) := by decide +kernel
theorem d_H_hang_77 : decode b_H_hang 77 = .ok (.ifCond .eq 9, 3) := by decide +kernel
theorem d_H_hang_80 : decode b_H_hang 80 = .ok (.sipush (-1004), 3) := by decide +kernel
theorem d_H_hang_83 : decode b_H_hang 83 = .ok (.goto 17, 3) := by decide +kernel
theorem d_H_hang_86 : decode b_H_hang 86 = .ok (.aload_n 0, 1) := by decide +kernel
theorem d_H_hang_87 : decode b_H_hang 87 = .ok (.getfield 19, 3) := by decide +kernel
theorem d_H_hang_90 : decode b_H_hang 90 = .ok (.iload_n 1, 1) := by decide +kernel
theorem d_H_hang_91 : decode b_H_hang 91 = .ok (.iload_n 2, 1) := by decide +kernel
theorem d_H_hang_92 : decode b_H_hang 92 = .ok (.iload_n 3, 1) := by decide +kernel
theorem d_H_hang_93 : decode b_H_hang 93 = .ok (.aload_n 0, 1) := by decide +kernel
theorem d_H_hang_94 : decode b_H_hang 94 = .ok (.getfield 10, 3) := by decide +kernel
theorem d_H_hang_97 : decode b_H_hang 97 = .ok (.invokevirtual 85, 3) := by decide +kernel
theorem d_H_hang_100 : decode b_H_hang 100 = .ok (.ireturn, 1) := by decide +kernel
theorem d_H_units_0 : decode b_H_units 0 = .ok (.aload_n 0, 1) := by decide +kernel
theorem d_H_units_1 : decode b_H_units 1 = .ok (.getfield 19, 3) := by decide +kernel
theorem d_H_units_4 : decode b_H_units 4 = .ok (.iload_n 1, 1) := by decide +kernel
theorem d_H_units_5 : decode b_H_units 5 = .ok (.invokevirtual 81, 3) := by decide +kernel
theorem d_H_units_8 : decode b_H_units 8 = .ok (.ifCond .ne 7, 3) := by decide +kernel
theorem d_H_units_11 : decode b_H_units 11 = .ok (.sipush (-1001), 3) := by decide +kernel
theorem d_H_units_14 : decode b_H_units 14 = .ok (.ireturn, 1) := by decide +kernel
theorem d_H_units_15 : decode b_H_units 15 = .ok (.iload_n 2, 1) := by decide +kernel
theorem d_H_units_16 : decode b_H_units 16 = .ok (.bipush 50, 2) := by decide +kernel
theorem d_H_units_18 : decode b_H_units 18 = .ok (.invokestatic 55, 3) := by decide +kernel
theorem d_H_units_21 : decode b_H_units 21 = .ok (.ifCond .eq 7, 3) := by decide +kernel
theorem d_H_units_24 : decode b_H_units 24 = .ok (.sipush (-1002), 3) := by decide +kernel
theorem d_H_units_27 : decode b_H_units 27 = .ok (.ireturn, 1) := by decide +kernel
theorem d_H_units_28 : decode b_H_units 28 = .ok (.aload_n 0, 1) := by decide +kernel
theorem d_H_units_29 : decode b_H_units 29 = .ok (.getfield 19, 3) := by decide +kernel
theorem d_H_units_32 : decode b_H_units 32 = .ok (.iload_n 1, 1) := by decide +kernel
theorem d_H_units_33 : decode b_H_units 33 = .ok (.iload_n 2, 1) := by decide +kernel
theorem d_H_units_34 : decode b_H_units 34 = .ok (.invokevirtual 89, 3) := by decide +kernel
theorem d_H_units_37 : decode b_H_units 37 = .ok (.ireturn, 1) := by decide +kernel
theorem d_H_air_0 : decode b_H_air 0 = .ok (.aload_n 0, 1) := by decide +kernel
theorem d_H_air_1 : decode b_H_air 1 = .ok (.getfield 19, 3) := by decide +kernel
theorem d_H_air_4 : decode b_H_air 4 = .ok (.iload_n 1, 1) := by decide +kernel
theorem d_H_air_5 : decode b_H_air 5 = .ok (.invokevirtual 81, 3) := by decide +kernel
theorem d_H_air_8 : decode b_H_air 8 = .ok (.ifCond .ne 7, 3) := by decide +kernel
theorem d_H_air_11 : decode b_H_air 11 = .ok (.sipush (-1001), 3) := by decide +kernel
theorem d_H_air_14 : decode b_H_air 14 = .ok (.ireturn, 1) := by decide +kernel
theorem d_H_air_15 : decode b_H_air 15 = .ok (.aload_n 0, 1) := by decide +kernel
theorem d_H_air_16 : decode b_H_air 16 = .ok (.getfield 19, 3) := by decide +kernel
theorem d_H_air_19 : decode b_H_air 19 = .ok (.iload_n 1, 1) := by decide +kernel
theorem d_H_air_20 : decode b_H_air 20 = .ok (.invokevirtual 92, 3) := by decide +kernel
theorem d_H_air_23 : decode b_H_air 23 = .ok (.ifCond .ne 14, 3) := by decide +kernel
theorem d_H_air_26 : decode b_H_air 26 = .ok (.aload_n 0, 1) := by decide +kernel
theorem d_H_air_27 : decode b_H_air 27 = .ok (.getfield 19, 3) := by decide +kernel
theorem d_H_air_30 : decode b_H_air 30 = .ok (.iload_n 1, 1) := by decide +kernel
theorem d_H_air_31 : decode b_H_air 31 = .ok (.invokevirtual 95, 3) := by decide +kernel
theorem d_H_air_34 : decode b_H_air 34 = .ok (.ifCond .ne 7, 3) := by decide +kernel
theorem d_H_air_37 : decode b_H_air 37 = .ok (.sipush (-1003), 3) := by decide +kernel
theorem d_H_air_40 : decode b_H_air 40 = .ok (.ireturn, 1) := by decide +kernel
theorem d_H_air_41 : decode b_H_air 41 = .ok (.aload_n 0, 1) := by decide +kernel
theorem d_H_air_42 : decode b_H_air 42 = .ok (.getfield 19, 3) := by decide +kernel
theorem d_H_air_45 : decode b_H_air 45 = .ok (.iload_n 1, 1) := by decide +kernel
theorem d_H_air_46 : decode b_H_air 46 = .ok (.iload_n 2, 1) := by decide +kernel
theorem d_H_air_47 : decode b_H_air 47 = .ok (.invokevirtual 98, 3) := by decide +kernel
theorem d_H_air_50 : decode b_H_air 50 = .ok (.invokestatic 102, 3) := by decide +kernel
theorem d_H_air_53 : decode b_H_air 53 = .ok (.ireturn, 1) := by decide +kernel
theorem d_H_cut_0 : decode b_H_cut 0 = .ok (.aload_n 0, 1) := by decide +kernel
theorem d_H_cut_1 : decode b_H_cut 1 = .ok (.getfield 19, 3) := by decide +kernel
theorem d_H_cut_4 : decode b_H_cut 4 = .ok (.iload_n 1, 1) := by decide +kernel
theorem d_H_cut_5 : decode b_H_cut 5 = .ok (.invokevirtual 81, 3) := by decide +kernel
theorem d_H_cut_8 : decode b_H_cut 8 = .ok (.ifCond .eq 14, 3) := by decide +kernel
theorem d_H_cut_11 : decode b_H_cut 11 = .ok (.aload_n 0, 1) := by decide +kernel
theorem d_H_cut_12 : decode b_H_cut 12 = .ok (.getfield 19, 3) := by decide +kernel
theorem d_H_cut_15 : decode b_H_cut 15 = .ok (.iload_n 1, 1) := by decide +kernel
theorem d_H_cut_16 : decode b_H_cut 16 = .ok (.invokevirtual 106, 3) := by decide +kernel
theorem d_H_cut_19 : decode b_H_cut 19 = .ok (.goto 6, 3) := by decide +kernel
theorem d_H_cut_22 : decode b_H_cut 22 = .ok (.sipush (-1001), 3) := by decide +kernel
theorem d_H_cut_25 : decode b_H_cut 25 = .ok (.ireturn, 1) := by decide +kernel
theorem d_H_lay_0 : decode b_H_lay 0 = .ok (.iconst 0, 1) := by decide +kernel
theorem d_H_lay_1 : decode b_H_lay 1 = .ok (.istore_n 1, 1) := by decide +kernel
theorem d_H_lay_2 : decode b_H_lay 2 = .ok (.iconst 0, 1) := by decide +kernel
theorem d_H_lay_3 : decode b_H_lay 3 = .ok (.istore_n 2, 1) := by decide +kernel
theorem d_H_lay_4 : decode b_H_lay 4 = .ok (.iload_n 2, 1) := by decide +kernel
theorem d_H_lay_5 : decode b_H_lay 5 = .ok (.aload_n 0, 1) := by decide +kernel
theorem d_H_lay_6 : decode b_H_lay 6 = .ok (.getfield 19, 3) := by decide +kernel
theorem d_H_lay_9 : decode b_H_lay 9 = .ok (.invokevirtual 109, 3) := by decide +kernel
theorem d_H_lay_12 : decode b_H_lay 12 = .ok (.if_icmp .ge 64, 3) := by decide +kernel
theorem d_H_lay_15 : decode b_H_lay 15 = .ok (.aload_n 0, 1) := by decide +kernel
theorem d_H_lay_16 : decode b_H_lay 16 = .ok (.getfield 19, 3) := by decide +kernel
theorem d_H_lay_19 : decode b_H_lay 19 = .ok (.iload_n 2, 1) := by decide +kernel
theorem d_H_lay_20 : decode b_H_lay 20 = .ok (.invokevirtual 92, 3) := by decide +kernel
theorem d_H_lay_23 : decode b_H_lay 23 = .ok (.ifCond .ne 47, 3) := by decide +kernel
theorem d_H_lay_26 : decode b_H_lay 26 = .ok (.aload_n 0, 1) := by decide +kernel
theorem d_H_lay_27 : decode b_H_lay 27 = .ok (.getfield 10, 3) := by decide +kernel
theorem d_H_lay_30 : decode b_H_lay 30 = .ok (.aload_n 0, 1) := by decide +kernel
theorem d_H_lay_31 : decode b_H_lay 31 = .ok (.getfield 19, 3) := by decide +kernel
theorem d_H_lay_34 : decode b_H_lay 34 = .ok (.iload_n 2, 1) := by decide +kernel
theorem d_H_lay_35 : decode b_H_lay 35 = .ok (.invokevirtual 82, 3) := by decide +kernel
theorem d_H_lay_38 : decode b_H_lay 38 = .ok (.aload_n 0, 1) := by decide +kernel
theorem d_H_lay_39 : decode b_H_lay 39 = .ok (.getfield 19, 3) := by decide +kernel
theorem d_H_lay_42 : decode b_H_lay 42 = .ok (.iload_n 2, 1) := by decide +kernel
theorem d_H_lay_43 : decode b_H_lay 43 = .ok (.invokevirtual 112, 3) := by decide +kernel
theorem d_H_lay_46 : decode b_H_lay 46 = .ok (.invokevirtual 63, 3) := by decide +kernel
theorem d_H_lay_49 : decode b_H_lay 49 = .ok (.ifCond .eq 21, 3) := by decide +kernel
theorem d_H_lay_52 : decode b_H_lay 52 = .ok (.aload_n 0, 1) := by decide +kernel
theorem d_H_lay_53 : decode b_H_lay 53 = .ok (.getfield 19, 3) := by decide +kernel
theorem d_H_lay_56 : decode b_H_lay 56 = .ok (.iload_n 2, 1) := by decide +kernel
theorem d_H_lay_57 : decode b_H_lay 57 = .ok (.aload_n 0, 1) := by decide +kernel
theorem d_H_lay_58 : decode b_H_lay 58 = .ok (.getfield 10, 3) := by decide +kernel
theorem d_H_lay_61 : decode b_H_lay 61 = .ok (.invokevirtual 115, 3) := by decide +kernel
theorem d_H_lay_64 : decode b_H_lay 64 = .ok (.ifCond .eq 6, 3) := by decide +kernel
theorem d_H_lay_67 : decode b_H_lay 67 = .ok (.iinc 1 1, 3) := by decide +kernel
theorem d_H_lay_70 : decode b_H_lay 70 = .ok (.iinc 2 1, 3) := by decide +kernel
theorem d_H_lay_73 : decode b_H_lay 73 = .ok (.goto (-69), 3) := by decide +kernel
theorem d_H_lay_76 : decode b_H_lay 76 = .ok (.iload_n 1, 1) := by decide +kernel
theorem d_H_lay_77 : decode b_H_lay 77 = .ok (.ireturn, 1) := by decide +kernel
theorem d_H_rule_0 : decode b_H_rule 0 = .ok (.iload_n 1, 1) := by decide +kernel
theorem d_H_rule_1 : decode b_H_rule 1 = .ok (.iload_n 2, 1) := by decide +kernel
theorem d_H_rule_2 : decode b_H_rule 2 = .ok (.invokestatic 119, 3) := by decide +kernel
theorem d_H_rule_5 : decode b_H_rule 5 = .ok (.ifCond .eq 15, 3) := by decide +kernel
theorem d_H_rule_8 : decode b_H_rule 8 = .ok (.aload_n 0, 1) := by decide +kernel
theorem d_H_rule_9 : decode b_H_rule 9 = .ok (.getfield 26, 3) := by decide +kernel
theorem d_H_rule_12 : decode b_H_rule 12 = .ok (.iload_n 1, 1) := by decide +kernel
theorem d_H_rule_13 : decode b_H_rule 13 = .ok (.iload_n 2, 1) := by decide +kernel
theorem d_H_rule_14 : decode b_H_rule 14 = .ok (.invokevirtual 122, 3) := by decide +kernel
theorem d_H_rule_17 : decode b_H_rule 17 = .ok (.goto 6, 3) := by decide +kernel
theorem d_H_rule_20 : decode b_H_rule 20 = .ok (.sipush (-1002), 3) := by decide +kernel
theorem d_H_rule_23 : decode b_H_rule 23 = .ok (.ireturn, 1) := by decide +kernel
theorem d_H_limit_0 : decode b_H_limit 0 = .ok (.iload_n 1, 1) := by decide +kernel
theorem d_H_limit_1 : decode b_H_limit 1 = .ok (.iload_n 2, 1) := by decide +kernel
theorem d_H_limit_2 : decode b_H_limit 2 = .ok (.invokestatic 125, 3) := by decide +kernel
theorem d_H_limit_5 : decode b_H_limit 5 = .ok (.ifCond .ne 7, 3) := by decide +kernel
theorem d_H_limit_8 : decode b_H_limit 8 = .ok (.sipush (-1002), 3) := by decide +kernel
theorem d_H_limit_11 : decode b_H_limit 11 = .ok (.ireturn, 1) := by decide +kernel
theorem d_H_limit_12 : decode b_H_limit 12 = .ok (.aload_n 0, 1) := by decide +kernel
theorem d_H_limit_13 : decode b_H_limit 13 = .ok (.getfield 26, 3) := by decide +kernel
theorem d_H_limit_16 : decode b_H_limit 16 = .ok (.iload_n 1, 1) := by decide +kernel
theorem d_H_limit_17 : decode b_H_limit 17 = .ok (.iload_n 2, 1) := by decide +kernel
theorem d_H_limit_18 : decode b_H_limit 18 = .ok (.invokevirtual 128, 3) := by decide +kernel
theorem d_H_limit_21 : decode b_H_limit 21 = .ok (.ifCond .eq 15, 3) := by decide +kernel
theorem d_H_limit_24 : decode b_H_limit 24 = .ok (.aload_n 0, 1) := by decide +kernel
theorem d_H_limit_25 : decode b_H_limit 25 = .ok (.getfield 26, 3) := by decide +kernel
theorem d_H_limit_28 : decode b_H_limit 28 = .ok (.iload_n 1, 1) := by decide +kernel
theorem d_H_limit_29 : decode b_H_limit 29 = .ok (.iload_n 2, 1) := by decide +kernel
theorem d_H_limit_30 : decode b_H_limit 30 = .ok (.invokevirtual 131, 3) := by decide +kernel
theorem d_H_limit_33 : decode b_H_limit 33 = .ok (.goto 6, 3) := by decide +kernel
theorem d_H_limit_36 : decode b_H_limit 36 = .ok (.sipush (-1003), 3) := by decide +kernel
theorem d_H_limit_39 : decode b_H_limit 39 = .ok (.ireturn, 1) := by decide +kernel
theorem d_H_node_0 : decode b_H_node 0 = .ok (.aload_n 0, 1) := by decide +kernel
theorem d_H_node_1 : decode b_H_node 1 = .ok (.getfield 19, 3) := by decide +kernel
theorem d_H_node_4 : decode b_H_node 4 = .ok (.iload_n 1, 1) := by decide +kernel
theorem d_H_node_5 : decode b_H_node 5 = .ok (.invokevirtual 81, 3) := by decide +kernel
theorem d_H_node_8 : decode b_H_node 8 = .ok (.ifCond .ne 7, 3) := by decide +kernel
theorem d_H_node_11 : decode b_H_node 11 = .ok (.sipush (-1001), 3) := by decide +kernel
theorem d_H_node_14 : decode b_H_node 14 = .ok (.ireturn, 1) := by decide +kernel
theorem d_H_node_15 : decode b_H_node 15 = .ok (.iload_n 2, 1) := by decide +kernel
theorem d_H_node_16 : decode b_H_node 16 = .ok (.bipush 11, 2) := by decide +kernel
theorem d_H_node_18 : decode b_H_node 18 = .ok (.invokestatic 55, 3) := by decide +kernel
theorem d_H_node_21 : decode b_H_node 21 = .ok (.ifCond .eq 7, 3) := by decide +kernel
theorem d_H_node_24 : decode b_H_node 24 = .ok (.sipush (-1002), 3) := by decide +kernel
theorem d_H_node_27 : decode b_H_node 27 = .ok (.ireturn, 1) := by decide +kernel
theorem d_H_node_28 : decode b_H_node 28 = .ok (.aload_n 0, 1) := by decide +kernel
theorem d_H_node_29 : decode b_H_node 29 = .ok (.getfield 33, 3) := by decide +kernel
theorem d_H_node_32 : decode b_H_node 32 = .ok (.aload_n 0, 1) := by decide +kernel
theorem d_H_node_33 : decode b_H_node 33 = .ok (.getfield 19, 3) := by decide +kernel
theorem d_H_node_36 : decode b_H_node 36 = .ok (.aload_n 0, 1) := by decide +kernel
theorem d_H_node_37 : decode b_H_node 37 = .ok (.getfield 26, 3) := by decide +kernel
theorem d_H_node_40 : decode b_H_node 40 = .ok (.invokevirtual 134, 3) := by decide +kernel
theorem d_H_node_43 : decode b_H_node 43 = .ok (.iload_n 2, 1) := by decide +kernel
theorem d_H_node_44 : decode b_H_node 44 = .ok (.tableswitch 174 0 10 #[60, 69, 78, 87, 96, 108, 117, 126, 135, 144, 154], 60) := by decide +kernel
theorem d_H_node_104 : decode b_H_node 104 = .ok (.aload_n 0, 1) := by decide +kernel
theorem d_H_node_105 : decode b_H_node 105 = .ok (.getfield 19, 3) := by decide +kernel
theorem d_H_node_108 : decode b_H_node 108 = .ok (.iload_n 1, 1) := by decide +kernel
theorem d_H_node_109 : decode b_H_node 109 = .ok (.invokevirtual 82, 3) := by decide +kernel
theorem d_H_node_112 : decode b_H_node 112 = .ok (.ireturn, 1) := by decide +kernel
theorem d_H_node_113 : decode b_H_node 113 = .ok (.aload_n 0, 1) := by decide +kernel
theorem d_H_node_114 : decode b_H_node 114 = .ok (.getfield 19, 3) := by decide +kernel
theorem d_H_node_117 : decode b_H_node 117 = .ok (.iload_n 1, 1) := by decide +kernel
theorem d_H_node_118 : decode b_H_node 118 = .ok (.invokevirtual 138, 3) := by decide +kernel
theorem d_H_node_121 : decode b_H_node 121 = .ok (.ireturn, 1) := by decide +kernel
theorem d_H_node_122 : decode b_H_node 122 = .ok (.aload_n 0, 1) := by decide +kernel
theorem d_H_node_123 : decode b_H_node 123 = .ok (.getfield 19, 3) := by decide +kernel
theorem d_H_node_126 : decode b_H_node 126 = .ok (.iload_n 1, 1) := by decide +kernel
theorem d_H_node_127 : decode b_H_node 127 = .ok (.invokevirtual 141, 3) := by decide +kernel
theorem d_H_node_130 : decode b_H_node 130 = .ok (.ireturn, 1) := by decide +kernel
theorem d_H_node_131 : decode b_H_node 131 = .ok (.aload_n 0, 1) := by decide +kernel
theorem d_H_node_132 : decode b_H_node 132 = .ok (.getfield 19, 3) := by decide +kernel
theorem d_H_node_135 : decode b_H_node 135 = .ok (.iload_n 1, 1) := by decide +kernel
theorem d_H_node_136 : decode b_H_node 136 = .ok (.invokevirtual 144, 3) := by decide +kernel
theorem d_H_node_139 : decode b_H_node 139 = .ok (.ireturn, 1) := by decide +kernel
theorem d_H_node_140 : decode b_H_node 140 = .ok (.aload_n 0, 1) := by decide +kernel
theorem d_H_node_141 : decode b_H_node 141 = .ok (.getfield 19, 3) := by decide +kernel
theorem d_H_node_144 : decode b_H_node 144 = .ok (.iload_n 1, 1) := by decide +kernel
theorem d_H_node_145 : decode b_H_node 145 = .ok (.invokevirtual 147, 3) := by decide +kernel
theorem d_H_node_148 : decode b_H_node 148 = .ok (.invokestatic 102, 3) := by decide +kernel
theorem d_H_node_151 : decode b_H_node 151 = .ok (.ireturn, 1) := by decide +kernel
theorem d_H_node_152 : decode b_H_node 152 = .ok (.aload_n 0, 1) := by decide +kernel
theorem d_H_node_153 : decode b_H_node 153 = .ok (.getfield 33, 3) := by decide +kernel
theorem d_H_node_156 : decode b_H_node 156 = .ok (.iload_n 1, 1) := by decide +kernel
theorem d_H_node_157 : decode b_H_node 157 = .ok (.invokevirtual 150, 3) := by decide +kernel
theorem d_H_node_160 : decode b_H_node 160 = .ok (.ireturn, 1) := by decide +kernel
theorem d_H_node_161 : decode b_H_node 161 = .ok (.aload_n 0, 1) := by decide +kernel
theorem d_H_node_162 : decode b_H_node 162 = .ok (.getfield 19, 3) := by decide +kernel
theorem d_H_node_165 : decode b_H_node 165 = .ok (.iload_n 1, 1) := by decide +kernel
theorem d_H_node_166 : decode b_H_node 166 = .ok (.invokevirtual 153, 3) := by decide +kernel
theorem d_H_node_169 : decode b_H_node 169 = .ok (.ireturn, 1) := by decide +kernel
theorem d_H_node_170 : decode b_H_node 170 = .ok (.aload_n 0, 1) := by decide +kernel
theorem d_H_node_171 : decode b_H_node 171 = .ok (.getfield 19, 3) := by decide +kernel
theorem d_H_node_174 : decode b_H_node 174 = .ok (.iload_n 1, 1) := by decide +kernel
theorem d_H_node_175 : decode b_H_node 175 = .ok (.invokevirtual 156, 3) := by decide +kernel
theorem d_H_node_178 : decode b_H_node 178 = .ok (.ireturn, 1) := by decide +kernel
theorem d_H_node_179 : decode b_H_node 179 = .ok (.aload_n 0, 1) := by decide +kernel
theorem d_H_node_180 : decode b_H_node 180 = .ok (.getfield 33, 3) := by decide +kernel
theorem d_H_node_183 : decode b_H_node 183 = .ok (.iload_n 1, 1) := by decide +kernel
theorem d_H_node_184 : decode b_H_node 184 = .ok (.invokevirtual 159, 3) := by decide +kernel
theorem d_H_node_187 : decode b_H_node 187 = .ok (.ireturn, 1) := by decide +kernel
theorem d_H_node_188 : decode b_H_node 188 = .ok (.aload_n 0, 1) := by decide +kernel
theorem d_H_node_189 : decode b_H_node 189 = .ok (.getfield 33, 3) := by decide +kernel
theorem d_H_node_192 : decode b_H_node 192 = .ok (.iload_n 1, 1) := by decide +kernel
theorem d_H_node_193 : decode b_H_node 193 = .ok (.iconst 0, 1) := by decide +kernel
theorem d_H_node_194 : decode b_H_node 194 = .ok (.invokevirtual 162, 3) := by decide +kernel
theorem d_H_node_197 : decode b_H_node 197 = .ok (.ireturn, 1) := by decide +kernel
theorem d_H_node_198 : decode b_H_node 198 = .ok (.aload_n 0, 1) := by decide +kernel
theorem d_H_node_199 : decode b_H_node 199 = .ok (.getfield 33, 3) := by decide +kernel
theorem d_H_node_202 : decode b_H_node 202 = .ok (.aload_n 0, 1) := by decide +kernel
theorem d_H_node_203 : decode b_H_node 203 = .ok (.getfield 19, 3) := by decide +kernel
theorem d_H_node_206 : decode b_H_node 206 = .ok (.aload_n 0, 1) := by decide +kernel
theorem d_H_node_207 : decode b_H_node 207 = .ok (.getfield 26, 3) := by decide +kernel
theorem d_H_node_210 : decode b_H_node 210 = .ok (.iload_n 1, 1) := by decide +kernel
theorem d_H_node_211 : decode b_H_node 211 = .ok (.invokevirtual 165, 3) := by decide +kernel
theorem d_H_node_214 : decode b_H_node 214 = .ok (.invokestatic 102, 3) := by decide +kernel
theorem d_H_node_217 : decode b_H_node 217 = .ok (.ireturn, 1) := by decide +kernel
theorem d_H_node_218 : decode b_H_node 218 = .ok (.aload_n 0, 1) := by decide +kernel
theorem d_H_node_219 : decode b_H_node 219 = .ok (.getfield 33, 3) := by decide +kernel
theorem d_H_node_222 : decode b_H_node 222 = .ok (.aload_n 0, 1) := by decide +kernel
theorem d_H_node_223 : decode b_H_node 223 = .ok (.getfield 19, 3) := by decide +kernel
theorem d_H_node_226 : decode b_H_node 226 = .ok (.iload_n 1, 1) := by decide +kernel
theorem d_H_node_227 : decode b_H_node 227 = .ok (.invokevirtual 169, 3) := by decide +kernel
theorem d_H_node_230 : decode b_H_node 230 = .ok (.ireturn, 1) := by decide +kernel
theorem d_H_run_0 : decode b_H_run 0 = .ok (.aload_n 0, 1) := by decide +kernel
theorem d_H_run_1 : decode b_H_run 1 = .ok (.getfield 19, 3) := by decide +kernel
theorem d_H_run_4 : decode b_H_run 4 = .ok (.iload_n 1, 1) := by decide +kernel
theorem d_H_run_5 : decode b_H_run 5 = .ok (.invokevirtual 81, 3) := by decide +kernel
theorem d_H_run_8 : decode b_H_run 8 = .ok (.ifCond .ne 7, 3) := by decide +kernel
theorem d_H_run_11 : decode b_H_run 11 = .ok (.sipush (-1001), 3) := by decide +kernel
theorem d_H_run_14 : decode b_H_run 14 = .ok (.ireturn, 1) := by decide +kernel
theorem d_H_run_15 : decode b_H_run 15 = .ok (.aload_n 0, 1) := by decide +kernel
theorem d_H_run_16 : decode b_H_run 16 = .ok (.getfield 19, 3) := by decide +kernel
theorem d_H_run_19 : decode b_H_run 19 = .ok (.iload_n 1, 1) := by decide +kernel
theorem d_H_run_20 : decode b_H_run 20 = .ok (.iload_n 2, 1) := by decide +kernel
theorem d_H_run_21 : decode b_H_run 21 = .ok (.invokevirtual 173, 3) := by decide +kernel
theorem d_H_run_24 : decode b_H_run 24 = .ok (.ifCond .eq 15, 3) := by decide +kernel
theorem d_H_run_27 : decode b_H_run 27 = .ok (.aload_n 0, 1) := by decide +kernel
theorem d_H_run_28 : decode b_H_run 28 = .ok (.getfield 19, 3) := by decide +kernel
theorem d_H_run_31 : decode b_H_run 31 = .ok (.iload_n 1, 1) := by decide +kernel
theorem d_H_run_32 : decode b_H_run 32 = .ok (.iload_n 2, 1) := by decide +kernel
theorem d_H_run_33 : decode b_H_run 33 = .ok (.invokevirtual 176, 3) := by decide +kernel
theorem d_H_run_36 : decode b_H_run 36 = .ok (.goto 4, 3) := by decide +kernel
theorem d_H_run_39 : decode b_H_run 39 = .ok (.iconst (-1), 1) := by decide +kernel
theorem d_H_run_40 : decode b_H_run 40 = .ok (.ireturn, 1) := by decide +kernel
theorem d_H_level_0 : decode b_H_level 0 = .ok (.aload_n 0, 1) := by decide +kernel
theorem d_H_level_1 : decode b_H_level 1 = .ok (.getfield 19, 3) := by decide +kernel
theorem d_H_level_4 : decode b_H_level 4 = .ok (.iload_n 1, 1) := by decide +kernel
theorem d_H_level_5 : decode b_H_level 5 = .ok (.invokevirtual 81, 3) := by decide +kernel
theorem d_H_level_8 : decode b_H_level 8 = .ok (.ifCond .ne 7, 3) := by decide +kernel
theorem d_H_level_11 : decode b_H_level 11 = .ok (.sipush (-1001), 3) := by decide +kernel
theorem d_H_level_14 : decode b_H_level 14 = .ok (.ireturn, 1) := by decide +kernel
theorem d_H_level_15 : decode b_H_level 15 = .ok (.aload_n 0, 1) := by decide +kernel
theorem d_H_level_16 : decode b_H_level 16 = .ok (.getfield 19, 3) := by decide +kernel
theorem d_H_level_19 : decode b_H_level 19 = .ok (.iload_n 1, 1) := by decide +kernel
theorem d_H_level_20 : decode b_H_level 20 = .ok (.invokevirtual 95, 3) := by decide +kernel
theorem d_H_level_23 : decode b_H_level 23 = .ok (.ifCond .eq 15, 3) := by decide +kernel
theorem d_H_level_26 : decode b_H_level 26 = .ok (.aload_n 0, 1) := by decide +kernel
theorem d_H_level_27 : decode b_H_level 27 = .ok (.getfield 19, 3) := by decide +kernel
theorem d_H_level_30 : decode b_H_level 30 = .ok (.iload_n 1, 1) := by decide +kernel
theorem d_H_level_31 : decode b_H_level 31 = .ok (.iload_n 2, 1) := by decide +kernel
theorem d_H_level_32 : decode b_H_level 32 = .ok (.invokevirtual 173, 3) := by decide +kernel
theorem d_H_level_35 : decode b_H_level 35 = .ok (.ifCond .ne 7, 3) := by decide +kernel
theorem d_H_level_38 : decode b_H_level 38 = .ok (.sipush (-1003), 3) := by decide +kernel
theorem d_H_level_41 : decode b_H_level 41 = .ok (.ireturn, 1) := by decide +kernel
theorem d_H_level_42 : decode b_H_level 42 = .ok (.aload_n 0, 1) := by decide +kernel
theorem d_H_level_43 : decode b_H_level 43 = .ok (.getfield 33, 3) := by decide +kernel
theorem d_H_level_46 : decode b_H_level 46 = .ok (.aload_n 0, 1) := by decide +kernel
theorem d_H_level_47 : decode b_H_level 47 = .ok (.getfield 19, 3) := by decide +kernel
theorem d_H_level_50 : decode b_H_level 50 = .ok (.aload_n 0, 1) := by decide +kernel
theorem d_H_level_51 : decode b_H_level 51 = .ok (.getfield 26, 3) := by decide +kernel
theorem d_H_level_54 : decode b_H_level 54 = .ok (.invokevirtual 134, 3) := by decide +kernel
theorem d_H_level_57 : decode b_H_level 57 = .ok (.aload_n 0, 1) := by decide +kernel
theorem d_H_level_58 : decode b_H_level 58 = .ok (.getfield 33, 3) := by decide +kernel
theorem d_H_level_61 : decode b_H_level 61 = .ok (.iload_n 1, 1) := by decide +kernel
theorem d_H_level_62 : decode b_H_level 62 = .ok (.iload_n 2, 1) := by decide +kernel
theorem d_H_level_63 : decode b_H_level 63 = .ok (.invokevirtual 162, 3) := by decide +kernel
theorem d_H_level_66 : decode b_H_level 66 = .ok (.ireturn, 1) := by decide +kernel
theorem d_H_clash_0 : decode b_H_clash 0 = .ok (.iload_n 1, 1) := by decide +kernel
theorem d_H_clash_1 : decode b_H_clash 1 = .ok (.iconst 2, 1) := by decide +kernel
theorem d_H_clash_2 : decode b_H_clash 2 = .ok (.invokestatic 55, 3) := by decide +kernel
theorem d_H_clash_5 : decode b_H_clash 5 = .ok (.ifCond .eq 7, 3) := by decide +kernel
theorem d_H_clash_8 : decode b_H_clash 8 = .ok (.sipush (-1002), 3) := by decide +kernel
theorem d_H_clash_11 : decode b_H_clash 11 = .ok (.ireturn, 1) := by decide +kernel
theorem d_H_clash_12 : decode b_H_clash 12 = .ok (.aload_n 0, 1) := by decide +kernel
theorem d_H_clash_13 : decode b_H_clash 13 = .ok (.getfield 33, 3) := by decide +kernel
theorem d_H_clash_16 : decode b_H_clash 16 = .ok (.aload_n 0, 1) := by decide +kernel
theorem d_H_clash_17 : decode b_H_clash 17 = .ok (.getfield 19, 3) := by decide +kernel
theorem d_H_clash_20 : decode b_H_clash 20 = .ok (.aload_n 0, 1) := by decide +kernel
theorem d_H_clash_21 : decode b_H_clash 21 = .ok (.getfield 26, 3) := by decide +kernel
theorem d_H_clash_24 : decode b_H_clash 24 = .ok (.invokevirtual 134, 3) := by decide +kernel
theorem d_H_clash_27 : decode b_H_clash 27 = .ok (.aload_n 0, 1) := by decide +kernel
theorem d_H_clash_28 : decode b_H_clash 28 = .ok (.getfield 40, 3) := by decide +kernel
theorem d_H_clash_31 : decode b_H_clash 31 = .ok (.aload_n 0, 1) := by decide +kernel
theorem d_H_clash_32 : decode b_H_clash 32 = .ok (.getfield 19, 3) := by decide +kernel
theorem d_H_clash_35 : decode b_H_clash 35 = .ok (.aload_n 0, 1) := by decide +kernel
theorem d_H_clash_36 : decode b_H_clash 36 = .ok (.getfield 33, 3) := by decide +kernel
theorem d_H_clash_39 : decode b_H_clash 39 = .ok (.aload_n 0, 1) := by decide +kernel
theorem d_H_clash_40 : decode b_H_clash 40 = .ok (.getfield 26, 3) := by decide +kernel
theorem d_H_clash_43 : decode b_H_clash 43 = .ok (.invokevirtual 179, 3) := by decide +kernel
theorem d_H_clash_46 : decode b_H_clash 46 = .ok (.invokevirtual 182, 3) := by decide +kernel
theorem d_H_clash_49 : decode b_H_clash 49 = .ok (.iload_n 1, 1) := by decide +kernel
theorem d_H_clash_50 : decode b_H_clash 50 = .ok (.lookupswitch 42 #[(0, 26), (1, 34)], 26) := by decide +kernel
theorem d_H_clash_76 : decode b_H_clash 76 = .ok (.aload_n 0, 1) := by decide +kernel
theorem d_H_clash_77 : decode b_H_clash 77 = .ok (.getfield 40, 3) := by decide +kernel
theorem d_H_clash_80 : decode b_H_clash 80 = .ok (.invokevirtual 186, 3) := by decide +kernel
theorem d_H_clash_83 : decode b_H_clash 83 = .ok (.ireturn, 1) := by decide +kernel
theorem d_H_clash_84 : decode b_H_clash 84 = .ok (.aload_n 0, 1) := by decide +kernel
theorem d_H_clash_85 : decode b_H_clash 85 = .ok (.getfield 40, 3) := by decide +kernel
theorem d_H_clash_88 : decode b_H_clash 88 = .ok (.invokevirtual 189, 3) := by decide +kernel
theorem d_H_clash_91 : decode b_H_clash 91 = .ok (.ireturn, 1) := by decide +kernel
theorem d_H_clash_92 : decode b_H_clash 92 = .ok (.aload_n 0, 1) := by decide +kernel
theorem d_H_clash_93 : decode b_H_clash 93 = .ok (.getfield 40, 3) := by decide +kernel
theorem d_H_clash_96 : decode b_H_clash 96 = .ok (.invokevirtual 192, 3) := by decide +kernel
theorem d_H_clash_99 : decode b_H_clash 99 = .ok (.ireturn, 1) := by decide +kernel
theorem d_H_count_0 : decode b_H_count 0 = .ok (.iload_n 1, 1) := by decide +kernel
theorem d_H_count_1 : decode b_H_count 1 = .ok (.bipush 8, 2) := by decide +kernel
theorem d_H_count_3 : decode b_H_count 3 = .ok (.invokestatic 55, 3) := by decide +kernel
theorem d_H_count_6 : decode b_H_count 6 = .ok (.ifCond .eq 7, 3) := by decide +kernel
theorem d_H_count_9 : decode b_H_count 9 = .ok (.sipush (-1002), 3) := by decide +kernel
theorem d_H_count_12 : decode b_H_count 12 = .ok (.ireturn, 1) := by decide +kernel
theorem d_H_count_13 : decode b_H_count 13 = .ok (.aload_n 0, 1) := by decide +kernel
theorem d_H_count_14 : decode b_H_count 14 = .ok (.getfield 33, 3) := by decide +kernel
theorem d_H_count_17 : decode b_H_count 17 = .ok (.aload_n 0, 1) := by decide +kernel
theorem d_H_count_18 : decode b_H_count 18 = .ok (.getfield 19, 3) := by decide +kernel
theorem d_H_count_21 : decode b_H_count 21 = .ok (.aload_n 0, 1) := by decide +kernel
theorem d_H_count_22 : decode b_H_count 22 = .ok (.getfield 26, 3) := by decide +kernel
theorem d_H_count_25 : decode b_H_count 25 = .ok (.invokevirtual 134, 3) := by decide +kernel
theorem d_H_count_28 : decode b_H_count 28 = .ok (.iload_n 1, 1) := by decide +kernel
theorem d_H_count_29 : decode b_H_count 29 = .ok (.tableswitch 146 0 7 #[47, 55, 63, 76, 84, 100, 130, 138], 47) := by decide +kernel
theorem d_H_count_76 : decode b_H_count 76 = .ok (.aload_n 0, 1) := by decide +kernel
theorem d_H_count_77 : decode b_H_count 77 = .ok (.getfield 19, 3) := by decide +kernel
theorem d_H_count_80 : decode b_H_count 80 = .ok (.invokevirtual 109, 3) := by decide +kernel
theorem d_H_count_83 : decode b_H_count 83 = .ok (.ireturn, 1) := by decide +kernel
theorem d_H_count_84 : decode b_H_count 84 = .ok (.aload_n 0, 1) := by decide +kernel
theorem d_H_count_85 : decode b_H_count 85 = .ok (.getfield 19, 3) := by decide +kernel
theorem d_H_count_88 : decode b_H_count 88 = .ok (.invokevirtual 195, 3) := by decide +kernel
theorem d_H_count_91 : decode b_H_count 91 = .ok (.ireturn, 1) := by decide +kernel
theorem d_H_count_92 : decode b_H_count 92 = .ok (.aload_n 0, 1) := by decide +kernel
theorem d_H_count_93 : decode b_H_count 93 = .ok (.getfield 33, 3) := by decide +kernel
theorem d_H_count_96 : decode b_H_count 96 = .ok (.aload_n 0, 1) := by decide +kernel
theorem d_H_count_97 : decode b_H_count 97 = .ok (.getfield 19, 3) := by decide +kernel
theorem d_H_count_100 : decode b_H_count 100 = .ok (.iconst (-1), 1) := by decide +kernel
theorem d_H_count_101 : decode b_H_count 101 = .ok (.invokevirtual 198, 3) := by decide +kernel
theorem d_H_count_104 : decode b_H_count 104 = .ok (.ireturn, 1) := by decide +kernel
theorem d_H_count_105 : decode b_H_count 105 = .ok (.aload_n 0, 1) := by decide +kernel
theorem d_H_count_106 : decode b_H_count 106 = .ok (.getfield 19, 3) := by decide +kernel
theorem d_H_count_109 : decode b_H_count 109 = .ok (.invokevirtual 201, 3) := by decide +kernel
theorem d_H_count_112 : decode b_H_count 112 = .ok (.ireturn, 1) := by decide +kernel
theorem d_H_count_113 : decode b_H_count 113 = .ok (.aload_n 0, 1) := by decide +kernel
theorem d_H_count_114 : decode b_H_count 114 = .ok (.getfield 33, 3) := by decide +kernel
theorem d_H_count_117 : decode b_H_count 117 = .ok (.aload_n 0, 1) := by decide +kernel
theorem d_H_count_118 : decode b_H_count 118 = .ok (.getfield 19, 3) := by decide +kernel
theorem d_H_count_121 : decode b_H_count 121 = .ok (.aload_n 0, 1) := by decide +kernel
theorem d_H_count_122 : decode b_H_count 122 = .ok (.getfield 26, 3) := by decide +kernel
theorem d_H_count_125 : decode b_H_count 125 = .ok (.invokevirtual 204, 3) := by decide +kernel
theorem d_H_count_128 : decode b_H_count 128 = .ok (.ireturn, 1) := by decide +kernel
theorem d_H_count_129 : decode b_H_count 129 = .ok (.aload_n 0, 1) := by decide +kernel
theorem d_H_count_130 : decode b_H_count 130 = .ok (.getfield 40, 3) := by decide +kernel
theorem d_H_count_133 : decode b_H_count 133 = .ok (.aload_n 0, 1) := by decide +kernel
theorem d_H_count_134 : decode b_H_count 134 = .ok (.getfield 19, 3) := by decide +kernel
theorem d_H_count_137 : decode b_H_count 137 = .ok (.aload_n 0, 1) := by decide +kernel
theorem d_H_count_138 : decode b_H_count 138 = .ok (.getfield 33, 3) := by decide +kernel
theorem d_H_count_141 : decode b_H_count 141 = .ok (.aload_n 0, 1) := by decide +kernel
theorem d_H_count_142 : decode b_H_count 142 = .ok (.getfield 26, 3) := by decide +kernel
theorem d_H_count_145 : decode b_H_count 145 = .ok (.invokevirtual 179, 3) := by decide +kernel
theorem d_H_count_148 : decode b_H_count 148 = .ok (.invokevirtual 182, 3) := by decide +kernel
theorem d_H_count_151 : decode b_H_count 151 = .ok (.aload_n 0, 1) := by decide +kernel
theorem d_H_count_152 : decode b_H_count 152 = .ok (.getfield 40, 3) := by decide +kernel
theorem d_H_count_155 : decode b_H_count 155 = .ok (.invokevirtual 208, 3) := by decide +kernel
theorem d_H_count_158 : decode b_H_count 158 = .ok (.ireturn, 1) := by decide +kernel
theorem d_H_count_159 : decode b_H_count 159 = .ok (.aload_n 0, 1) := by decide +kernel
theorem d_H_count_160 : decode b_H_count 160 = .ok (.getfield 19, 3) := by decide +kernel
theorem d_H_count_163 : decode b_H_count 163 = .ok (.invokevirtual 211, 3) := by decide +kernel
theorem d_H_count_166 : decode b_H_count 166 = .ok (.ireturn, 1) := by decide +kernel
theorem d_H_count_167 : decode b_H_count 167 = .ok (.aload_n 0, 1) := by decide +kernel
theorem d_H_count_168 : decode b_H_count 168 = .ok (.getfield 19, 3) := by decide +kernel
theorem d_H_count_171 : decode b_H_count 171 = .ok (.invokevirtual 214, 3) := by decide +kernel
theorem d_H_count_174 : decode b_H_count 174 = .ok (.ireturn, 1) := by decide +kernel
theorem d_H_count_175 : decode b_H_count 175 = .ok (.aload_n 0, 1) := by decide +kernel
theorem d_H_count_176 : decode b_H_count 176 = .ok (.getfield 33, 3) := by decide +kernel
theorem d_H_count_179 : decode b_H_count 179 = .ok (.aload_n 0, 1) := by decide +kernel
theorem d_H_count_180 : decode b_H_count 180 = .ok (.getfield 19, 3) := by decide +kernel
theorem d_H_count_183 : decode b_H_count 183 = .ok (.invokevirtual 217, 3) := by decide +kernel
theorem d_H_count_186 : decode b_H_count 186 = .ok (.ireturn, 1) := by decide +kernel
theorem d_H_bars_0 : decode b_H_bars 0 = .ok (.iload_n 1, 1) := by decide +kernel
theorem d_H_bars_1 : decode b_H_bars 1 = .ok (.iconst 5, 1) := by decide +kernel
theorem d_H_bars_2 : decode b_H_bars 2 = .ok (.invokestatic 55, 3) := by decide +kernel
theorem d_H_bars_5 : decode b_H_bars 5 = .ok (.ifCond .ne 11, 3) := by decide +kernel
theorem d_H_bars_8 : decode b_H_bars 8 = .ok (.iload_n 2, 1) := by decide +kernel
theorem d_H_bars_9 : decode b_H_bars 9 = .ok (.iconst 3, 1) := by decide +kernel
theorem d_H_bars_10 : decode b_H_bars 10 = .ok (.invokestatic 55, 3) := by decide +kernel
theorem d_H_bars_13 : decode b_H_bars 13 = .ok (.ifCond .eq 7, 3) := by decide +kernel
theorem d_H_bars_16 : decode b_H_bars 16 = .ok (.sipush (-1002), 3) := by decide +kernel
theorem d_H_bars_19 : decode b_H_bars 19 = .ok (.ireturn, 1) := by decide +kernel
theorem d_H_bars_20 : decode b_H_bars 20 = .ok (.aload_n 0, 1) := by decide +kernel
theorem d_H_bars_21 : decode b_H_bars 21 = .ok (.getfield 33, 3) := by decide +kernel
theorem d_H_bars_24 : decode b_H_bars 24 = .ok (.aload_n 0, 1) := by decide +kernel
theorem d_H_bars_25 : decode b_H_bars 25 = .ok (.getfield 19, 3) := by decide +kernel
theorem d_H_bars_28 : decode b_H_bars 28 = .ok (.aload_n 0, 1) := by decide +kernel
theorem d_H_bars_29 : decode b_H_bars 29 = .ok (.getfield 26, 3) := by decide +kernel
theorem d_H_bars_32 : decode b_H_bars 32 = .ok (.invokevirtual 134, 3) := by decide +kernel
theorem d_H_bars_35 : decode b_H_bars 35 = .ok (.iload_n 2, 1) := by decide +kernel
theorem d_H_bars_36 : decode b_H_bars 36 = .ok (.iconst 3, 1) := by decide +kernel
theorem d_H_bars_37 : decode b_H_bars 37 = .ok (.if_icmp .ne 16, 3) := by decide +kernel
theorem d_H_bars_40 : decode b_H_bars 40 = .ok (.aload_n 0, 1) := by decide +kernel
theorem d_H_bars_41 : decode b_H_bars 41 = .ok (.getfield 33, 3) := by decide +kernel
theorem d_H_bars_44 : decode b_H_bars 44 = .ok (.aload_n 0, 1) := by decide +kernel
theorem d_H_bars_45 : decode b_H_bars 45 = .ok (.getfield 19, 3) := by decide +kernel
theorem d_H_bars_48 : decode b_H_bars 48 = .ok (.iload_n 1, 1) := by decide +kernel
theorem d_H_bars_49 : decode b_H_bars 49 = .ok (.invokevirtual 198, 3) := by decide +kernel
theorem d_H_bars_52 : decode b_H_bars 52 = .ok (.ireturn, 1) := by decide +kernel
theorem d_H_bars_53 : decode b_H_bars 53 = .ok (.aload_n 0, 1) := by decide +kernel
theorem d_H_bars_54 : decode b_H_bars 54 = .ok (.getfield 47, 3) := by decide +kernel
theorem d_H_bars_57 : decode b_H_bars 57 = .ok (.aload_n 0, 1) := by decide +kernel
theorem d_H_bars_58 : decode b_H_bars 58 = .ok (.getfield 19, 3) := by decide +kernel
theorem d_H_bars_61 : decode b_H_bars 61 = .ok (.aload_n 0, 1) := by decide +kernel
theorem d_H_bars_62 : decode b_H_bars 62 = .ok (.getfield 33, 3) := by decide +kernel
theorem d_H_bars_65 : decode b_H_bars 65 = .ok (.iload_n 1, 1) := by decide +kernel
theorem d_H_bars_66 : decode b_H_bars 66 = .ok (.aload_n 0, 1) := by decide +kernel
theorem d_H_bars_67 : decode b_H_bars 67 = .ok (.getfield 26, 3) := by decide +kernel
theorem d_H_bars_70 : decode b_H_bars 70 = .ok (.invokevirtual 221, 3) := by decide +kernel
theorem d_H_bars_73 : decode b_H_bars 73 = .ok (.invokevirtual 224, 3) := by decide +kernel
theorem d_H_bars_76 : decode b_H_bars 76 = .ok (.iload_n 2, 1) := by decide +kernel
theorem d_H_bars_77 : decode b_H_bars 77 = .ok (.ifCond .ne 11, 3) := by decide +kernel
theorem d_H_bars_80 : decode b_H_bars 80 = .ok (.aload_n 0, 1) := by decide +kernel
theorem d_H_bars_81 : decode b_H_bars 81 = .ok (.getfield 47, 3) := by decide +kernel
theorem d_H_bars_84 : decode b_H_bars 84 = .ok (.invokevirtual 228, 3) := by decide +kernel
theorem d_H_bars_87 : decode b_H_bars 87 = .ok (.ireturn, 1) := by decide +kernel
theorem d_H_bars_88 : decode b_H_bars 88 = .ok (.aload_n 0, 1) := by decide +kernel
theorem d_H_bars_89 : decode b_H_bars 89 = .ok (.getfield 47, 3) := by decide +kernel
theorem d_H_bars_92 : decode b_H_bars 92 = .ok (.invokevirtual 231, 3) := by decide +kernel
theorem d_H_bars_95 : decode b_H_bars 95 = .ok (.ifCond .eq 7, 3) := by decide +kernel
theorem d_H_bars_98 : decode b_H_bars 98 = .ok (.sipush (-1003), 3) := by decide +kernel
theorem d_H_bars_101 : decode b_H_bars 101 = .ok (.ireturn, 1) := by decide +kernel
theorem d_H_bars_102 : decode b_H_bars 102 = .ok (.iload_n 2, 1) := by decide +kernel
theorem d_H_bars_103 : decode b_H_bars 103 = .ok (.iconst 1, 1) := by decide +kernel
theorem d_H_bars_104 : decode b_H_bars 104 = .ok (.if_icmp .ne 13, 3) := by decide +kernel
theorem d_H_bars_107 : decode b_H_bars 107 = .ok (.aload_n 0, 1) := by decide +kernel
theorem d_H_bars_108 : decode b_H_bars 108 = .ok (.getfield 47, 3) := by decide +kernel
theorem d_H_bars_111 : decode b_H_bars 111 = .ok (.invokevirtual 234, 3) := by decide +kernel
theorem d_H_bars_114 : decode b_H_bars 114 = .ok (.goto 10, 3) := by decide +kernel
theorem d_H_bars_117 : decode b_H_bars 117 = .ok (.aload_n 0, 1) := by decide +kernel
theorem d_H_bars_118 : decode b_H_bars 118 = .ok (.getfield 47, 3) := by decide +kernel
theorem d_H_bars_121 : decode b_H_bars 121 = .ok (.invokevirtual 237, 3) := by decide +kernel
theorem d_H_bars_124 : decode b_H_bars 124 = .ok (.ireturn, 1) := by decide +kernel
theorem d_H_isOutside_0 : decode b_H_isOutside 0 = .ok (.iload_n 0, 1) := by decide +kernel
theorem d_H_isOutside_1 : decode b_H_isOutside 1 = .ok (.ifCond .lt 8, 3) := by decide +kernel
theorem d_H_isOutside_4 : decode b_H_isOutside 4 = .ok (.iload_n 0, 1) := by decide +kernel
theorem d_H_isOutside_5 : decode b_H_isOutside 5 = .ok (.iload_n 1, 1) := by decide +kernel
theorem d_H_isOutside_6 : decode b_H_isOutside 6 = .ok (.if_icmp .le 7, 3) := by decide +kernel
theorem d_H_isOutside_9 : decode b_H_isOutside 9 = .ok (.iconst 1, 1) := by decide +kernel
theorem d_H_isOutside_10 : decode b_H_isOutside 10 = .ok (.goto 4, 3) := by decide +kernel
theorem d_H_isOutside_13 : decode b_H_isOutside 13 = .ok (.iconst 0, 1) := by decide +kernel
theorem d_H_isOutside_14 : decode b_H_isOutside 14 = .ok (.ireturn, 1) := by decide +kernel
theorem d_H_truth_0 : decode b_H_truth 0 = .ok (.iload_n 0, 1) := by decide +kernel
theorem d_H_truth_1 : decode b_H_truth 1 = .ok (.ifCond .eq 7, 3) := by decide +kernel
theorem d_H_truth_4 : decode b_H_truth 4 = .ok (.iconst 1, 1) := by decide +kernel
theorem d_H_truth_5 : decode b_H_truth 5 = .ok (.goto 4, 3) := by decide +kernel
theorem d_H_truth_8 : decode b_H_truth 8 = .ok (.iconst 0, 1) := by decide +kernel
theorem d_H_truth_9 : decode b_H_truth 9 = .ok (.ireturn, 1) := by decide +kernel
theorem d_A_fill_0 : decode b_A_fill 0 = .ok (.iconst 0, 1) := by decide +kernel
theorem d_A_fill_1 : decode b_A_fill 1 = .ok (.istore_n 2, 1) := by decide +kernel
theorem d_A_fill_2 : decode b_A_fill 2 = .ok (.aload_n 0, 1) := by decide +kernel
theorem d_A_fill_3 : decode b_A_fill 3 = .ok (.arraylength, 1) := by decide +kernel
theorem d_A_fill_4 : decode b_A_fill 4 = .ok (.istore_n 3, 1) := by decide +kernel
theorem d_A_fill_5 : decode b_A_fill 5 = .ok (.iload_n 2, 1) := by decide +kernel
theorem d_A_fill_6 : decode b_A_fill 6 = .ok (.iload_n 3, 1) := by decide +kernel
theorem d_A_fill_7 : decode b_A_fill 7 = .ok (.if_icmp .ge 13, 3) := by decide +kernel
theorem d_A_fill_10 : decode b_A_fill 10 = .ok (.aload_n 0, 1) := by decide +kernel
theorem d_A_fill_11 : decode b_A_fill 11 = .ok (.iload_n 2, 1) := by decide +kernel
theorem d_A_fill_12 : decode b_A_fill 12 = .ok (.iload_n 1, 1) := by decide +kernel
theorem d_A_fill_13 : decode b_A_fill 13 = .ok (.iastore, 1) := by decide +kernel
theorem d_A_fill_14 : decode b_A_fill 14 = .ok (.iinc 2 1, 3) := by decide +kernel
theorem d_A_fill_17 : decode b_A_fill 17 = .ok (.goto (-12), 3) := by decide +kernel
theorem d_A_fill_20 : decode b_A_fill 20 = .ok (.return_, 1) := by decide +kernel
