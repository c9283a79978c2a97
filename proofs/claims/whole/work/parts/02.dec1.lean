theorem dX0_init_0 : decode cX0_init 0 = .ok (.aload_n 0, 1) := by decide +kernel
theorem dX0_init_1 : decode cX0_init 1 = .ok (.invokespecial 3, 3) := by decide +kernel
theorem dX0_init_4 : decode cX0_init 4 = .ok (.aload_n 0, 1) := by decide +kernel
theorem dX0_init_5 : decode cX0_init 5 = .ok (.aload_n 1, 1) := by decide +kernel
theorem dX0_init_6 : decode cX0_init 6 = .ok (.putfield 9, 3) := by decide +kernel
theorem dX0_init_9 : decode cX0_init 9 = .ok (.aload_n 0, 1) := by decide +kernel
theorem dX0_init_10 : decode cX0_init 10 = .ok (.aload_n 2, 1) := by decide +kernel
theorem dX0_init_11 : decode cX0_init 11 = .ok (.putfield 15, 3) := by decide +kernel
theorem dX0_init_14 : decode cX0_init 14 = .ok (.aload_n 0, 1) := by decide +kernel
theorem dX0_init_15 : decode cX0_init 15 = .ok (.iconst (-1), 1) := by decide +kernel
theorem dX0_init_16 : decode cX0_init 16 = .ok (.putfield 18, 3) := by decide +kernel
theorem dX0_init_19 : decode cX0_init 19 = .ok (.return_, 1) := by decide +kernel
theorem dX0_chooseBest_0 : decode cX0_chooseBest 0 = .ok (.aload_n 0, 1) := by decide +kernel
theorem dX0_chooseBest_1 : decode cX0_chooseBest 1 = .ok (.iconst (-1), 1) := by decide +kernel
theorem dX0_chooseBest_2 : decode cX0_chooseBest 2 = .ok (.putfield 18, 3) := by decide +kernel
theorem dX0_chooseBest_5 : decode cX0_chooseBest 5 = .ok (.iconst 0, 1) := by decide +kernel
theorem dX0_chooseBest_6 : decode cX0_chooseBest 6 = .ok (.istore_n 2, 1) := by decide +kernel
theorem dX0_chooseBest_7 : decode cX0_chooseBest 7 = .ok (.iload_n 2, 1) := by decide +kernel
theorem dX0_chooseBest_8 : decode cX0_chooseBest 8 = .ok (.sipush 216, 3) := by decide +kernel
theorem dX0_chooseBest_11 : decode cX0_chooseBest 11 = .ok (.if_icmp .ge 49, 3) := by decide +kernel
theorem dX0_chooseBest_14 : decode cX0_chooseBest 14 = .ok (.aload_n 0, 1) := by decide +kernel
theorem dX0_chooseBest_15 : decode cX0_chooseBest 15 = .ok (.aload_n 1, 1) := by decide +kernel
theorem dX0_chooseBest_16 : decode cX0_chooseBest 16 = .ok (.iload_n 2, 1) := by decide +kernel
theorem dX0_chooseBest_17 : decode cX0_chooseBest 17 = .ok (.invokevirtual 22, 3) := by decide +kernel
theorem dX0_chooseBest_20 : decode cX0_chooseBest 20 = .ok (.aload_n 0, 1) := by decide +kernel
theorem dX0_chooseBest_21 : decode cX0_chooseBest 21 = .ok (.getfield 18, 3) := by decide +kernel
theorem dX0_chooseBest_24 : decode cX0_chooseBest 24 = .ok (.iconst (-1), 1) := by decide +kernel
theorem dX0_chooseBest_25 : decode cX0_chooseBest 25 = .ok (.if_icmp .eq 17, 3) := by decide +kernel
theorem dX0_chooseBest_28 : decode cX0_chooseBest 28 = .ok (.aload_n 0, 1) := by decide +kernel
theorem dX0_chooseBest_29 : decode cX0_chooseBest 29 = .ok (.getfield 9, 3) := by decide +kernel
theorem dX0_chooseBest_32 : decode cX0_chooseBest 32 = .ok (.getfield 26, 3) := by decide +kernel
theorem dX0_chooseBest_35 : decode cX0_chooseBest 35 = .ok (.aload_n 0, 1) := by decide +kernel
theorem dX0_chooseBest_36 : decode cX0_chooseBest 36 = .ok (.getfield 31, 3) := by decide +kernel
theorem dX0_chooseBest_39 : decode cX0_chooseBest 39 = .ok (.if_icmp .le 15, 3) := by decide +kernel
theorem dX0_chooseBest_42 : decode cX0_chooseBest 42 = .ok (.aload_n 0, 1) := by decide +kernel
theorem dX0_chooseBest_43 : decode cX0_chooseBest 43 = .ok (.iload_n 2, 1) := by decide +kernel
theorem dX0_chooseBest_44 : decode cX0_chooseBest 44 = .ok (.aload_n 0, 1) := by decide +kernel
theorem dX0_chooseBest_45 : decode cX0_chooseBest 45 = .ok (.getfield 9, 3) := by decide +kernel
theorem dX0_chooseBest_48 : decode cX0_chooseBest 48 = .ok (.getfield 26, 3) := by decide +kernel
theorem dX0_chooseBest_51 : decode cX0_chooseBest 51 = .ok (.invokevirtual 34, 3) := by decide +kernel
theorem dX0_chooseBest_54 : decode cX0_chooseBest 54 = .ok (.iinc 2 1, 3) := by decide +kernel
theorem dX0_chooseBest_57 : decode cX0_chooseBest 57 = .ok (.goto (-50), 3) := by decide +kernel
theorem dX0_chooseBest_60 : decode cX0_chooseBest 60 = .ok (.return_, 1) := by decide +kernel
theorem dX0_choosePlan_0 : decode cX0_choosePlan 0 = .ok (.aload_n 0, 1) := by decide +kernel
theorem dX0_choosePlan_1 : decode cX0_choosePlan 1 = .ok (.iconst (-1), 1) := by decide +kernel
theorem dX0_choosePlan_2 : decode cX0_choosePlan 2 = .ok (.putfield 18, 3) := by decide +kernel
theorem dX0_choosePlan_5 : decode cX0_choosePlan 5 = .ok (.iconst 0, 1) := by decide +kernel
theorem dX0_choosePlan_6 : decode cX0_choosePlan 6 = .ok (.istore_n 2, 1) := by decide +kernel
theorem dX0_choosePlan_7 : decode cX0_choosePlan 7 = .ok (.iload_n 2, 1) := by decide +kernel
theorem dX0_choosePlan_8 : decode cX0_choosePlan 8 = .ok (.sipush 216, 3) := by decide +kernel
theorem dX0_choosePlan_11 : decode cX0_choosePlan 11 = .ok (.if_icmp .ge 50, 3) := by decide +kernel
theorem dX0_choosePlan_14 : decode cX0_choosePlan 14 = .ok (.aload_n 0, 1) := by decide +kernel
theorem dX0_choosePlan_15 : decode cX0_choosePlan 15 = .ok (.aload_n 1, 1) := by decide +kernel
theorem dX0_choosePlan_16 : decode cX0_choosePlan 16 = .ok (.iload_n 2, 1) := by decide +kernel
theorem dX0_choosePlan_17 : decode cX0_choosePlan 17 = .ok (.invokevirtual 22, 3) := by decide +kernel
theorem dX0_choosePlan_20 : decode cX0_choosePlan 20 = .ok (.aload_n 0, 1) := by decide +kernel
theorem dX0_choosePlan_21 : decode cX0_choosePlan 21 = .ok (.getfield 9, 3) := by decide +kernel
theorem dX0_choosePlan_24 : decode cX0_choosePlan 24 = .ok (.getfield 26, 3) := by decide +kernel
theorem dX0_choosePlan_27 : decode cX0_choosePlan 27 = .ok (.aload_n 0, 1) := by decide +kernel
theorem dX0_choosePlan_28 : decode cX0_choosePlan 28 = .ok (.invokevirtual 38, 3) := by decide +kernel
theorem dX0_choosePlan_31 : decode cX0_choosePlan 31 = .ok (.iadd, 1) := by decide +kernel
theorem dX0_choosePlan_32 : decode cX0_choosePlan 32 = .ok (.istore_n 3, 1) := by decide +kernel
theorem dX0_choosePlan_33 : decode cX0_choosePlan 33 = .ok (.aload_n 0, 1) := by decide +kernel
theorem dX0_choosePlan_34 : decode cX0_choosePlan 34 = .ok (.getfield 18, 3) := by decide +kernel
theorem dX0_choosePlan_37 : decode cX0_choosePlan 37 = .ok (.iconst (-1), 1) := by decide +kernel
theorem dX0_choosePlan_38 : decode cX0_choosePlan 38 = .ok (.if_icmp .eq 11, 3) := by decide +kernel
theorem dX0_choosePlan_41 : decode cX0_choosePlan 41 = .ok (.iload_n 3, 1) := by decide +kernel
theorem dX0_choosePlan_42 : decode cX0_choosePlan 42 = .ok (.aload_n 0, 1) := by decide +kernel
theorem dX0_choosePlan_43 : decode cX0_choosePlan 43 = .ok (.getfield 31, 3) := by decide +kernel
theorem dX0_choosePlan_46 : decode cX0_choosePlan 46 = .ok (.if_icmp .le 9, 3) := by decide +kernel
theorem dX0_choosePlan_49 : decode cX0_choosePlan 49 = .ok (.aload_n 0, 1) := by decide +kernel
theorem dX0_choosePlan_50 : decode cX0_choosePlan 50 = .ok (.iload_n 2, 1) := by decide +kernel
theorem dX0_choosePlan_51 : decode cX0_choosePlan 51 = .ok (.iload_n 3, 1) := by decide +kernel
theorem dX0_choosePlan_52 : decode cX0_choosePlan 52 = .ok (.invokevirtual 34, 3) := by decide +kernel
theorem dX0_choosePlan_55 : decode cX0_choosePlan 55 = .ok (.iinc 2 1, 3) := by decide +kernel
theorem dX0_choosePlan_58 : decode cX0_choosePlan 58 = .ok (.goto (-51), 3) := by decide +kernel
theorem dX0_choosePlan_61 : decode cX0_choosePlan 61 = .ok (.return_, 1) := by decide +kernel
theorem dX0_chooseSafe_0 : decode cX0_chooseSafe 0 = .ok (.aload_n 0, 1) := by decide +kernel
theorem dX0_chooseSafe_1 : decode cX0_chooseSafe 1 = .ok (.iconst (-1), 1) := by decide +kernel
theorem dX0_chooseSafe_2 : decode cX0_chooseSafe 2 = .ok (.putfield 18, 3) := by decide +kernel
theorem dX0_chooseSafe_5 : decode cX0_chooseSafe 5 = .ok (.iconst 0, 1) := by decide +kernel
theorem dX0_chooseSafe_6 : decode cX0_chooseSafe 6 = .ok (.istore_n 2, 1) := by decide +kernel
theorem dX0_chooseSafe_7 : decode cX0_chooseSafe 7 = .ok (.iload_n 2, 1) := by decide +kernel
theorem dX0_chooseSafe_8 : decode cX0_chooseSafe 8 = .ok (.sipush 216, 3) := by decide +kernel
theorem dX0_chooseSafe_11 : decode cX0_chooseSafe 11 = .ok (.if_icmp .ge 55, 3) := by decide +kernel
theorem dX0_chooseSafe_14 : decode cX0_chooseSafe 14 = .ok (.aload_n 0, 1) := by decide +kernel
theorem dX0_chooseSafe_15 : decode cX0_chooseSafe 15 = .ok (.aload_n 1, 1) := by decide +kernel
theorem dX0_chooseSafe_16 : decode cX0_chooseSafe 16 = .ok (.iload_n 2, 1) := by decide +kernel
theorem dX0_chooseSafe_17 : decode cX0_chooseSafe 17 = .ok (.invokevirtual 22, 3) := by decide +kernel
theorem dX0_chooseSafe_20 : decode cX0_chooseSafe 20 = .ok (.aload_n 0, 1) := by decide +kernel
theorem dX0_chooseSafe_21 : decode cX0_chooseSafe 21 = .ok (.getfield 9, 3) := by decide +kernel
theorem dX0_chooseSafe_24 : decode cX0_chooseSafe 24 = .ok (.getfield 42, 3) := by decide +kernel
theorem dX0_chooseSafe_27 : decode cX0_chooseSafe 27 = .ok (.ifCond .eq 6, 3) := by decide +kernel
theorem dX0_chooseSafe_30 : decode cX0_chooseSafe 30 = .ok (.goto 30, 3) := by decide +kernel
theorem dX0_chooseSafe_33 : decode cX0_chooseSafe 33 = .ok (.aload_n 0, 1) := by decide +kernel
theorem dX0_chooseSafe_34 : decode cX0_chooseSafe 34 = .ok (.invokevirtual 38, 3) := by decide +kernel
theorem dX0_chooseSafe_37 : decode cX0_chooseSafe 37 = .ok (.istore_n 3, 1) := by decide +kernel
theorem dX0_chooseSafe_38 : decode cX0_chooseSafe 38 = .ok (.aload_n 0, 1) := by decide +kernel
theorem dX0_chooseSafe_39 : decode cX0_chooseSafe 39 = .ok (.getfield 18, 3) := by decide +kernel
theorem dX0_chooseSafe_42 : decode cX0_chooseSafe 42 = .ok (.iconst (-1), 1) := by decide +kernel
theorem dX0_chooseSafe_43 : decode cX0_chooseSafe 43 = .ok (.if_icmp .eq 11, 3) := by decide +kernel
theorem dX0_chooseSafe_46 : decode cX0_chooseSafe 46 = .ok (.iload_n 3, 1) := by decide +kernel
theorem dX0_chooseSafe_47 : decode cX0_chooseSafe 47 = .ok (.aload_n 0, 1) := by decide +kernel
theorem dX0_chooseSafe_48 : decode cX0_chooseSafe 48 = .ok (.getfield 31, 3) := by decide +kernel
theorem dX0_chooseSafe_51 : decode cX0_chooseSafe 51 = .ok (.if_icmp .ge 9, 3) := by decide +kernel
theorem dX0_chooseSafe_54 : decode cX0_chooseSafe 54 = .ok (.aload_n 0, 1) := by decide +kernel
theorem dX0_chooseSafe_55 : decode cX0_chooseSafe 55 = .ok (.iload_n 2, 1) := by decide +kernel
theorem dX0_chooseSafe_56 : decode cX0_chooseSafe 56 = .ok (.iload_n 3, 1) := by decide +kernel
theorem dX0_chooseSafe_57 : decode cX0_chooseSafe 57 = .ok (.invokevirtual 34, 3) := by decide +kernel
theorem dX0_chooseSafe_60 : decode cX0_chooseSafe 60 = .ok (.iinc 2 1, 3) := by decide +kernel
theorem dX0_chooseSafe_63 : decode cX0_chooseSafe 63 = .ok (.goto (-56), 3) := by decide +kernel
theorem dX0_chooseSafe_66 : decode cX0_chooseSafe 66 = .ok (.return_, 1) := by decide +kernel
theorem dX0_tell_0 : decode cX0_tell 0 = .ok (.aload_n 0, 1) := by decide +kernel
theorem dX0_tell_1 : decode cX0_tell 1 = .ok (.getfield 18, 3) := by decide +kernel
theorem dX0_tell_4 : decode cX0_tell 4 = .ok (.iconst (-1), 1) := by decide +kernel
theorem dX0_tell_5 : decode cX0_tell 5 = .ok (.if_icmp .ne 5, 3) := by decide +kernel
theorem dX0_tell_8 : decode cX0_tell 8 = .ok (.iconst (-1), 1) := by decide +kernel
theorem dX0_tell_9 : decode cX0_tell 9 = .ok (.ireturn, 1) := by decide +kernel
theorem dX0_tell_10 : decode cX0_tell 10 = .ok (.iload_n 1, 1) := by decide +kernel
theorem dX0_tell_11 : decode cX0_tell 11 = .ok (.tableswitch 49 0 2 #[25, 33, 41], 25) := by decide +kernel
theorem dX0_tell_36 : decode cX0_tell 36 = .ok (.aload_n 0, 1) := by decide +kernel
theorem dX0_tell_37 : decode cX0_tell 37 = .ok (.getfield 31, 3) := by decide +kernel
theorem dX0_tell_40 : decode cX0_tell 40 = .ok (.bipush 100, 2) := by decide +kernel
theorem dX0_tell_42 : decode cX0_tell 42 = .ok (.iadd, 1) := by decide +kernel
theorem dX0_tell_43 : decode cX0_tell 43 = .ok (.ireturn, 1) := by decide +kernel
theorem dX0_tell_44 : decode cX0_tell 44 = .ok (.aload_n 0, 1) := by decide +kernel
theorem dX0_tell_45 : decode cX0_tell 45 = .ok (.getfield 18, 3) := by decide +kernel
theorem dX0_tell_48 : decode cX0_tell 48 = .ok (.invokestatic 46, 3) := by decide +kernel
theorem dX0_tell_51 : decode cX0_tell 51 = .ok (.ireturn, 1) := by decide +kernel
theorem dX0_tell_52 : decode cX0_tell 52 = .ok (.aload_n 0, 1) := by decide +kernel
theorem dX0_tell_53 : decode cX0_tell 53 = .ok (.getfield 18, 3) := by decide +kernel
theorem dX0_tell_56 : decode cX0_tell 56 = .ok (.invokestatic 50, 3) := by decide +kernel
theorem dX0_tell_59 : decode cX0_tell 59 = .ok (.ireturn, 1) := by decide +kernel
theorem dX0_tell_60 : decode cX0_tell 60 = .ok (.aload_n 0, 1) := by decide +kernel
theorem dX0_tell_61 : decode cX0_tell 61 = .ok (.getfield 18, 3) := by decide +kernel
theorem dX0_tell_64 : decode cX0_tell 64 = .ok (.invokestatic 53, 3) := by decide +kernel
theorem dX0_tell_67 : decode cX0_tell 67 = .ok (.ireturn, 1) := by decide +kernel
theorem dX0_cellsToPotFrom_0 : decode cX0_cellsToPotFrom 0 = .ok (.lconst 0, 1) := by decide +kernel
theorem dX0_cellsToPotFrom_1 : decode cX0_cellsToPotFrom 1 = .ok (.lstore_n 3, 1) := by decide +kernel
theorem dX0_cellsToPotFrom_2 : decode cX0_cellsToPotFrom 2 = .ok (.iconst 0, 1) := by decide +kernel
theorem dX0_cellsToPotFrom_3 : decode cX0_cellsToPotFrom 3 = .ok (.istore 5, 2) := by decide +kernel
theorem dX0_cellsToPotFrom_5 : decode cX0_cellsToPotFrom 5 = .ok (.iload 5, 2) := by decide +kernel
theorem dX0_cellsToPotFrom_7 : decode cX0_cellsToPotFrom 7 = .ok (.bipush 45, 2) := by decide +kernel
theorem dX0_cellsToPotFrom_9 : decode cX0_cellsToPotFrom 9 = .ok (.if_icmp .ge 66, 3) := by decide +kernel
theorem dX0_cellsToPotFrom_12 : decode cX0_cellsToPotFrom 12 = .ok (.aload_n 1, 1) := by decide +kernel
theorem dX0_cellsToPotFrom_13 : decode cX0_cellsToPotFrom 13 = .ok (.iload 5, 2) := by decide +kernel
theorem dX0_cellsToPotFrom_15 : decode cX0_cellsToPotFrom 15 = .ok (.invokevirtual 56, 3) := by decide +kernel
theorem dX0_cellsToPotFrom_18 : decode cX0_cellsToPotFrom 18 = .ok (.istore 6, 2) := by decide +kernel
theorem dX0_cellsToPotFrom_20 : decode cX0_cellsToPotFrom 20 = .ok (.iload 5, 2) := by decide +kernel
theorem dX0_cellsToPotFrom_22 : decode cX0_cellsToPotFrom 22 = .ok (.invokestatic 61, 3) := by decide +kernel
theorem dX0_cellsToPotFrom_25 : decode cX0_cellsToPotFrom 25 = .ok (.ifCond .ne 18, 3) := by decide +kernel
theorem dX0_cellsToPotFrom_28 : decode cX0_cellsToPotFrom 28 = .ok (.iload 6, 2) := by decide +kernel
theorem dX0_cellsToPotFrom_30 : decode cX0_cellsToPotFrom 30 = .ok (.iconst (-1), 1) := by decide +kernel
theorem dX0_cellsToPotFrom_31 : decode cX0_cellsToPotFrom 31 = .ok (.if_icmp .eq 8, 3) := by decide +kernel
theorem dX0_cellsToPotFrom_34 : decode cX0_cellsToPotFrom 34 = .ok (.iload 6, 2) := by decide +kernel
theorem dX0_cellsToPotFrom_36 : decode cX0_cellsToPotFrom 36 = .ok (.ifCond .ne 7, 3) := by decide +kernel
theorem dX0_cellsToPotFrom_39 : decode cX0_cellsToPotFrom 39 = .ok (.iconst 1, 1) := by decide +kernel
theorem dX0_cellsToPotFrom_40 : decode cX0_cellsToPotFrom 40 = .ok (.goto 4, 3) := by decide +kernel
theorem dX0_cellsToPotFrom_43 : decode cX0_cellsToPotFrom 43 = .ok (.iconst 0, 1) := by decide +kernel
theorem dX0_cellsToPotFrom_44 : decode cX0_cellsToPotFrom 44 = .ok (.istore 7, 2) := by decide +kernel
theorem dX0_cellsToPotFrom_46 : decode cX0_cellsToPotFrom 46 = .ok (.iload 7, 2) := by decide +kernel
theorem dX0_cellsToPotFrom_48 : decode cX0_cellsToPotFrom 48 = .ok (.ifCond .eq 21, 3) := by decide +kernel
theorem dX0_cellsToPotFrom_51 : decode cX0_cellsToPotFrom 51 = .ok (.aload_n 0, 1) := by decide +kernel
theorem dX0_cellsToPotFrom_52 : decode cX0_cellsToPotFrom 52 = .ok (.aload_n 1, 1) := by decide +kernel
theorem dX0_cellsToPotFrom_53 : decode cX0_cellsToPotFrom 53 = .ok (.iload_n 2, 1) := by decide +kernel
theorem dX0_cellsToPotFrom_54 : decode cX0_cellsToPotFrom 54 = .ok (.iload 5, 2) := by decide +kernel
theorem dX0_cellsToPotFrom_56 : decode cX0_cellsToPotFrom 56 = .ok (.invokevirtual 65, 3) := by decide +kernel
theorem dX0_cellsToPotFrom_59 : decode cX0_cellsToPotFrom 59 = .ok (.ifCond .eq 10, 3) := by decide +kernel
theorem dX0_cellsToPotFrom_62 : decode cX0_cellsToPotFrom 62 = .ok (.lload_n 3, 1) := by decide +kernel
theorem dX0_cellsToPotFrom_63 : decode cX0_cellsToPotFrom 63 = .ok (.lconst 1, 1) := by decide +kernel
theorem dX0_cellsToPotFrom_64 : decode cX0_cellsToPotFrom 64 = .ok (.iload 5, 2) := by decide +kernel
theorem dX0_cellsToPotFrom_66 : decode cX0_cellsToPotFrom 66 = .ok (.lshl, 1) := by decide +kernel
theorem dX0_cellsToPotFrom_67 : decode cX0_cellsToPotFrom 67 = .ok (.lor, 1) := by decide +kernel
theorem dX0_cellsToPotFrom_68 : decode cX0_cellsToPotFrom 68 = .ok (.lstore_n 3, 1) := by decide +kernel
theorem dX0_cellsToPotFrom_69 : decode cX0_cellsToPotFrom 69 = .ok (.iinc 5 1, 3) := by decide +kernel
theorem dX0_cellsToPotFrom_72 : decode cX0_cellsToPotFrom 72 = .ok (.goto (-67), 3) := by decide +kernel
theorem dX0_cellsToPotFrom_75 : decode cX0_cellsToPotFrom 75 = .ok (.lload_n 3, 1) := by decide +kernel
theorem dX0_cellsToPotFrom_76 : decode cX0_cellsToPotFrom 76 = .ok (.lreturn, 1) := by decide +kernel
theorem dX0_canPotFrom_0 : decode cX0_canPotFrom 0 = .ok (.iconst 0, 1) := by decide +kernel
theorem dX0_canPotFrom_1 : decode cX0_canPotFrom 1 = .ok (.istore 4, 2) := by decide +kernel
theorem dX0_canPotFrom_3 : decode cX0_canPotFrom 3 = .ok (.iload 4, 2) := by decide +kernel
theorem dX0_canPotFrom_5 : decode cX0_canPotFrom 5 = .ok (.sipush 216, 3) := by decide +kernel
theorem dX0_canPotFrom_8 : decode cX0_canPotFrom 8 = .ok (.if_icmp .ge 70, 3) := by decide +kernel
theorem dX0_canPotFrom_11 : decode cX0_canPotFrom 11 = .ok (.aload_n 0, 1) := by decide +kernel
theorem dX0_canPotFrom_12 : decode cX0_canPotFrom 12 = .ok (.getfield 9, 3) := by decide +kernel
theorem dX0_canPotFrom_15 : decode cX0_canPotFrom 15 = .ok (.aload_n 1, 1) := by decide +kernel
theorem dX0_canPotFrom_16 : decode cX0_canPotFrom 16 = .ok (.invokevirtual 69, 3) := by decide +kernel
theorem dX0_canPotFrom_19 : decode cX0_canPotFrom 19 = .ok (.aload_n 0, 1) := by decide +kernel
theorem dX0_canPotFrom_20 : decode cX0_canPotFrom 20 = .ok (.getfield 9, 3) := by decide +kernel
theorem dX0_canPotFrom_23 : decode cX0_canPotFrom 23 = .ok (.getfield 73, 3) := by decide +kernel
theorem dX0_canPotFrom_26 : decode cX0_canPotFrom 26 = .ok (.iconst 0, 1) := by decide +kernel
theorem dX0_canPotFrom_27 : decode cX0_canPotFrom 27 = .ok (.iload_n 3, 1) := by decide +kernel
theorem dX0_canPotFrom_28 : decode cX0_canPotFrom 28 = .ok (.invokevirtual 77, 3) := by decide +kernel
theorem dX0_canPotFrom_31 : decode cX0_canPotFrom 31 = .ok (.aload_n 0, 1) := by decide +kernel
theorem dX0_canPotFrom_32 : decode cX0_canPotFrom 32 = .ok (.getfield 9, 3) := by decide +kernel
theorem dX0_canPotFrom_35 : decode cX0_canPotFrom 35 = .ok (.iload 4, 2) := by decide +kernel
theorem dX0_canPotFrom_37 : decode cX0_canPotFrom 37 = .ok (.invokestatic 46, 3) := by decide +kernel
theorem dX0_canPotFrom_40 : decode cX0_canPotFrom 40 = .ok (.iload 4, 2) := by decide +kernel
theorem dX0_canPotFrom_42 : decode cX0_canPotFrom 42 = .ok (.invokestatic 50, 3) := by decide +kernel
theorem dX0_canPotFrom_45 : decode cX0_canPotFrom 45 = .ok (.iconst 0, 1) := by decide +kernel
theorem dX0_canPotFrom_46 : decode cX0_canPotFrom 46 = .ok (.invokevirtual 80, 3) := by decide +kernel
theorem dX0_canPotFrom_49 : decode cX0_canPotFrom 49 = .ok (.aload_n 0, 1) := by decide +kernel
theorem dX0_canPotFrom_50 : decode cX0_canPotFrom 50 = .ok (.getfield 9, 3) := by decide +kernel
theorem dX0_canPotFrom_53 : decode cX0_canPotFrom 53 = .ok (.iload_n 2, 1) := by decide +kernel
theorem dX0_canPotFrom_54 : decode cX0_canPotFrom 54 = .ok (.invokevirtual 84, 3) := by decide +kernel
theorem dX0_canPotFrom_57 : decode cX0_canPotFrom 57 = .ok (.ifCond .eq 15, 3) := by decide +kernel
theorem dX0_canPotFrom_60 : decode cX0_canPotFrom 60 = .ok (.aload_n 0, 1) := by decide +kernel
theorem dX0_canPotFrom_61 : decode cX0_canPotFrom 61 = .ok (.getfield 9, 3) := by decide +kernel
theorem dX0_canPotFrom_64 : decode cX0_canPotFrom 64 = .ok (.getfield 42, 3) := by decide +kernel
theorem dX0_canPotFrom_67 : decode cX0_canPotFrom 67 = .ok (.ifCond .ne 5, 3) := by decide +kernel
theorem dX0_canPotFrom_70 : decode cX0_canPotFrom 70 = .ok (.iconst 1, 1) := by decide +kernel
theorem dX0_canPotFrom_71 : decode cX0_canPotFrom 71 = .ok (.ireturn, 1) := by decide +kernel
theorem dX0_canPotFrom_72 : decode cX0_canPotFrom 72 = .ok (.iinc 4 3, 3) := by decide +kernel
theorem dX0_canPotFrom_75 : decode cX0_canPotFrom 75 = .ok (.goto (-72), 3) := by decide +kernel
theorem dX0_canPotFrom_78 : decode cX0_canPotFrom 78 = .ok (.iconst 0, 1) := by decide +kernel
theorem dX0_canPotFrom_79 : decode cX0_canPotFrom 79 = .ok (.ireturn, 1) := by decide +kernel
theorem dX0_tryStroke_0 : decode cX0_tryStroke 0 = .ok (.aload_n 0, 1) := by decide +kernel
theorem dX0_tryStroke_1 : decode cX0_tryStroke 1 = .ok (.getfield 9, 3) := by decide +kernel
theorem dX0_tryStroke_4 : decode cX0_tryStroke 4 = .ok (.aload_n 1, 1) := by decide +kernel
theorem dX0_tryStroke_5 : decode cX0_tryStroke 5 = .ok (.invokevirtual 69, 3) := by decide +kernel
theorem dX0_tryStroke_8 : decode cX0_tryStroke 8 = .ok (.aload_n 0, 1) := by decide +kernel
theorem dX0_tryStroke_9 : decode cX0_tryStroke 9 = .ok (.getfield 9, 3) := by decide +kernel
theorem dX0_tryStroke_12 : decode cX0_tryStroke 12 = .ok (.iload_n 2, 1) := by decide +kernel
theorem dX0_tryStroke_13 : decode cX0_tryStroke 13 = .ok (.invokestatic 46, 3) := by decide +kernel
theorem dX0_tryStroke_16 : decode cX0_tryStroke 16 = .ok (.iload_n 2, 1) := by decide +kernel
theorem dX0_tryStroke_17 : decode cX0_tryStroke 17 = .ok (.invokestatic 50, 3) := by decide +kernel
theorem dX0_tryStroke_20 : decode cX0_tryStroke 20 = .ok (.iload_n 2, 1) := by decide +kernel
theorem dX0_tryStroke_21 : decode cX0_tryStroke 21 = .ok (.invokestatic 53, 3) := by decide +kernel
theorem dX0_tryStroke_24 : decode cX0_tryStroke 24 = .ok (.invokevirtual 80, 3) := by decide +kernel
theorem dX0_tryStroke_27 : decode cX0_tryStroke 27 = .ok (.return_, 1) := by decide +kernel
theorem dX0_bestReply_0 : decode cX0_bestReply 0 = .ok (.bipush (-4), 2) := by decide +kernel
theorem dX0_bestReply_2 : decode cX0_bestReply 2 = .ok (.istore_n 1, 1) := by decide +kernel
theorem dX0_bestReply_3 : decode cX0_bestReply 3 = .ok (.iconst 0, 1) := by decide +kernel
theorem dX0_bestReply_4 : decode cX0_bestReply 4 = .ok (.istore_n 2, 1) := by decide +kernel
theorem dX0_bestReply_5 : decode cX0_bestReply 5 = .ok (.iload_n 2, 1) := by decide +kernel
theorem dX0_bestReply_6 : decode cX0_bestReply 6 = .ok (.bipush 8, 2) := by decide +kernel
theorem dX0_bestReply_8 : decode cX0_bestReply 8 = .ok (.if_icmp .ge 66, 3) := by decide +kernel
theorem dX0_bestReply_11 : decode cX0_bestReply 11 = .ok (.iconst 3, 1) := by decide +kernel
theorem dX0_bestReply_12 : decode cX0_bestReply 12 = .ok (.istore_n 3, 1) := by decide +kernel
theorem dX0_bestReply_13 : decode cX0_bestReply 13 = .ok (.iload_n 3, 1) := by decide +kernel
theorem dX0_bestReply_14 : decode cX0_bestReply 14 = .ok (.bipush 9, 2) := by decide +kernel
theorem dX0_bestReply_16 : decode cX0_bestReply 16 = .ok (.if_icmp .gt 52, 3) := by decide +kernel
theorem dX0_bestReply_19 : decode cX0_bestReply 19 = .ok (.aload_n 0, 1) := by decide +kernel
theorem dX0_bestReply_20 : decode cX0_bestReply 20 = .ok (.getfield 15, 3) := by decide +kernel
theorem dX0_bestReply_23 : decode cX0_bestReply 23 = .ok (.aload_n 0, 1) := by decide +kernel
theorem dX0_bestReply_24 : decode cX0_bestReply 24 = .ok (.getfield 9, 3) := by decide +kernel
theorem dX0_bestReply_27 : decode cX0_bestReply 27 = .ok (.getfield 73, 3) := by decide +kernel
theorem dX0_bestReply_30 : decode cX0_bestReply 30 = .ok (.invokevirtual 69, 3) := by decide +kernel
theorem dX0_bestReply_33 : decode cX0_bestReply 33 = .ok (.aload_n 0, 1) := by decide +kernel
theorem dX0_bestReply_34 : decode cX0_bestReply 34 = .ok (.getfield 15, 3) := by decide +kernel
theorem dX0_bestReply_37 : decode cX0_bestReply 37 = .ok (.iload_n 2, 1) := by decide +kernel
theorem dX0_bestReply_38 : decode cX0_bestReply 38 = .ok (.iload_n 3, 1) := by decide +kernel
theorem dX0_bestReply_39 : decode cX0_bestReply 39 = .ok (.iconst 0, 1) := by decide +kernel
theorem dX0_bestReply_40 : decode cX0_bestReply 40 = .ok (.invokevirtual 80, 3) := by decide +kernel
theorem dX0_bestReply_43 : decode cX0_bestReply 43 = .ok (.aload_n 0, 1) := by decide +kernel
theorem dX0_bestReply_44 : decode cX0_bestReply 44 = .ok (.getfield 15, 3) := by decide +kernel
theorem dX0_bestReply_47 : decode cX0_bestReply 47 = .ok (.getfield 26, 3) := by decide +kernel
theorem dX0_bestReply_50 : decode cX0_bestReply 50 = .ok (.iload_n 1, 1) := by decide +kernel
theorem dX0_bestReply_51 : decode cX0_bestReply 51 = .ok (.if_icmp .le 11, 3) := by decide +kernel
theorem dX0_bestReply_54 : decode cX0_bestReply 54 = .ok (.aload_n 0, 1) := by decide +kernel
theorem dX0_bestReply_55 : decode cX0_bestReply 55 = .ok (.getfield 15, 3) := by decide +kernel
theorem dX0_bestReply_58 : decode cX0_bestReply 58 = .ok (.getfield 26, 3) := by decide +kernel
theorem dX0_bestReply_61 : decode cX0_bestReply 61 = .ok (.istore_n 1, 1) := by decide +kernel
theorem dX0_bestReply_62 : decode cX0_bestReply 62 = .ok (.iinc 3 3, 3) := by decide +kernel
theorem dX0_bestReply_65 : decode cX0_bestReply 65 = .ok (.goto (-52), 3) := by decide +kernel
theorem dX0_bestReply_68 : decode cX0_bestReply 68 = .ok (.iinc 2 1, 3) := by decide +kernel
theorem dX0_bestReply_71 : decode cX0_bestReply 71 = .ok (.goto (-66), 3) := by decide +kernel
theorem dX0_bestReply_74 : decode cX0_bestReply 74 = .ok (.iload_n 1, 1) := by decide +kernel
theorem dX0_bestReply_75 : decode cX0_bestReply 75 = .ok (.ireturn, 1) := by decide +kernel
theorem dX0_choose_0 : decode cX0_choose 0 = .ok (.aload_n 0, 1) := by decide +kernel
theorem dX0_choose_1 : decode cX0_choose 1 = .ok (.iload_n 1, 1) := by decide +kernel
theorem dX0_choose_2 : decode cX0_choose 2 = .ok (.putfield 18, 3) := by decide +kernel
theorem dX0_choose_5 : decode cX0_choose 5 = .ok (.aload_n 0, 1) := by decide +kernel
theorem dX0_choose_6 : decode cX0_choose 6 = .ok (.iload_n 2, 1) := by decide +kernel
theorem dX0_choose_7 : decode cX0_choose 7 = .ok (.putfield 31, 3) := by decide +kernel
theorem dX0_choose_10 : decode cX0_choose 10 = .ok (.return_, 1) := by decide +kernel
theorem dX0_directionOf_0 : decode cX0_directionOf 0 = .ok (.iload_n 0, 1) := by decide +kernel
theorem dX0_directionOf_1 : decode cX0_directionOf 1 = .ok (.bipush 27, 2) := by decide +kernel
theorem dX0_directionOf_3 : decode cX0_directionOf 3 = .ok (.idiv, 1) := by decide +kernel
theorem dX0_directionOf_4 : decode cX0_directionOf 4 = .ok (.ireturn, 1) := by decide +kernel
theorem dX0_strengthOf_0 : decode cX0_strengthOf 0 = .ok (.iload_n 0, 1) := by decide +kernel
theorem dX0_strengthOf_1 : decode cX0_strengthOf 1 = .ok (.iconst 3, 1) := by decide +kernel
theorem dX0_strengthOf_2 : decode cX0_strengthOf 2 = .ok (.idiv, 1) := by decide +kernel
theorem dX0_strengthOf_3 : decode cX0_strengthOf 3 = .ok (.bipush 9, 2) := by decide +kernel
theorem dX0_strengthOf_5 : decode cX0_strengthOf 5 = .ok (.irem, 1) := by decide +kernel
theorem dX0_strengthOf_6 : decode cX0_strengthOf 6 = .ok (.iconst 1, 1) := by decide +kernel
theorem dX0_strengthOf_7 : decode cX0_strengthOf 7 = .ok (.iadd, 1) := by decide +kernel
theorem dX0_strengthOf_8 : decode cX0_strengthOf 8 = .ok (.ireturn, 1) := by decide +kernel
theorem dX0_spinOf_0 : decode cX0_spinOf 0 = .ok (.iload_n 0, 1) := by decide +kernel
theorem dX0_spinOf_1 : decode cX0_spinOf 1 = .ok (.iconst 3, 1) := by decide +kernel
theorem dX0_spinOf_2 : decode cX0_spinOf 2 = .ok (.irem, 1) := by decide +kernel
theorem dX0_spinOf_3 : decode cX0_spinOf 3 = .ok (.ireturn, 1) := by decide +kernel
theorem dX1_init_0 : decode cX1_init 0 = .ok (.aload_n 0, 1) := by decide +kernel
theorem dX1_init_1 : decode cX1_init 1 = .ok (.invokespecial 1, 3) := by decide +kernel
theorem dX1_init_4 : decode cX1_init 4 = .ok (.return_, 1) := by decide +kernel
theorem dX1_powerWhenHit_0 : decode cX1_powerWhenHit 0 = .ok (.iload_n 1, 1) := by decide +kernel
theorem dX1_powerWhenHit_1 : decode cX1_powerWhenHit 1 = .ok (.ireturn, 1) := by decide +kernel
theorem dX1_stopsAtCushion_0 : decode cX1_stopsAtCushion 0 = .ok (.iconst 0, 1) := by decide +kernel
theorem dX1_stopsAtCushion_1 : decode cX1_stopsAtCushion 1 = .ok (.ireturn, 1) := by decide +kernel
theorem dX2_init_0 : decode cX2_init 0 = .ok (.aload_n 0, 1) := by decide +kernel
theorem dX2_init_1 : decode cX2_init 1 = .ok (.invokespecial 1, 3) := by decide +kernel
theorem dX2_init_4 : decode cX2_init 4 = .ok (.return_, 1) := by decide +kernel
theorem dX2_stopsAtCushion_0 : decode cX2_stopsAtCushion 0 = .ok (.iconst 1, 1) := by decide +kernel
theorem dX2_stopsAtCushion_1 : decode cX2_stopsAtCushion 1 = .ok (.ireturn, 1) := by decide +kernel
theorem dX3_init_0 : decode cX3_init 0 = .ok (.aload_n 0, 1) := by decide +kernel
theorem dX3_init_1 : decode cX3_init 1 = .ok (.invokespecial 3, 3) := by decide +kernel
theorem dX3_init_4 : decode cX3_init 4 = .ok (.aload_n 0, 1) := by decide +kernel
theorem dX3_init_5 : decode cX3_init 5 = .ok (.new 9, 3) := by decide +kernel
theorem dX3_init_8 : decode cX3_init 8 = .ok (.dup, 1) := by decide +kernel
theorem dX3_init_9 : decode cX3_init 9 = .ok (.invokespecial 11, 3) := by decide +kernel
theorem dX3_init_12 : decode cX3_init 12 = .ok (.putfield 12, 3) := by decide +kernel
theorem dX3_init_15 : decode cX3_init 15 = .ok (.aload_n 0, 1) := by decide +kernel
theorem dX3_init_16 : decode cX3_init 16 = .ok (.bipush 6, 2) := by decide +kernel
theorem dX3_init_18 : decode cX3_init 18 = .ok (.newarray .int, 2) := by decide +kernel
theorem dX3_init_20 : decode cX3_init 20 = .ok (.putfield 18, 3) := by decide +kernel
theorem dX3_init_23 : decode cX3_init 23 = .ok (.aload_n 0, 1) := by decide +kernel
theorem dX3_init_24 : decode cX3_init 24 = .ok (.bipush 6, 2) := by decide +kernel
theorem dX3_init_26 : decode cX3_init 26 = .ok (.newarray .int, 2) := by decide +kernel
theorem dX3_init_28 : decode cX3_init 28 = .ok (.putfield 22, 3) := by decide +kernel
theorem dX3_init_31 : decode cX3_init 31 = .ok (.aload_n 0, 1) := by decide +kernel
theorem dX3_init_32 : decode cX3_init 32 = .ok (.bipush 6, 2) := by decide +kernel
theorem dX3_init_34 : decode cX3_init 34 = .ok (.newarray .int, 2) := by decide +kernel
theorem dX3_init_36 : decode cX3_init 36 = .ok (.putfield 25, 3) := by decide +kernel
theorem dX3_init_39 : decode cX3_init 39 = .ok (.aload_n 0, 1) := by decide +kernel
theorem dX3_init_40 : decode cX3_init 40 = .ok (.bipush 6, 2) := by decide +kernel
theorem dX3_init_42 : decode cX3_init 42 = .ok (.newarray .int, 2) := by decide +kernel
theorem dX3_init_44 : decode cX3_init 44 = .ok (.putfield 28, 3) := by decide +kernel
theorem dX3_init_47 : decode cX3_init 47 = .ok (.return_, 1) := by decide +kernel
theorem dX3_clear_0 : decode cX3_clear 0 = .ok (.aload_n 0, 1) := by decide +kernel
theorem dX3_clear_1 : decode cX3_clear 1 = .ok (.getfield 12, 3) := by decide +kernel
theorem dX3_clear_4 : decode cX3_clear 4 = .ok (.invokevirtual 31, 3) := by decide +kernel
theorem dX3_clear_7 : decode cX3_clear 7 = .ok (.aload_n 0, 1) := by decide +kernel
theorem dX3_clear_8 : decode cX3_clear 8 = .ok (.iconst 0, 1) := by decide +kernel
theorem dX3_clear_9 : decode cX3_clear 9 = .ok (.putfield 34, 3) := by decide +kernel
theorem dX3_clear_12 : decode cX3_clear 12 = .ok (.aload_n 0, 1) := by decide +kernel
theorem dX3_clear_13 : decode cX3_clear 13 = .ok (.iconst 0, 1) := by decide +kernel
theorem dX3_clear_14 : decode cX3_clear 14 = .ok (.putfield 38, 3) := by decide +kernel
theorem dX3_clear_17 : decode cX3_clear 17 = .ok (.aload_n 0, 1) := by decide +kernel
theorem dX3_clear_18 : decode cX3_clear 18 = .ok (.iconst 0, 1) := by decide +kernel
theorem dX3_clear_19 : decode cX3_clear 19 = .ok (.putfield 41, 3) := by decide +kernel
theorem dX3_clear_22 : decode cX3_clear 22 = .ok (.aload_n 0, 1) := by decide +kernel
theorem dX3_clear_23 : decode cX3_clear 23 = .ok (.iconst 0, 1) := by decide +kernel
theorem dX3_clear_24 : decode cX3_clear 24 = .ok (.putfield 44, 3) := by decide +kernel
theorem dX3_clear_27 : decode cX3_clear 27 = .ok (.return_, 1) := by decide +kernel
theorem dX3_copy_0 : decode cX3_copy 0 = .ok (.aload_n 0, 1) := by decide +kernel
theorem dX3_copy_1 : decode cX3_copy 1 = .ok (.getfield 12, 3) := by decide +kernel
theorem dX3_copy_4 : decode cX3_copy 4 = .ok (.aload_n 1, 1) := by decide +kernel
theorem dX3_copy_5 : decode cX3_copy 5 = .ok (.getfield 12, 3) := by decide +kernel
theorem dX3_copy_8 : decode cX3_copy 8 = .ok (.invokevirtual 47, 3) := by decide +kernel
theorem dX3_copy_11 : decode cX3_copy 11 = .ok (.aload_n 1, 1) := by decide +kernel
theorem dX3_copy_12 : decode cX3_copy 12 = .ok (.getfield 18, 3) := by decide +kernel
theorem dX3_copy_15 : decode cX3_copy 15 = .ok (.iconst 0, 1) := by decide +kernel
theorem dX3_copy_16 : decode cX3_copy 16 = .ok (.aload_n 0, 1) := by decide +kernel
theorem dX3_copy_17 : decode cX3_copy 17 = .ok (.getfield 18, 3) := by decide +kernel
theorem dX3_copy_20 : decode cX3_copy 20 = .ok (.iconst 0, 1) := by decide +kernel
theorem dX3_copy_21 : decode cX3_copy 21 = .ok (.bipush 6, 2) := by decide +kernel
theorem dX3_copy_23 : decode cX3_copy 23 = .ok (.invokestatic 51, 3) := by decide +kernel
theorem dX3_copy_26 : decode cX3_copy 26 = .ok (.aload_n 1, 1) := by decide +kernel
theorem dX3_copy_27 : decode cX3_copy 27 = .ok (.getfield 22, 3) := by decide +kernel
theorem dX3_copy_30 : decode cX3_copy 30 = .ok (.iconst 0, 1) := by decide +kernel
theorem dX3_copy_31 : decode cX3_copy 31 = .ok (.aload_n 0, 1) := by decide +kernel
theorem dX3_copy_32 : decode cX3_copy 32 = .ok (.getfield 22, 3) := by decide +kernel
theorem dX3_copy_35 : decode cX3_copy 35 = .ok (.iconst 0, 1) := by decide +kernel
theorem dX3_copy_36 : decode cX3_copy 36 = .ok (.bipush 6, 2) := by decide +kernel
theorem dX3_copy_38 : decode cX3_copy 38 = .ok (.invokestatic 51, 3) := by decide +kernel
theorem dX3_copy_41 : decode cX3_copy 41 = .ok (.aload_n 1, 1) := by decide +kernel
theorem dX3_copy_42 : decode cX3_copy 42 = .ok (.getfield 25, 3) := by decide +kernel
theorem dX3_copy_45 : decode cX3_copy 45 = .ok (.iconst 0, 1) := by decide +kernel
theorem dX3_copy_46 : decode cX3_copy 46 = .ok (.aload_n 0, 1) := by decide +kernel
theorem dX3_copy_47 : decode cX3_copy 47 = .ok (.getfield 25, 3) := by decide +kernel
theorem dX3_copy_50 : decode cX3_copy 50 = .ok (.iconst 0, 1) := by decide +kernel
theorem dX3_copy_51 : decode cX3_copy 51 = .ok (.bipush 6, 2) := by decide +kernel
theorem dX3_copy_53 : decode cX3_copy 53 = .ok (.invokestatic 51, 3) := by decide +kernel
theorem dX3_copy_56 : decode cX3_copy 56 = .ok (.aload_n 1, 1) := by decide +kernel
theorem dX3_copy_57 : decode cX3_copy 57 = .ok (.getfield 28, 3) := by decide +kernel
theorem dX3_copy_60 : decode cX3_copy 60 = .ok (.iconst 0, 1) := by decide +kernel
theorem dX3_copy_61 : decode cX3_copy 61 = .ok (.aload_n 0, 1) := by decide +kernel
theorem dX3_copy_62 : decode cX3_copy 62 = .ok (.getfield 28, 3) := by decide +kernel
theorem dX3_copy_65 : decode cX3_copy 65 = .ok (.iconst 0, 1) := by decide +kernel
theorem dX3_copy_66 : decode cX3_copy 66 = .ok (.bipush 6, 2) := by decide +kernel
theorem dX3_copy_68 : decode cX3_copy 68 = .ok (.invokestatic 51, 3) := by decide +kernel
theorem dX3_copy_71 : decode cX3_copy 71 = .ok (.aload_n 0, 1) := by decide +kernel
theorem dX3_copy_72 : decode cX3_copy 72 = .ok (.aload_n 1, 1) := by decide +kernel
theorem dX3_copy_73 : decode cX3_copy 73 = .ok (.getfield 34, 3) := by decide +kernel
theorem dX3_copy_76 : decode cX3_copy 76 = .ok (.putfield 34, 3) := by decide +kernel
theorem dX3_copy_79 : decode cX3_copy 79 = .ok (.aload_n 0, 1) := by decide +kernel
theorem dX3_copy_80 : decode cX3_copy 80 = .ok (.aload_n 1, 1) := by decide +kernel
theorem dX3_copy_81 : decode cX3_copy 81 = .ok (.getfield 38, 3) := by decide +kernel
theorem dX3_copy_84 : decode cX3_copy 84 = .ok (.putfield 38, 3) := by decide +kernel
theorem dX3_copy_87 : decode cX3_copy 87 = .ok (.aload_n 0, 1) := by decide +kernel
theorem dX3_copy_88 : decode cX3_copy 88 = .ok (.aload_n 1, 1) := by decide +kernel
theorem dX3_copy_89 : decode cX3_copy 89 = .ok (.getfield 41, 3) := by decide +kernel
theorem dX3_copy_92 : decode cX3_copy 92 = .ok (.putfield 41, 3) := by decide +kernel
theorem dX3_copy_95 : decode cX3_copy 95 = .ok (.aload_n 0, 1) := by decide +kernel
theorem dX3_copy_96 : decode cX3_copy 96 = .ok (.aload_n 1, 1) := by decide +kernel
theorem dX3_copy_97 : decode cX3_copy 97 = .ok (.getfield 44, 3) := by decide +kernel
theorem dX3_copy_100 : decode cX3_copy 100 = .ok (.putfield 44, 3) := by decide +kernel
theorem dX3_copy_103 : decode cX3_copy 103 = .ok (.return_, 1) := by decide +kernel
theorem dX3_take_0 : decode cX3_take 0 = .ok (.aload_n 0, 1) := by decide +kernel
theorem dX3_take_1 : decode cX3_take 1 = .ok (.getfield 12, 3) := by decide +kernel
theorem dX3_take_4 : decode cX3_take 4 = .ok (.aload_n 1, 1) := by decide +kernel
theorem dX3_take_5 : decode cX3_take 5 = .ok (.getfield 57, 3) := by decide +kernel
theorem dX3_take_8 : decode cX3_take 8 = .ok (.invokevirtual 47, 3) := by decide +kernel
theorem dX3_take_11 : decode cX3_take 11 = .ok (.aload_n 0, 1) := by decide +kernel
theorem dX3_take_12 : decode cX3_take 12 = .ok (.dup, 1) := by decide +kernel
theorem dX3_take_13 : decode cX3_take 13 = .ok (.getfield 38, 3) := by decide +kernel
theorem dX3_take_16 : decode cX3_take 16 = .ok (.aload_n 1, 1) := by decide +kernel
theorem dX3_take_17 : decode cX3_take 17 = .ok (.getfield 60, 3) := by decide +kernel
theorem dX3_take_20 : decode cX3_take 20 = .ok (.iadd, 1) := by decide +kernel
theorem dX3_take_21 : decode cX3_take 21 = .ok (.putfield 38, 3) := by decide +kernel
theorem dX3_take_24 : decode cX3_take 24 = .ok (.aload_n 0, 1) := by decide +kernel
theorem dX3_take_25 : decode cX3_take 25 = .ok (.dup, 1) := by decide +kernel
theorem dX3_take_26 : decode cX3_take 26 = .ok (.getfield 41, 3) := by decide +kernel
theorem dX3_take_29 : decode cX3_take 29 = .ok (.iconst 1, 1) := by decide +kernel
theorem dX3_take_30 : decode cX3_take 30 = .ok (.iadd, 1) := by decide +kernel
theorem dX3_take_31 : decode cX3_take 31 = .ok (.putfield 41, 3) := by decide +kernel
theorem dX3_take_34 : decode cX3_take 34 = .ok (.aload_n 1, 1) := by decide +kernel
theorem dX3_take_35 : decode cX3_take 35 = .ok (.getfield 63, 3) := by decide +kernel
theorem dX3_take_38 : decode cX3_take 38 = .ok (.ifCond .eq 13, 3) := by decide +kernel
theorem dX3_take_41 : decode cX3_take 41 = .ok (.aload_n 0, 1) := by decide +kernel
theorem dX3_take_42 : decode cX3_take 42 = .ok (.dup, 1) := by decide +kernel
theorem dX3_take_43 : decode cX3_take 43 = .ok (.getfield 44, 3) := by decide +kernel
theorem dX3_take_46 : decode cX3_take 46 = .ok (.iconst 1, 1) := by decide +kernel
theorem dX3_take_47 : decode cX3_take 47 = .ok (.iadd, 1) := by decide +kernel
theorem dX3_take_48 : decode cX3_take 48 = .ok (.putfield 44, 3) := by decide +kernel
theorem dX3_take_51 : decode cX3_take 51 = .ok (.return_, 1) := by decide +kernel
theorem dX3_note_0 : decode cX3_note 0 = .ok (.aload_n 0, 1) := by decide +kernel
theorem dX3_note_1 : decode cX3_note 1 = .ok (.getfield 34, 3) := by decide +kernel
theorem dX3_note_4 : decode cX3_note 4 = .ok (.ifCond .lt 12, 3) := by decide +kernel
theorem dX3_note_7 : decode cX3_note 7 = .ok (.aload_n 0, 1) := by decide +kernel
theorem dX3_note_8 : decode cX3_note 8 = .ok (.getfield 34, 3) := by decide +kernel
theorem dX3_note_11 : decode cX3_note 11 = .ok (.bipush 6, 2) := by decide +kernel
theorem dX3_note_13 : decode cX3_note 13 = .ok (.if_icmp .lt 4, 3) := by decide +kernel
theorem dX3_note_16 : decode cX3_note 16 = .ok (.return_, 1) := by decide +kernel
theorem dX3_note_17 : decode cX3_note 17 = .ok (.aload_n 0, 1) := by decide +kernel
theorem dX3_note_18 : decode cX3_note 18 = .ok (.getfield 18, 3) := by decide +kernel
theorem dX3_note_21 : decode cX3_note 21 = .ok (.aload_n 0, 1) := by decide +kernel
theorem dX3_note_22 : decode cX3_note 22 = .ok (.getfield 34, 3) := by decide +kernel
theorem dX3_note_25 : decode cX3_note 25 = .ok (.iload_n 1, 1) := by decide +kernel
theorem dX3_note_26 : decode cX3_note 26 = .ok (.iastore, 1) := by decide +kernel
theorem dX3_note_27 : decode cX3_note 27 = .ok (.aload_n 0, 1) := by decide +kernel
theorem dX3_note_28 : decode cX3_note 28 = .ok (.getfield 22, 3) := by decide +kernel
theorem dX3_note_31 : decode cX3_note 31 = .ok (.aload_n 0, 1) := by decide +kernel
theorem dX3_note_32 : decode cX3_note 32 = .ok (.getfield 34, 3) := by decide +kernel
theorem dX3_note_35 : decode cX3_note 35 = .ok (.iload_n 2, 1) := by decide +kernel
theorem dX3_note_36 : decode cX3_note 36 = .ok (.iastore, 1) := by decide +kernel
theorem dX3_note_37 : decode cX3_note 37 = .ok (.aload_n 0, 1) := by decide +kernel
theorem dX3_note_38 : decode cX3_note 38 = .ok (.getfield 25, 3) := by decide +kernel
theorem dX3_note_41 : decode cX3_note 41 = .ok (.aload_n 0, 1) := by decide +kernel
theorem dX3_note_42 : decode cX3_note 42 = .ok (.getfield 34, 3) := by decide +kernel
theorem dX3_note_45 : decode cX3_note 45 = .ok (.iload_n 3, 1) := by decide +kernel
theorem dX3_note_46 : decode cX3_note 46 = .ok (.iastore, 1) := by decide +kernel
theorem dX3_note_47 : decode cX3_note 47 = .ok (.aload_n 0, 1) := by decide +kernel
theorem dX3_note_48 : decode cX3_note 48 = .ok (.getfield 28, 3) := by decide +kernel
theorem dX3_note_51 : decode cX3_note 51 = .ok (.aload_n 0, 1) := by decide +kernel
theorem dX3_note_52 : decode cX3_note 52 = .ok (.getfield 34, 3) := by decide +kernel
theorem dX3_note_55 : decode cX3_note 55 = .ok (.iload 4, 2) := by decide +kernel
theorem dX3_note_57 : decode cX3_note 57 = .ok (.iastore, 1) := by decide +kernel
theorem dX3_note_58 : decode cX3_note 58 = .ok (.aload_n 0, 1) := by decide +kernel
theorem dX3_note_59 : decode cX3_note 59 = .ok (.dup, 1) := by decide +kernel
theorem dX3_note_60 : decode cX3_note 60 = .ok (.getfield 34, 3) := by decide +kernel
theorem dX3_note_63 : decode cX3_note 63 = .ok (.iconst 1, 1) := by decide +kernel
theorem dX3_note_64 : decode cX3_note 64 = .ok (.iadd, 1) := by decide +kernel
theorem dX3_note_65 : decode cX3_note 65 = .ok (.putfield 34, 3) := by decide +kernel
theorem dX3_note_68 : decode cX3_note 68 = .ok (.return_, 1) := by decide +kernel
theorem dX4_init_0 : decode cX4_init 0 = .ok (.aload_n 0, 1) := by decide +kernel
theorem dX4_init_1 : decode cX4_init 1 = .ok (.invokespecial 3, 3) := by decide +kernel
theorem dX4_init_4 : decode cX4_init 4 = .ok (.aload_n 0, 1) := by decide +kernel
theorem dX4_init_5 : decode cX4_init 5 = .ok (.iconst 5, 1) := by decide +kernel
theorem dX4_init_6 : decode cX4_init 6 = .ok (.newarray .int, 2) := by decide +kernel
theorem dX4_init_8 : decode cX4_init 8 = .ok (.putfield 9, 3) := by decide +kernel
theorem dX4_init_11 : decode cX4_init 11 = .ok (.aload_n 0, 1) := by decide +kernel
theorem dX4_init_12 : decode cX4_init 12 = .ok (.aload_n 1, 1) := by decide +kernel
theorem dX4_init_13 : decode cX4_init 13 = .ok (.putfield 15, 3) := by decide +kernel
theorem dX4_init_16 : decode cX4_init 16 = .ok (.return_, 1) := by decide +kernel
theorem dX4_possibleKinds_0 : decode cX4_possibleKinds 0 = .ok (.bipush 31, 2) := by decide +kernel
theorem dX4_possibleKinds_2 : decode cX4_possibleKinds 2 = .ok (.istore_n 3, 1) := by decide +kernel
theorem dX4_possibleKinds_3 : decode cX4_possibleKinds 3 = .ok (.iconst 0, 1) := by decide +kernel
theorem dX4_possibleKinds_4 : decode cX4_possibleKinds 4 = .ok (.istore 4, 2) := by decide +kernel
theorem dX4_possibleKinds_6 : decode cX4_possibleKinds 6 = .ok (.iload 4, 2) := by decide +kernel
theorem dX4_possibleKinds_8 : decode cX4_possibleKinds 8 = .ok (.aload_n 1, 1) := by decide +kernel
theorem dX4_possibleKinds_9 : decode cX4_possibleKinds 9 = .ok (.getfield 19, 3) := by decide +kernel
theorem dX4_possibleKinds_12 : decode cX4_possibleKinds 12 = .ok (.if_icmp .ge 93, 3) := by decide +kernel
theorem dX4_possibleKinds_15 : decode cX4_possibleKinds 15 = .ok (.iload 4, 2) := by decide +kernel
theorem dX4_possibleKinds_17 : decode cX4_possibleKinds 17 = .ok (.bipush 6, 2) := by decide +kernel
theorem dX4_possibleKinds_19 : decode cX4_possibleKinds 19 = .ok (.if_icmp .ge 86, 3) := by decide +kernel
theorem dX4_possibleKinds_22 : decode cX4_possibleKinds 22 = .ok (.aload_n 1, 1) := by decide +kernel
theorem dX4_possibleKinds_23 : decode cX4_possibleKinds 23 = .ok (.getfield 25, 3) := by decide +kernel
theorem dX4_possibleKinds_26 : decode cX4_possibleKinds 26 = .ok (.iload 4, 2) := by decide +kernel
theorem dX4_possibleKinds_28 : decode cX4_possibleKinds 28 = .ok (.iaload, 1) := by decide +kernel
theorem dX4_possibleKinds_29 : decode cX4_possibleKinds 29 = .ok (.iload_n 2, 1) := by decide +kernel
theorem dX4_possibleKinds_30 : decode cX4_possibleKinds 30 = .ok (.if_icmp .eq 6, 3) := by decide +kernel
theorem dX4_possibleKinds_33 : decode cX4_possibleKinds 33 = .ok (.goto 66, 3) := by decide +kernel
theorem dX4_possibleKinds_36 : decode cX4_possibleKinds 36 = .ok (.iconst 0, 1) := by decide +kernel
theorem dX4_possibleKinds_37 : decode cX4_possibleKinds 37 = .ok (.istore 5, 2) := by decide +kernel
theorem dX4_possibleKinds_39 : decode cX4_possibleKinds 39 = .ok (.iload 5, 2) := by decide +kernel
theorem dX4_possibleKinds_41 : decode cX4_possibleKinds 41 = .ok (.iconst 5, 1) := by decide +kernel
theorem dX4_possibleKinds_42 : decode cX4_possibleKinds 42 = .ok (.if_icmp .ge 57, 3) := by decide +kernel
theorem dX4_possibleKinds_45 : decode cX4_possibleKinds 45 = .ok (.aload_n 0, 1) := by decide +kernel
theorem dX4_possibleKinds_46 : decode cX4_possibleKinds 46 = .ok (.aload_n 1, 1) := by decide +kernel
theorem dX4_possibleKinds_47 : decode cX4_possibleKinds 47 = .ok (.getfield 28, 3) := by decide +kernel
theorem dX4_possibleKinds_50 : decode cX4_possibleKinds 50 = .ok (.iload_n 2, 1) := by decide +kernel
theorem dX4_possibleKinds_51 : decode cX4_possibleKinds 51 = .ok (.iload 5, 2) := by decide +kernel
theorem dX4_possibleKinds_53 : decode cX4_possibleKinds 53 = .ok (.aload_n 1, 1) := by decide +kernel
theorem dX4_possibleKinds_54 : decode cX4_possibleKinds 54 = .ok (.getfield 32, 3) := by decide +kernel
theorem dX4_possibleKinds_57 : decode cX4_possibleKinds 57 = .ok (.iload 4, 2) := by decide +kernel
theorem dX4_possibleKinds_59 : decode cX4_possibleKinds 59 = .ok (.iaload, 1) := by decide +kernel
theorem dX4_possibleKinds_60 : decode cX4_possibleKinds 60 = .ok (.aload_n 1, 1) := by decide +kernel
theorem dX4_possibleKinds_61 : decode cX4_possibleKinds 61 = .ok (.getfield 35, 3) := by decide +kernel
theorem dX4_possibleKinds_64 : decode cX4_possibleKinds 64 = .ok (.iload 4, 2) := by decide +kernel
theorem dX4_possibleKinds_66 : decode cX4_possibleKinds 66 = .ok (.iaload, 1) := by decide +kernel
theorem dX4_possibleKinds_67 : decode cX4_possibleKinds 67 = .ok (.invokevirtual 38, 3) := by decide +kernel
theorem dX4_possibleKinds_70 : decode cX4_possibleKinds 70 = .ok (.istore 6, 2) := by decide +kernel
theorem dX4_possibleKinds_72 : decode cX4_possibleKinds 72 = .ok (.iload 6, 2) := by decide +kernel
theorem dX4_possibleKinds_74 : decode cX4_possibleKinds 74 = .ok (.aload_n 1, 1) := by decide +kernel
theorem dX4_possibleKinds_75 : decode cX4_possibleKinds 75 = .ok (.getfield 42, 3) := by decide +kernel
theorem dX4_possibleKinds_78 : decode cX4_possibleKinds 78 = .ok (.iload 4, 2) := by decide +kernel
theorem dX4_possibleKinds_80 : decode cX4_possibleKinds 80 = .ok (.iaload, 1) := by decide +kernel
theorem dX4_possibleKinds_81 : decode cX4_possibleKinds 81 = .ok (.if_icmp .eq 12, 3) := by decide +kernel
theorem dX4_possibleKinds_84 : decode cX4_possibleKinds 84 = .ok (.iload_n 3, 1) := by decide +kernel
theorem dX4_possibleKinds_85 : decode cX4_possibleKinds 85 = .ok (.iconst 1, 1) := by decide +kernel
theorem dX4_possibleKinds_86 : decode cX4_possibleKinds 86 = .ok (.iload 5, 2) := by decide +kernel
theorem dX4_possibleKinds_88 : decode cX4_possibleKinds 88 = .ok (.ishl, 1) := by decide +kernel
theorem dX4_possibleKinds_89 : decode cX4_possibleKinds 89 = .ok (.iconst (-1), 1) := by decide +kernel
theorem dX4_possibleKinds_90 : decode cX4_possibleKinds 90 = .ok (.ixor, 1) := by decide +kernel
theorem dX4_possibleKinds_91 : decode cX4_possibleKinds 91 = .ok (.iand, 1) := by decide +kernel
theorem dX4_possibleKinds_92 : decode cX4_possibleKinds 92 = .ok (.istore_n 3, 1) := by decide +kernel
theorem dX4_possibleKinds_93 : decode cX4_possibleKinds 93 = .ok (.iinc 5 1, 3) := by decide +kernel
theorem dX4_possibleKinds_96 : decode cX4_possibleKinds 96 = .ok (.goto (-57), 3) := by decide +kernel
theorem dX4_possibleKinds_99 : decode cX4_possibleKinds 99 = .ok (.iinc 4 1, 3) := by decide +kernel
theorem dX4_possibleKinds_102 : decode cX4_possibleKinds 102 = .ok (.goto (-96), 3) := by decide +kernel
theorem dX4_possibleKinds_105 : decode cX4_possibleKinds 105 = .ok (.iload_n 3, 1) := by decide +kernel
theorem dX4_possibleKinds_106 : decode cX4_possibleKinds 106 = .ok (.ireturn, 1) := by decide +kernel
theorem dX4_tellingDirection_0 : decode cX4_tellingDirection 0 = .ok (.aload_n 0, 1) := by decide +kernel
theorem dX4_tellingDirection_1 : decode cX4_tellingDirection 1 = .ok (.aload_n 1, 1) := by decide +kernel
theorem dX4_tellingDirection_2 : decode cX4_tellingDirection 2 = .ok (.iload_n 2, 1) := by decide +kernel
theorem dX4_tellingDirection_3 : decode cX4_tellingDirection 3 = .ok (.invokevirtual 45, 3) := by decide +kernel
theorem dX4_tellingDirection_6 : decode cX4_tellingDirection 6 = .ok (.istore_n 3, 1) := by decide +kernel
theorem dX4_tellingDirection_7 : decode cX4_tellingDirection 7 = .ok (.iload_n 3, 1) := by decide +kernel
theorem dX4_tellingDirection_8 : decode cX4_tellingDirection 8 = .ok (.ifCond .ne 5, 3) := by decide +kernel
theorem dX4_tellingDirection_11 : decode cX4_tellingDirection 11 = .ok (.iconst (-1), 1) := by decide +kernel
theorem dX4_tellingDirection_12 : decode cX4_tellingDirection 12 = .ok (.ireturn, 1) := by decide +kernel
theorem dX4_tellingDirection_13 : decode cX4_tellingDirection 13 = .ok (.bipush 6, 2) := by decide +kernel
theorem dX4_tellingDirection_15 : decode cX4_tellingDirection 15 = .ok (.istore 4, 2) := by decide +kernel
theorem dX4_tellingDirection_17 : decode cX4_tellingDirection 17 = .ok (.iconst (-1), 1) := by decide +kernel
theorem dX4_tellingDirection_18 : decode cX4_tellingDirection 18 = .ok (.istore 5, 2) := by decide +kernel
theorem dX4_tellingDirection_20 : decode cX4_tellingDirection 20 = .ok (.iconst 0, 1) := by decide +kernel
theorem dX4_tellingDirection_21 : decode cX4_tellingDirection 21 = .ok (.istore 6, 2) := by decide +kernel
theorem dX4_tellingDirection_23 : decode cX4_tellingDirection 23 = .ok (.iload 6, 2) := by decide +kernel
theorem dX4_tellingDirection_25 : decode cX4_tellingDirection 25 = .ok (.bipush 8, 2) := by decide +kernel
theorem dX4_tellingDirection_27 : decode cX4_tellingDirection 27 = .ok (.if_icmp .ge 38, 3) := by decide +kernel
theorem dX4_tellingDirection_30 : decode cX4_tellingDirection 30 = .ok (.aload_n 0, 1) := by decide +kernel
theorem dX4_tellingDirection_31 : decode cX4_tellingDirection 31 = .ok (.aload_n 1, 1) := by decide +kernel
theorem dX4_tellingDirection_32 : decode cX4_tellingDirection 32 = .ok (.getfield 28, 3) := by decide +kernel
theorem dX4_tellingDirection_35 : decode cX4_tellingDirection 35 = .ok (.iload_n 2, 1) := by decide +kernel
theorem dX4_tellingDirection_36 : decode cX4_tellingDirection 36 = .ok (.iload 6, 2) := by decide +kernel
theorem dX4_tellingDirection_38 : decode cX4_tellingDirection 38 = .ok (.iload_n 3, 1) := by decide +kernel
theorem dX4_tellingDirection_39 : decode cX4_tellingDirection 39 = .ok (.invokevirtual 49, 3) := by decide +kernel
theorem dX4_tellingDirection_42 : decode cX4_tellingDirection 42 = .ok (.istore 7, 2) := by decide +kernel
theorem dX4_tellingDirection_44 : decode cX4_tellingDirection 44 = .ok (.iload 7, 2) := by decide +kernel
theorem dX4_tellingDirection_46 : decode cX4_tellingDirection 46 = .ok (.iload 4, 2) := by decide +kernel
theorem dX4_tellingDirection_48 : decode cX4_tellingDirection 48 = .ok (.if_icmp .ge 11, 3) := by decide +kernel
theorem dX4_tellingDirection_51 : decode cX4_tellingDirection 51 = .ok (.iload 7, 2) := by decide +kernel
theorem dX4_tellingDirection_53 : decode cX4_tellingDirection 53 = .ok (.istore 4, 2) := by decide +kernel
theorem dX4_tellingDirection_55 : decode cX4_tellingDirection 55 = .ok (.iload 6, 2) := by decide +kernel
theorem dX4_tellingDirection_57 : decode cX4_tellingDirection 57 = .ok (.istore 5, 2) := by decide +kernel
theorem dX4_tellingDirection_59 : decode cX4_tellingDirection 59 = .ok (.iinc 6 1, 3) := by decide +kernel
theorem dX4_tellingDirection_62 : decode cX4_tellingDirection 62 = .ok (.goto (-39), 3) := by decide +kernel
theorem dX4_tellingDirection_65 : decode cX4_tellingDirection 65 = .ok (.iload 5, 2) := by decide +kernel
theorem dX4_tellingDirection_67 : decode cX4_tellingDirection 67 = .ok (.ireturn, 1) := by decide +kernel
theorem dX4_leftAtWorst_0 : decode cX4_leftAtWorst 0 = .ok (.iconst 0, 1) := by decide +kernel
theorem dX4_leftAtWorst_1 : decode cX4_leftAtWorst 1 = .ok (.istore 5, 2) := by decide +kernel
theorem dX4_leftAtWorst_3 : decode cX4_leftAtWorst 3 = .ok (.iconst 0, 1) := by decide +kernel
theorem dX4_leftAtWorst_4 : decode cX4_leftAtWorst 4 = .ok (.istore 6, 2) := by decide +kernel
theorem dX4_leftAtWorst_6 : decode cX4_leftAtWorst 6 = .ok (.iload 6, 2) := by decide +kernel
theorem dX4_leftAtWorst_8 : decode cX4_leftAtWorst 8 = .ok (.iconst 5, 1) := by decide +kernel
theorem dX4_leftAtWorst_9 : decode cX4_leftAtWorst 9 = .ok (.if_icmp .ge 98, 3) := by decide +kernel
theorem dX4_leftAtWorst_12 : decode cX4_leftAtWorst 12 = .ok (.iload 4, 2) := by decide +kernel
theorem dX4_leftAtWorst_14 : decode cX4_leftAtWorst 14 = .ok (.iload 6, 2) := by decide +kernel
theorem dX4_leftAtWorst_16 : decode cX4_leftAtWorst 16 = .ok (.ishr, 1) := by decide +kernel
theorem dX4_leftAtWorst_17 : decode cX4_leftAtWorst 17 = .ok (.iconst 1, 1) := by decide +kernel
theorem dX4_leftAtWorst_18 : decode cX4_leftAtWorst 18 = .ok (.iand, 1) := by decide +kernel
theorem dX4_leftAtWorst_19 : decode cX4_leftAtWorst 19 = .ok (.ifCond .ne 6, 3) := by decide +kernel
theorem dX4_leftAtWorst_22 : decode cX4_leftAtWorst 22 = .ok (.goto 79, 3) := by decide +kernel
theorem dX4_leftAtWorst_25 : decode cX4_leftAtWorst 25 = .ok (.aload_n 0, 1) := by decide +kernel
theorem dX4_leftAtWorst_26 : decode cX4_leftAtWorst 26 = .ok (.getfield 9, 3) := by decide +kernel
theorem dX4_leftAtWorst_29 : decode cX4_leftAtWorst 29 = .ok (.iload 6, 2) := by decide +kernel
theorem dX4_leftAtWorst_31 : decode cX4_leftAtWorst 31 = .ok (.aload_n 0, 1) := by decide +kernel
theorem dX4_leftAtWorst_32 : decode cX4_leftAtWorst 32 = .ok (.aload_n 1, 1) := by decide +kernel
theorem dX4_leftAtWorst_33 : decode cX4_leftAtWorst 33 = .ok (.iload_n 2, 1) := by decide +kernel
theorem dX4_leftAtWorst_34 : decode cX4_leftAtWorst 34 = .ok (.iload 6, 2) := by decide +kernel
theorem dX4_leftAtWorst_36 : decode cX4_leftAtWorst 36 = .ok (.iload_n 3, 1) := by decide +kernel
theorem dX4_leftAtWorst_37 : decode cX4_leftAtWorst 37 = .ok (.bipush 6, 2) := by decide +kernel
theorem dX4_leftAtWorst_39 : decode cX4_leftAtWorst 39 = .ok (.invokevirtual 38, 3) := by decide +kernel
theorem dX4_leftAtWorst_42 : decode cX4_leftAtWorst 42 = .ok (.iastore, 1) := by decide +kernel
theorem dX4_leftAtWorst_43 : decode cX4_leftAtWorst 43 = .ok (.iconst 0, 1) := by decide +kernel
theorem dX4_leftAtWorst_44 : decode cX4_leftAtWorst 44 = .ok (.istore 7, 2) := by decide +kernel
theorem dX4_leftAtWorst_46 : decode cX4_leftAtWorst 46 = .ok (.iconst 0, 1) := by decide +kernel
theorem dX4_leftAtWorst_47 : decode cX4_leftAtWorst 47 = .ok (.istore 8, 2) := by decide +kernel
theorem dX4_leftAtWorst_49 : decode cX4_leftAtWorst 49 = .ok (.iload 8, 2) := by decide +kernel
theorem dX4_leftAtWorst_51 : decode cX4_leftAtWorst 51 = .ok (.iload 6, 2) := by decide +kernel
theorem dX4_leftAtWorst_53 : decode cX4_leftAtWorst 53 = .ok (.if_icmp .gt 39, 3) := by decide +kernel
theorem dX4_leftAtWorst_56 : decode cX4_leftAtWorst 56 = .ok (.iload 4, 2) := by decide +kernel
theorem dX4_leftAtWorst_58 : decode cX4_leftAtWorst 58 = .ok (.iload 8, 2) := by decide +kernel
theorem dX4_leftAtWorst_60 : decode cX4_leftAtWorst 60 = .ok (.ishr, 1) := by decide +kernel
theorem dX4_leftAtWorst_61 : decode cX4_leftAtWorst 61 = .ok (.iconst 1, 1) := by decide +kernel
theorem dX4_leftAtWorst_62 : decode cX4_leftAtWorst 62 = .ok (.iand, 1) := by decide +kernel
theorem dX4_leftAtWorst_63 : decode cX4_leftAtWorst 63 = .ok (.ifCond .eq 23, 3) := by decide +kernel
theorem dX4_leftAtWorst_66 : decode cX4_leftAtWorst 66 = .ok (.aload_n 0, 1) := by decide +kernel
theorem dX4_leftAtWorst_67 : decode cX4_leftAtWorst 67 = .ok (.getfield 9, 3) := by decide +kernel
theorem dX4_leftAtWorst_70 : decode cX4_leftAtWorst 70 = .ok (.iload 8, 2) := by decide +kernel
theorem dX4_leftAtWorst_72 : decode cX4_leftAtWorst 72 = .ok (.iaload, 1) := by decide +kernel
theorem dX4_leftAtWorst_73 : decode cX4_leftAtWorst 73 = .ok (.aload_n 0, 1) := by decide +kernel
theorem dX4_leftAtWorst_74 : decode cX4_leftAtWorst 74 = .ok (.getfield 9, 3) := by decide +kernel
theorem dX4_leftAtWorst_77 : decode cX4_leftAtWorst 77 = .ok (.iload 6, 2) := by decide +kernel
theorem dX4_leftAtWorst_79 : decode cX4_leftAtWorst 79 = .ok (.iaload, 1) := by decide +kernel
theorem dX4_leftAtWorst_80 : decode cX4_leftAtWorst 80 = .ok (.if_icmp .ne 6, 3) := by decide +kernel
theorem dX4_leftAtWorst_83 : decode cX4_leftAtWorst 83 = .ok (.iinc 7 1, 3) := by decide +kernel
theorem dX4_leftAtWorst_86 : decode cX4_leftAtWorst 86 = .ok (.iinc 8 1, 3) := by decide +kernel
theorem dX4_leftAtWorst_89 : decode cX4_leftAtWorst 89 = .ok (.goto (-40), 3) := by decide +kernel
theorem dX4_leftAtWorst_92 : decode cX4_leftAtWorst 92 = .ok (.iload 5, 2) := by decide +kernel
theorem dX4_leftAtWorst_94 : decode cX4_leftAtWorst 94 = .ok (.iload 7, 2) := by decide +kernel
theorem dX4_leftAtWorst_96 : decode cX4_leftAtWorst 96 = .ok (.invokestatic 53, 3) := by decide +kernel
theorem dX4_leftAtWorst_99 : decode cX4_leftAtWorst 99 = .ok (.istore 5, 2) := by decide +kernel
theorem dX4_leftAtWorst_101 : decode cX4_leftAtWorst 101 = .ok (.iinc 6 1, 3) := by decide +kernel
theorem dX4_leftAtWorst_104 : decode cX4_leftAtWorst 104 = .ok (.goto (-98), 3) := by decide +kernel
theorem dX4_leftAtWorst_107 : decode cX4_leftAtWorst 107 = .ok (.iload 5, 2) := by decide +kernel
theorem dX4_leftAtWorst_109 : decode cX4_leftAtWorst 109 = .ok (.ireturn, 1) := by decide +kernel
theorem dX4_endAs_0 : decode cX4_endAs 0 = .ok (.aload_n 0, 1) := by decide +kernel
theorem dX4_endAs_1 : decode cX4_endAs 1 = .ok (.getfield 15, 3) := by decide +kernel
theorem dX4_endAs_4 : decode cX4_endAs 4 = .ok (.aload_n 1, 1) := by decide +kernel
theorem dX4_endAs_5 : decode cX4_endAs 5 = .ok (.invokevirtual 59, 3) := by decide +kernel
theorem dX4_endAs_8 : decode cX4_endAs 8 = .ok (.aload_n 0, 1) := by decide +kernel
theorem dX4_endAs_9 : decode cX4_endAs 9 = .ok (.getfield 15, 3) := by decide +kernel
theorem dX4_endAs_12 : decode cX4_endAs 12 = .ok (.getfield 65, 3) := by decide +kernel
theorem dX4_endAs_15 : decode cX4_endAs 15 = .ok (.iload_n 2, 1) := by decide +kernel
theorem dX4_endAs_16 : decode cX4_endAs 16 = .ok (.iload_n 3, 1) := by decide +kernel
theorem dX4_endAs_17 : decode cX4_endAs 17 = .ok (.invokevirtual 66, 3) := by decide +kernel
theorem dX4_endAs_20 : decode cX4_endAs 20 = .ok (.aload_n 0, 1) := by decide +kernel
theorem dX4_endAs_21 : decode cX4_endAs 21 = .ok (.getfield 15, 3) := by decide +kernel
theorem dX4_endAs_24 : decode cX4_endAs 24 = .ok (.iload 4, 2) := by decide +kernel
theorem dX4_endAs_26 : decode cX4_endAs 26 = .ok (.iload 5, 2) := by decide +kernel
theorem dX4_endAs_28 : decode cX4_endAs 28 = .ok (.iconst 0, 1) := by decide +kernel
theorem dX4_endAs_29 : decode cX4_endAs 29 = .ok (.invokevirtual 72, 3) := by decide +kernel
theorem dX4_endAs_32 : decode cX4_endAs 32 = .ok (.aload_n 0, 1) := by decide +kernel
theorem dX4_endAs_33 : decode cX4_endAs 33 = .ok (.getfield 15, 3) := by decide +kernel
theorem dX4_endAs_36 : decode cX4_endAs 36 = .ok (.getfield 65, 3) := by decide +kernel
theorem dX4_endAs_39 : decode cX4_endAs 39 = .ok (.iload_n 2, 1) := by decide +kernel
theorem dX4_endAs_40 : decode cX4_endAs 40 = .ok (.invokevirtual 76, 3) := by decide +kernel
theorem dX4_endAs_43 : decode cX4_endAs 43 = .ok (.ireturn, 1) := by decide +kernel
theorem dX5_init_0 : decode cX5_init 0 = .ok (.aload_n 0, 1) := by decide +kernel
theorem dX5_init_1 : decode cX5_init 1 = .ok (.invokespecial 1, 3) := by decide +kernel
theorem dX5_init_4 : decode cX5_init 4 = .ok (.return_, 1) := by decide +kernel
theorem dX5_powerWhenHit_0 : decode cX5_powerWhenHit 0 = .ok (.iload_n 1, 1) := by decide +kernel
theorem dX5_powerWhenHit_1 : decode cX5_powerWhenHit 1 = .ok (.iconst 2, 1) := by decide +kernel
theorem dX5_powerWhenHit_2 : decode cX5_powerWhenHit 2 = .ok (.idiv, 1) := by decide +kernel
theorem dX5_powerWhenHit_3 : decode cX5_powerWhenHit 3 = .ok (.ireturn, 1) := by decide +kernel
theorem dX6_init_0 : decode cX6_init 0 = .ok (.aload_n 0, 1) := by decide +kernel
theorem dX6_init_1 : decode cX6_init 1 = .ok (.invokespecial 1, 3) := by decide +kernel
theorem dX6_init_4 : decode cX6_init 4 = .ok (.return_, 1) := by decide +kernel
theorem dX6_powerWhenHit_0 : decode cX6_powerWhenHit 0 = .ok (.iload_n 1, 1) := by decide +kernel
theorem dX6_powerWhenHit_1 : decode cX6_powerWhenHit 1 = .ok (.iconst 1, 1) := by decide +kernel
theorem dX6_powerWhenHit_2 : decode cX6_powerWhenHit 2 = .ok (.iadd, 1) := by decide +kernel
theorem dX6_powerWhenHit_3 : decode cX6_powerWhenHit 3 = .ok (.ireturn, 1) := by decide +kernel
theorem dX7_init_0 : decode cX7_init 0 = .ok (.aload_n 0, 1) := by decide +kernel
theorem dX7_init_1 : decode cX7_init 1 = .ok (.invokespecial 3, 3) := by decide +kernel
theorem dX7_init_4 : decode cX7_init 4 = .ok (.aload_n 0, 1) := by decide +kernel
theorem dX7_init_5 : decode cX7_init 5 = .ok (.bipush 34, 2) := by decide +kernel
theorem dX7_init_7 : decode cX7_init 7 = .ok (.newarray .int, 2) := by decide +kernel
theorem dX7_init_9 : decode cX7_init 9 = .ok (.putfield 11, 3) := by decide +kernel
theorem dX7_init_12 : decode cX7_init 12 = .ok (.return_, 1) := by decide +kernel
theorem dX7_isFull_0 : decode cX7_isFull 0 = .ok (.aload_n 0, 1) := by decide +kernel
theorem dX7_isFull_1 : decode cX7_isFull 1 = .ok (.getfield 15, 3) := by decide +kernel
theorem dX7_isFull_4 : decode cX7_isFull 4 = .ok (.aload_n 0, 1) := by decide +kernel
theorem dX7_isFull_5 : decode cX7_isFull 5 = .ok (.getfield 11, 3) := by decide +kernel
theorem dX7_isFull_8 : decode cX7_isFull 8 = .ok (.arraylength, 1) := by decide +kernel
theorem dX7_isFull_9 : decode cX7_isFull 9 = .ok (.if_icmp .lt 7, 3) := by decide +kernel
theorem dX7_isFull_12 : decode cX7_isFull 12 = .ok (.iconst 1, 1) := by decide +kernel
theorem dX7_isFull_13 : decode cX7_isFull 13 = .ok (.goto 4, 3) := by decide +kernel
theorem dX7_isFull_16 : decode cX7_isFull 16 = .ok (.iconst 0, 1) := by decide +kernel
theorem dX7_isFull_17 : decode cX7_isFull 17 = .ok (.ireturn, 1) := by decide +kernel
theorem dX7_append_0 : decode cX7_append 0 = .ok (.aload_n 0, 1) := by decide +kernel
theorem dX7_append_1 : decode cX7_append 1 = .ok (.invokevirtual 19, 3) := by decide +kernel
theorem dX7_append_4 : decode cX7_append 4 = .ok (.ifCond .eq 4, 3) := by decide +kernel
theorem dX7_append_7 : decode cX7_append 7 = .ok (.return_, 1) := by decide +kernel
theorem dX7_append_8 : decode cX7_append 8 = .ok (.aload_n 0, 1) := by decide +kernel
theorem dX7_append_9 : decode cX7_append 9 = .ok (.getfield 11, 3) := by decide +kernel
theorem dX7_append_12 : decode cX7_append 12 = .ok (.aload_n 0, 1) := by decide +kernel
theorem dX7_append_13 : decode cX7_append 13 = .ok (.getfield 15, 3) := by decide +kernel
theorem dX7_append_16 : decode cX7_append 16 = .ok (.iload_n 1, 1) := by decide +kernel
theorem dX7_append_17 : decode cX7_append 17 = .ok (.iastore, 1) := by decide +kernel
theorem dX7_append_18 : decode cX7_append 18 = .ok (.aload_n 0, 1) := by decide +kernel
theorem dX7_append_19 : decode cX7_append 19 = .ok (.dup, 1) := by decide +kernel
theorem dX7_append_20 : decode cX7_append 20 = .ok (.getfield 15, 3) := by decide +kernel
theorem dX7_append_23 : decode cX7_append 23 = .ok (.iconst 1, 1) := by decide +kernel
theorem dX7_append_24 : decode cX7_append 24 = .ok (.iadd, 1) := by decide +kernel
theorem dX7_append_25 : decode cX7_append 25 = .ok (.putfield 15, 3) := by decide +kernel
theorem dX7_append_28 : decode cX7_append 28 = .ok (.return_, 1) := by decide +kernel
theorem dX7_firstFault_0 : decode cX7_firstFault 0 = .ok (.iconst 0, 1) := by decide +kernel
theorem dX7_firstFault_1 : decode cX7_firstFault 1 = .ok (.istore_n 1, 1) := by decide +kernel
theorem dX7_firstFault_2 : decode cX7_firstFault 2 = .ok (.iload_n 1, 1) := by decide +kernel
theorem dX7_firstFault_3 : decode cX7_firstFault 3 = .ok (.aload_n 0, 1) := by decide +kernel
theorem dX7_firstFault_4 : decode cX7_firstFault 4 = .ok (.getfield 15, 3) := by decide +kernel
theorem dX7_firstFault_7 : decode cX7_firstFault 7 = .ok (.if_icmp .ge 19, 3) := by decide +kernel
theorem dX7_firstFault_10 : decode cX7_firstFault 10 = .ok (.aload_n 0, 1) := by decide +kernel
theorem dX7_firstFault_11 : decode cX7_firstFault 11 = .ok (.iload_n 1, 1) := by decide +kernel
theorem dX7_firstFault_12 : decode cX7_firstFault 12 = .ok (.invokevirtual 23, 3) := by decide +kernel
theorem dX7_firstFault_15 : decode cX7_firstFault 15 = .ok (.ifCond .ne 5, 3) := by decide +kernel
theorem dX7_firstFault_18 : decode cX7_firstFault 18 = .ok (.iload_n 1, 1) := by decide +kernel
theorem dX7_firstFault_19 : decode cX7_firstFault 19 = .ok (.ireturn, 1) := by decide +kernel
theorem dX7_firstFault_20 : decode cX7_firstFault 20 = .ok (.iinc 1 1, 3) := by decide +kernel
theorem dX7_firstFault_23 : decode cX7_firstFault 23 = .ok (.goto (-21), 3) := by decide +kernel
theorem dX7_firstFault_26 : decode cX7_firstFault 26 = .ok (.aload_n 0, 1) := by decide +kernel
theorem dX7_firstFault_27 : decode cX7_firstFault 27 = .ok (.getfield 15, 3) := by decide +kernel
theorem dX7_firstFault_30 : decode cX7_firstFault 30 = .ok (.ireturn, 1) := by decide +kernel
theorem dX7_isWhole_0 : decode cX7_isWhole 0 = .ok (.aload_n 0, 1) := by decide +kernel
theorem dX7_isWhole_1 : decode cX7_isWhole 1 = .ok (.getfield 15, 3) := by decide +kernel
theorem dX7_isWhole_4 : decode cX7_isWhole 4 = .ok (.bipush 7, 2) := by decide +kernel
theorem dX7_isWhole_6 : decode cX7_isWhole 6 = .ok (.if_icmp .lt 28, 3) := by decide +kernel
theorem dX7_isWhole_9 : decode cX7_isWhole 9 = .ok (.aload_n 0, 1) := by decide +kernel
theorem dX7_isWhole_10 : decode cX7_isWhole 10 = .ok (.getfield 15, 3) := by decide +kernel
theorem dX7_isWhole_13 : decode cX7_isWhole 13 = .ok (.iconst 5, 1) := by decide +kernel
theorem dX7_isWhole_14 : decode cX7_isWhole 14 = .ok (.irem, 1) := by decide +kernel
theorem dX7_isWhole_15 : decode cX7_isWhole 15 = .ok (.iconst 2, 1) := by decide +kernel
theorem dX7_isWhole_16 : decode cX7_isWhole 16 = .ok (.if_icmp .ne 18, 3) := by decide +kernel
theorem dX7_isWhole_19 : decode cX7_isWhole 19 = .ok (.aload_n 0, 1) := by decide +kernel
theorem dX7_isWhole_20 : decode cX7_isWhole 20 = .ok (.invokevirtual 27, 3) := by decide +kernel
theorem dX7_isWhole_23 : decode cX7_isWhole 23 = .ok (.aload_n 0, 1) := by decide +kernel
theorem dX7_isWhole_24 : decode cX7_isWhole 24 = .ok (.getfield 15, 3) := by decide +kernel
theorem dX7_isWhole_27 : decode cX7_isWhole 27 = .ok (.if_icmp .ne 7, 3) := by decide +kernel
theorem dX7_isWhole_30 : decode cX7_isWhole 30 = .ok (.iconst 1, 1) := by decide +kernel
theorem dX7_isWhole_31 : decode cX7_isWhole 31 = .ok (.goto 4, 3) := by decide +kernel
theorem dX7_isWhole_34 : decode cX7_isWhole 34 = .ok (.iconst 0, 1) := by decide +kernel
theorem dX7_isWhole_35 : decode cX7_isWhole 35 = .ok (.ireturn, 1) := by decide +kernel
theorem dX7_readInto_0 : decode cX7_readInto 0 = .ok (.aload_n 1, 1) := by decide +kernel
theorem dX7_readInto_1 : decode cX7_readInto 1 = .ok (.aload_n 0, 1) := by decide +kernel
theorem dX7_readInto_2 : decode cX7_readInto 2 = .ok (.getfield 15, 3) := by decide +kernel
theorem dX7_readInto_5 : decode cX7_readInto 5 = .ok (.iconst 5, 1) := by decide +kernel
theorem dX7_readInto_6 : decode cX7_readInto 6 = .ok (.idiv, 1) := by decide +kernel
theorem dX7_readInto_7 : decode cX7_readInto 7 = .ok (.putfield 31, 3) := by decide +kernel
theorem dX7_readInto_10 : decode cX7_readInto 10 = .ok (.aload_n 1, 1) := by decide +kernel
theorem dX7_readInto_11 : decode cX7_readInto 11 = .ok (.aload_n 0, 1) := by decide +kernel
theorem dX7_readInto_12 : decode cX7_readInto 12 = .ok (.iconst 1, 1) := by decide +kernel
theorem dX7_readInto_13 : decode cX7_readInto 13 = .ok (.invokevirtual 34, 3) := by decide +kernel
theorem dX7_readInto_16 : decode cX7_readInto 16 = .ok (.putfield 38, 3) := by decide +kernel
theorem dX7_readInto_19 : decode cX7_readInto 19 = .ok (.aload_n 1, 1) := by decide +kernel
theorem dX7_readInto_20 : decode cX7_readInto 20 = .ok (.iconst 0, 1) := by decide +kernel
theorem dX7_readInto_21 : decode cX7_readInto 21 = .ok (.aload_n 1, 1) := by decide +kernel
theorem dX7_readInto_22 : decode cX7_readInto 22 = .ok (.getfield 38, 3) := by decide +kernel
theorem dX7_readInto_25 : decode cX7_readInto 25 = .ok (.invokevirtual 41, 3) := by decide +kernel
theorem dX7_readInto_28 : decode cX7_readInto 28 = .ok (.iconst 1, 1) := by decide +kernel
theorem dX7_readInto_29 : decode cX7_readInto 29 = .ok (.istore_n 2, 1) := by decide +kernel
theorem dX7_readInto_30 : decode cX7_readInto 30 = .ok (.iload_n 2, 1) := by decide +kernel
theorem dX7_readInto_31 : decode cX7_readInto 31 = .ok (.aload_n 1, 1) := by decide +kernel
theorem dX7_readInto_32 : decode cX7_readInto 32 = .ok (.getfield 31, 3) := by decide +kernel
theorem dX7_readInto_35 : decode cX7_readInto 35 = .ok (.if_icmp .gt 55, 3) := by decide +kernel
theorem dX7_readInto_38 : decode cX7_readInto 38 = .ok (.iconst 5, 1) := by decide +kernel
theorem dX7_readInto_39 : decode cX7_readInto 39 = .ok (.iload_n 2, 1) := by decide +kernel
theorem dX7_readInto_40 : decode cX7_readInto 40 = .ok (.imul, 1) := by decide +kernel
theorem dX7_readInto_41 : decode cX7_readInto 41 = .ok (.iconst 1, 1) := by decide +kernel
theorem dX7_readInto_42 : decode cX7_readInto 42 = .ok (.iadd, 1) := by decide +kernel
theorem dX7_readInto_43 : decode cX7_readInto 43 = .ok (.istore_n 3, 1) := by decide +kernel
theorem dX7_readInto_44 : decode cX7_readInto 44 = .ok (.aload_n 1, 1) := by decide +kernel
theorem dX7_readInto_45 : decode cX7_readInto 45 = .ok (.iload_n 2, 1) := by decide +kernel
theorem dX7_readInto_46 : decode cX7_readInto 46 = .ok (.ldc 45, 2) := by decide +kernel
theorem dX7_readInto_48 : decode cX7_readInto 48 = .ok (.aload_n 0, 1) := by decide +kernel
theorem dX7_readInto_49 : decode cX7_readInto 49 = .ok (.iload_n 3, 1) := by decide +kernel
theorem dX7_readInto_50 : decode cX7_readInto 50 = .ok (.iconst 3, 1) := by decide +kernel
theorem dX7_readInto_51 : decode cX7_readInto 51 = .ok (.isub, 1) := by decide +kernel
theorem dX7_readInto_52 : decode cX7_readInto 52 = .ok (.invokevirtual 47, 3) := by decide +kernel
theorem dX7_readInto_55 : decode cX7_readInto 55 = .ok (.i2c, 1) := by decide +kernel
theorem dX7_readInto_56 : decode cX7_readInto 56 = .ok (.invokevirtual 50, 3) := by decide +kernel
theorem dX7_readInto_59 : decode cX7_readInto 59 = .ok (.invokevirtual 55, 3) := by decide +kernel
theorem dX7_readInto_62 : decode cX7_readInto 62 = .ok (.aload_n 1, 1) := by decide +kernel
theorem dX7_readInto_63 : decode cX7_readInto 63 = .ok (.iload_n 2, 1) := by decide +kernel
theorem dX7_readInto_64 : decode cX7_readInto 64 = .ok (.aload_n 0, 1) := by decide +kernel
theorem dX7_readInto_65 : decode cX7_readInto 65 = .ok (.iload_n 3, 1) := by decide +kernel
theorem dX7_readInto_66 : decode cX7_readInto 66 = .ok (.iconst 2, 1) := by decide +kernel
theorem dX7_readInto_67 : decode cX7_readInto 67 = .ok (.isub, 1) := by decide +kernel
theorem dX7_readInto_68 : decode cX7_readInto 68 = .ok (.invokevirtual 58, 3) := by decide +kernel
theorem dX7_readInto_71 : decode cX7_readInto 71 = .ok (.invokevirtual 61, 3) := by decide +kernel
theorem dX7_readInto_74 : decode cX7_readInto 74 = .ok (.aload_n 1, 1) := by decide +kernel
theorem dX7_readInto_75 : decode cX7_readInto 75 = .ok (.iload_n 2, 1) := by decide +kernel
theorem dX7_readInto_76 : decode cX7_readInto 76 = .ok (.aload_n 0, 1) := by decide +kernel
theorem dX7_readInto_77 : decode cX7_readInto 77 = .ok (.iload_n 3, 1) := by decide +kernel
theorem dX7_readInto_78 : decode cX7_readInto 78 = .ok (.invokevirtual 34, 3) := by decide +kernel
theorem dX7_readInto_81 : decode cX7_readInto 81 = .ok (.invokevirtual 41, 3) := by decide +kernel
theorem dX7_readInto_84 : decode cX7_readInto 84 = .ok (.iinc 2 1, 3) := by decide +kernel
theorem dX7_readInto_87 : decode cX7_readInto 87 = .ok (.goto (-57), 3) := by decide +kernel
theorem dX7_readInto_90 : decode cX7_readInto 90 = .ok (.return_, 1) := by decide +kernel
theorem dX7_digestOn_0 : decode cX7_digestOn 0 = .ok (.lload_n 1, 1) := by decide +kernel
theorem dX7_digestOn_1 : decode cX7_digestOn 1 = .ok (.lstore_n 3, 1) := by decide +kernel
theorem dX7_digestOn_2 : decode cX7_digestOn 2 = .ok (.iconst 0, 1) := by decide +kernel
theorem dX7_digestOn_3 : decode cX7_digestOn 3 = .ok (.istore 5, 2) := by decide +kernel
theorem dX7_digestOn_5 : decode cX7_digestOn 5 = .ok (.iload 5, 2) := by decide +kernel
theorem dX7_digestOn_7 : decode cX7_digestOn 7 = .ok (.aload_n 0, 1) := by decide +kernel
theorem dX7_digestOn_8 : decode cX7_digestOn 8 = .ok (.getfield 15, 3) := by decide +kernel
theorem dX7_digestOn_11 : decode cX7_digestOn 11 = .ok (.if_icmp .ge 23, 3) := by decide +kernel
theorem dX7_digestOn_14 : decode cX7_digestOn 14 = .ok (.ldc2_w 64, 3) := by decide +kernel
theorem dX7_digestOn_17 : decode cX7_digestOn 17 = .ok (.lload_n 3, 1) := by decide +kernel
theorem dX7_digestOn_18 : decode cX7_digestOn 18 = .ok (.lmul, 1) := by decide +kernel
theorem dX7_digestOn_19 : decode cX7_digestOn 19 = .ok (.aload_n 0, 1) := by decide +kernel
theorem dX7_digestOn_20 : decode cX7_digestOn 20 = .ok (.iload 5, 2) := by decide +kernel
theorem dX7_digestOn_22 : decode cX7_digestOn 22 = .ok (.invokevirtual 47, 3) := by decide +kernel
theorem dX7_digestOn_25 : decode cX7_digestOn 25 = .ok (.i2l, 1) := by decide +kernel
theorem dX7_digestOn_26 : decode cX7_digestOn 26 = .ok (.ladd, 1) := by decide +kernel
theorem dX7_digestOn_27 : decode cX7_digestOn 27 = .ok (.lstore_n 3, 1) := by decide +kernel
theorem dX7_digestOn_28 : decode cX7_digestOn 28 = .ok (.iinc 5 1, 3) := by decide +kernel
theorem dX7_digestOn_31 : decode cX7_digestOn 31 = .ok (.goto (-26), 3) := by decide +kernel
theorem dX7_digestOn_34 : decode cX7_digestOn 34 = .ok (.lload_n 3, 1) := by decide +kernel
theorem dX7_digestOn_35 : decode cX7_digestOn 35 = .ok (.lreturn, 1) := by decide +kernel
theorem dX7_fits_0 : decode cX7_fits 0 = .ok (.iload_n 1, 1) := by decide +kernel
theorem dX7_fits_1 : decode cX7_fits 1 = .ok (.bipush 32, 2) := by decide +kernel
theorem dX7_fits_3 : decode cX7_fits 3 = .ok (.if_icmp .lt 5, 3) := by decide +kernel
theorem dX7_fits_6 : decode cX7_fits 6 = .ok (.iconst 0, 1) := by decide +kernel
theorem dX7_fits_7 : decode cX7_fits 7 = .ok (.ireturn, 1) := by decide +kernel
theorem dX7_fits_8 : decode cX7_fits 8 = .ok (.iload_n 1, 1) := by decide +kernel
theorem dX7_fits_9 : decode cX7_fits 9 = .ok (.iconst 5, 1) := by decide +kernel
theorem dX7_fits_10 : decode cX7_fits 10 = .ok (.irem, 1) := by decide +kernel
theorem dX7_fits_11 : decode cX7_fits 11 = .ok (.tableswitch 109 0 3 #[29, 38, 63, 89], 29) := by decide +kernel
theorem dX7_fits_40 : decode cX7_fits 40 = .ok (.aload_n 0, 1) := by decide +kernel
theorem dX7_fits_41 : decode cX7_fits 41 = .ok (.iload_n 1, 1) := by decide +kernel
theorem dX7_fits_42 : decode cX7_fits 42 = .ok (.invokevirtual 58, 3) := by decide +kernel
theorem dX7_fits_45 : decode cX7_fits 45 = .ok (.invokestatic 66, 3) := by decide +kernel
theorem dX7_fits_48 : decode cX7_fits 48 = .ok (.ireturn, 1) := by decide +kernel
theorem dX7_fits_49 : decode cX7_fits 49 = .ok (.aload_n 0, 1) := by decide +kernel
theorem dX7_fits_50 : decode cX7_fits 50 = .ok (.iload_n 1, 1) := by decide +kernel
theorem dX7_fits_51 : decode cX7_fits 51 = .ok (.invokevirtual 58, 3) := by decide +kernel
theorem dX7_fits_54 : decode cX7_fits 54 = .ok (.invokestatic 69, 3) := by decide +kernel
theorem dX7_fits_57 : decode cX7_fits 57 = .ok (.ifCond .eq 15, 3) := by decide +kernel
theorem dX7_fits_60 : decode cX7_fits 60 = .ok (.aload_n 0, 1) := by decide +kernel
theorem dX7_fits_61 : decode cX7_fits 61 = .ok (.iload_n 1, 1) := by decide +kernel
theorem dX7_fits_62 : decode cX7_fits 62 = .ok (.invokevirtual 72, 3) := by decide +kernel
theorem dX7_fits_65 : decode cX7_fits 65 = .ok (.ifCond .eq 7, 3) := by decide +kernel
theorem dX7_fits_68 : decode cX7_fits 68 = .ok (.iconst 1, 1) := by decide +kernel
theorem dX7_fits_69 : decode cX7_fits 69 = .ok (.goto 4, 3) := by decide +kernel
theorem dX7_fits_72 : decode cX7_fits 72 = .ok (.iconst 0, 1) := by decide +kernel
theorem dX7_fits_73 : decode cX7_fits 73 = .ok (.ireturn, 1) := by decide +kernel
theorem dX7_fits_74 : decode cX7_fits 74 = .ok (.aload_n 0, 1) := by decide +kernel
theorem dX7_fits_75 : decode cX7_fits 75 = .ok (.iload_n 1, 1) := by decide +kernel
theorem dX7_fits_76 : decode cX7_fits 76 = .ok (.invokevirtual 47, 3) := by decide +kernel
theorem dX7_fits_79 : decode cX7_fits 79 = .ok (.iload_n 1, 1) := by decide +kernel
theorem dX7_fits_80 : decode cX7_fits 80 = .ok (.iconst 2, 1) := by decide +kernel
theorem dX7_fits_81 : decode cX7_fits 81 = .ok (.if_icmp .ne 8, 3) := by decide +kernel
theorem dX7_fits_84 : decode cX7_fits 84 = .ok (.bipush 59, 2) := by decide +kernel
theorem dX7_fits_86 : decode cX7_fits 86 = .ok (.goto 5, 3) := by decide +kernel
theorem dX7_fits_89 : decode cX7_fits 89 = .ok (.bipush 44, 2) := by decide +kernel
theorem dX7_fits_91 : decode cX7_fits 91 = .ok (.if_icmp .ne 7, 3) := by decide +kernel
theorem dX7_fits_94 : decode cX7_fits 94 = .ok (.iconst 1, 1) := by decide +kernel
theorem dX7_fits_95 : decode cX7_fits 95 = .ok (.goto 4, 3) := by decide +kernel
theorem dX7_fits_98 : decode cX7_fits 98 = .ok (.iconst 0, 1) := by decide +kernel
theorem dX7_fits_99 : decode cX7_fits 99 = .ok (.ireturn, 1) := by decide +kernel
theorem dX7_fits_100 : decode cX7_fits 100 = .ok (.ldc 45, 2) := by decide +kernel
theorem dX7_fits_102 : decode cX7_fits 102 = .ok (.aload_n 0, 1) := by decide +kernel
theorem dX7_fits_103 : decode cX7_fits 103 = .ok (.iload_n 1, 1) := by decide +kernel
theorem dX7_fits_104 : decode cX7_fits 104 = .ok (.invokevirtual 47, 3) := by decide +kernel
theorem dX7_fits_107 : decode cX7_fits 107 = .ok (.i2c, 1) := by decide +kernel
theorem dX7_fits_108 : decode cX7_fits 108 = .ok (.invokevirtual 50, 3) := by decide +kernel
theorem dX7_fits_111 : decode cX7_fits 111 = .ok (.ifCond .lt 7, 3) := by decide +kernel
theorem dX7_fits_114 : decode cX7_fits 114 = .ok (.iconst 1, 1) := by decide +kernel
theorem dX7_fits_115 : decode cX7_fits 115 = .ok (.goto 4, 3) := by decide +kernel
theorem dX7_fits_118 : decode cX7_fits 118 = .ok (.iconst 0, 1) := by decide +kernel
theorem dX7_fits_119 : decode cX7_fits 119 = .ok (.ireturn, 1) := by decide +kernel
theorem dX7_fits_120 : decode cX7_fits 120 = .ok (.aload_n 0, 1) := by decide +kernel
theorem dX7_fits_121 : decode cX7_fits 121 = .ok (.iload_n 1, 1) := by decide +kernel
theorem dX7_fits_122 : decode cX7_fits 122 = .ok (.invokevirtual 58, 3) := by decide +kernel
theorem dX7_fits_125 : decode cX7_fits 125 = .ok (.iconst 1, 1) := by decide +kernel
theorem dX7_fits_126 : decode cX7_fits 126 = .ok (.bipush 7, 2) := by decide +kernel
theorem dX7_fits_128 : decode cX7_fits 128 = .ok (.invokestatic 75, 3) := by decide +kernel
theorem dX7_fits_131 : decode cX7_fits 131 = .ok (.ireturn, 1) := by decide +kernel
theorem dX7_isFreeCell_0 : decode cX7_isFreeCell 0 = .ok (.aload_n 0, 1) := by decide +kernel
theorem dX7_isFreeCell_1 : decode cX7_isFreeCell 1 = .ok (.iload_n 1, 1) := by decide +kernel
theorem dX7_isFreeCell_2 : decode cX7_isFreeCell 2 = .ok (.invokevirtual 34, 3) := by decide +kernel
theorem dX7_isFreeCell_5 : decode cX7_isFreeCell 5 = .ok (.istore_n 2, 1) := by decide +kernel
theorem dX7_isFreeCell_6 : decode cX7_isFreeCell 6 = .ok (.iconst 1, 1) := by decide +kernel
theorem dX7_isFreeCell_7 : decode cX7_isFreeCell 7 = .ok (.istore_n 3, 1) := by decide +kernel
theorem dX7_isFreeCell_8 : decode cX7_isFreeCell 8 = .ok (.iload_n 3, 1) := by decide +kernel
theorem dX7_isFreeCell_9 : decode cX7_isFreeCell 9 = .ok (.iload_n 1, 1) := by decide +kernel
theorem dX7_isFreeCell_10 : decode cX7_isFreeCell 10 = .ok (.if_icmp .ge 20, 3) := by decide +kernel
theorem dX7_isFreeCell_13 : decode cX7_isFreeCell 13 = .ok (.aload_n 0, 1) := by decide +kernel
theorem dX7_isFreeCell_14 : decode cX7_isFreeCell 14 = .ok (.iload_n 3, 1) := by decide +kernel
theorem dX7_isFreeCell_15 : decode cX7_isFreeCell 15 = .ok (.invokevirtual 34, 3) := by decide +kernel
theorem dX7_isFreeCell_18 : decode cX7_isFreeCell 18 = .ok (.iload_n 2, 1) := by decide +kernel
theorem dX7_isFreeCell_19 : decode cX7_isFreeCell 19 = .ok (.if_icmp .ne 5, 3) := by decide +kernel
theorem dX7_isFreeCell_22 : decode cX7_isFreeCell 22 = .ok (.iconst 0, 1) := by decide +kernel
theorem dX7_isFreeCell_23 : decode cX7_isFreeCell 23 = .ok (.ireturn, 1) := by decide +kernel
theorem dX7_isFreeCell_24 : decode cX7_isFreeCell 24 = .ok (.iinc 3 5, 3) := by decide +kernel
theorem dX7_isFreeCell_27 : decode cX7_isFreeCell 27 = .ok (.goto (-19), 3) := by decide +kernel
theorem dX7_isFreeCell_30 : decode cX7_isFreeCell 30 = .ok (.iload_n 2, 1) := by decide +kernel
theorem dX7_isFreeCell_31 : decode cX7_isFreeCell 31 = .ok (.invokestatic 79, 3) := by decide +kernel
theorem dX7_isFreeCell_34 : decode cX7_isFreeCell 34 = .ok (.ifCond .ne 7, 3) := by decide +kernel
theorem dX7_isFreeCell_37 : decode cX7_isFreeCell 37 = .ok (.iconst 1, 1) := by decide +kernel
theorem dX7_isFreeCell_38 : decode cX7_isFreeCell 38 = .ok (.goto 4, 3) := by decide +kernel
theorem dX7_isFreeCell_41 : decode cX7_isFreeCell 41 = .ok (.iconst 0, 1) := by decide +kernel
theorem dX7_isFreeCell_42 : decode cX7_isFreeCell 42 = .ok (.ireturn, 1) := by decide +kernel
theorem dX7_cellAt_0 : decode cX7_cellAt 0 = .ok (.bipush 9, 2) := by decide +kernel
theorem dX7_cellAt_2 : decode cX7_cellAt 2 = .ok (.aload_n 0, 1) := by decide +kernel
theorem dX7_cellAt_3 : decode cX7_cellAt 3 = .ok (.iload_n 1, 1) := by decide +kernel
theorem dX7_cellAt_4 : decode cX7_cellAt 4 = .ok (.iconst 1, 1) := by decide +kernel
theorem dX7_cellAt_5 : decode cX7_cellAt 5 = .ok (.isub, 1) := by decide +kernel
theorem dX7_cellAt_6 : decode cX7_cellAt 6 = .ok (.invokevirtual 58, 3) := by decide +kernel
theorem dX7_cellAt_9 : decode cX7_cellAt 9 = .ok (.imul, 1) := by decide +kernel
theorem dX7_cellAt_10 : decode cX7_cellAt 10 = .ok (.aload_n 0, 1) := by decide +kernel
theorem dX7_cellAt_11 : decode cX7_cellAt 11 = .ok (.iload_n 1, 1) := by decide +kernel
theorem dX7_cellAt_12 : decode cX7_cellAt 12 = .ok (.invokevirtual 58, 3) := by decide +kernel
theorem dX7_cellAt_15 : decode cX7_cellAt 15 = .ok (.iadd, 1) := by decide +kernel
theorem dX7_cellAt_16 : decode cX7_cellAt 16 = .ok (.ireturn, 1) := by decide +kernel
theorem dX7_digitAt_0 : decode cX7_digitAt 0 = .ok (.aload_n 0, 1) := by decide +kernel
theorem dX7_digitAt_1 : decode cX7_digitAt 1 = .ok (.iload_n 1, 1) := by decide +kernel
theorem dX7_digitAt_2 : decode cX7_digitAt 2 = .ok (.invokevirtual 47, 3) := by decide +kernel
theorem dX7_digitAt_5 : decode cX7_digitAt 5 = .ok (.bipush 48, 2) := by decide +kernel
theorem dX7_digitAt_7 : decode cX7_digitAt 7 = .ok (.isub, 1) := by decide +kernel
theorem dX7_digitAt_8 : decode cX7_digitAt 8 = .ok (.ireturn, 1) := by decide +kernel
theorem dX7_at_0 : decode cX7_at 0 = .ok (.iload_n 1, 1) := by decide +kernel
theorem dX7_at_1 : decode cX7_at 1 = .ok (.ifCond .lt 21, 3) := by decide +kernel
theorem dX7_at_4 : decode cX7_at 4 = .ok (.iload_n 1, 1) := by decide +kernel
theorem dX7_at_5 : decode cX7_at 5 = .ok (.aload_n 0, 1) := by decide +kernel
theorem dX7_at_6 : decode cX7_at 6 = .ok (.getfield 11, 3) := by decide +kernel
theorem dX7_at_9 : decode cX7_at 9 = .ok (.arraylength, 1) := by decide +kernel
theorem dX7_at_10 : decode cX7_at 10 = .ok (.if_icmp .ge 12, 3) := by decide +kernel
theorem dX7_at_13 : decode cX7_at 13 = .ok (.aload_n 0, 1) := by decide +kernel
theorem dX7_at_14 : decode cX7_at 14 = .ok (.getfield 11, 3) := by decide +kernel
theorem dX7_at_17 : decode cX7_at 17 = .ok (.iload_n 1, 1) := by decide +kernel
theorem dX7_at_18 : decode cX7_at 18 = .ok (.iaload, 1) := by decide +kernel
theorem dX7_at_19 : decode cX7_at 19 = .ok (.goto 4, 3) := by decide +kernel
theorem dX7_at_22 : decode cX7_at 22 = .ok (.iconst 0, 1) := by decide +kernel
theorem dX7_at_23 : decode cX7_at 23 = .ok (.ireturn, 1) := by decide +kernel
theorem dX8_init_0 : decode cX8_init 0 = .ok (.aload_n 0, 1) := by decide +kernel
theorem dX8_init_1 : decode cX8_init 1 = .ok (.invokespecial 1, 3) := by decide +kernel
theorem dX8_init_4 : decode cX8_init 4 = .ok (.return_, 1) := by decide +kernel
theorem dX8_powerWhenHit_0 : decode cX8_powerWhenHit 0 = .ok (.iload_n 1, 1) := by decide +kernel
theorem dX8_powerWhenHit_1 : decode cX8_powerWhenHit 1 = .ok (.iconst 2, 1) := by decide +kernel
theorem dX8_powerWhenHit_2 : decode cX8_powerWhenHit 2 = .ok (.idiv, 1) := by decide +kernel
theorem dX8_powerWhenHit_3 : decode cX8_powerWhenHit 3 = .ok (.iconst 2, 1) := by decide +kernel
theorem dX8_powerWhenHit_4 : decode cX8_powerWhenHit 4 = .ok (.idiv, 1) := by decide +kernel
theorem dX8_powerWhenHit_5 : decode cX8_powerWhenHit 5 = .ok (.ireturn, 1) := by decide +kernel
theorem dX9_init_0 : decode cX9_init 0 = .ok (.aload_n 0, 1) := by decide +kernel
theorem dX9_init_1 : decode cX9_init 1 = .ok (.invokespecial 3, 3) := by decide +kernel
theorem dX9_init_4 : decode cX9_init 4 = .ok (.aload_n 0, 1) := by decide +kernel
theorem dX9_init_5 : decode cX9_init 5 = .ok (.new 9, 3) := by decide +kernel
theorem dX9_init_8 : decode cX9_init 8 = .ok (.dup, 1) := by decide +kernel
theorem dX9_init_9 : decode cX9_init 9 = .ok (.invokespecial 11, 3) := by decide +kernel
theorem dX9_init_12 : decode cX9_init 12 = .ok (.putfield 12, 3) := by decide +kernel
theorem dX9_init_15 : decode cX9_init 15 = .ok (.aload_n 0, 1) := by decide +kernel
theorem dX9_init_16 : decode cX9_init 16 = .ok (.aload_n 1, 1) := by decide +kernel
theorem dX9_init_17 : decode cX9_init 17 = .ok (.putfield 18, 3) := by decide +kernel
theorem dX9_init_20 : decode cX9_init 20 = .ok (.return_, 1) := by decide +kernel
theorem dX9_begin_0 : decode cX9_begin 0 = .ok (.aload_n 0, 1) := by decide +kernel
theorem dX9_begin_1 : decode cX9_begin 1 = .ok (.getfield 12, 3) := by decide +kernel
theorem dX9_begin_4 : decode cX9_begin 4 = .ok (.aload_n 1, 1) := by decide +kernel
theorem dX9_begin_5 : decode cX9_begin 5 = .ok (.invokevirtual 22, 3) := by decide +kernel
theorem dX9_begin_8 : decode cX9_begin 8 = .ok (.return_, 1) := by decide +kernel
theorem dX9_shoot_0 : decode cX9_shoot 0 = .ok (.aload_n 0, 1) := by decide +kernel
theorem dX9_shoot_1 : decode cX9_shoot 1 = .ok (.iconst 0, 1) := by decide +kernel
theorem dX9_shoot_2 : decode cX9_shoot 2 = .ok (.putfield 26, 3) := by decide +kernel
theorem dX9_shoot_5 : decode cX9_shoot 5 = .ok (.aload_n 0, 1) := by decide +kernel
theorem dX9_shoot_6 : decode cX9_shoot 6 = .ok (.iconst 0, 1) := by decide +kernel
theorem dX9_shoot_7 : decode cX9_shoot 7 = .ok (.putfield 30, 3) := by decide +kernel
theorem dX9_shoot_10 : decode cX9_shoot 10 = .ok (.aload_n 0, 1) := by decide +kernel
theorem dX9_shoot_11 : decode cX9_shoot 11 = .ok (.iconst 0, 1) := by decide +kernel
theorem dX9_shoot_12 : decode cX9_shoot 12 = .ok (.putfield 33, 3) := by decide +kernel
theorem dX9_shoot_15 : decode cX9_shoot 15 = .ok (.aload_n 0, 1) := by decide +kernel
theorem dX9_shoot_16 : decode cX9_shoot 16 = .ok (.iconst (-1), 1) := by decide +kernel
theorem dX9_shoot_17 : decode cX9_shoot 17 = .ok (.putfield 36, 3) := by decide +kernel
theorem dX9_shoot_20 : decode cX9_shoot 20 = .ok (.aload_n 0, 1) := by decide +kernel
theorem dX9_shoot_21 : decode cX9_shoot 21 = .ok (.iconst 0, 1) := by decide +kernel
theorem dX9_shoot_22 : decode cX9_shoot 22 = .ok (.putfield 39, 3) := by decide +kernel
theorem dX9_shoot_25 : decode cX9_shoot 25 = .ok (.aload_n 0, 1) := by decide +kernel
theorem dX9_shoot_26 : decode cX9_shoot 26 = .ok (.iconst 0, 1) := by decide +kernel
theorem dX9_shoot_27 : decode cX9_shoot 27 = .ok (.iload_n 1, 1) := by decide +kernel
theorem dX9_shoot_28 : decode cX9_shoot 28 = .ok (.iload_n 2, 1) := by decide +kernel
theorem dX9_shoot_29 : decode cX9_shoot 29 = .ok (.invokevirtual 42, 3) := by decide +kernel
theorem dX9_shoot_32 : decode cX9_shoot 32 = .ok (.aload_n 0, 1) := by decide +kernel
theorem dX9_shoot_33 : decode cX9_shoot 33 = .ok (.getfield 36, 3) := by decide +kernel
theorem dX9_shoot_36 : decode cX9_shoot 36 = .ok (.iconst (-1), 1) := by decide +kernel
theorem dX9_shoot_37 : decode cX9_shoot 37 = .ok (.if_icmp .ne 7, 3) := by decide +kernel
theorem dX9_shoot_40 : decode cX9_shoot 40 = .ok (.iconst 1, 1) := by decide +kernel
theorem dX9_shoot_41 : decode cX9_shoot 41 = .ok (.goto 4, 3) := by decide +kernel
theorem dX9_shoot_44 : decode cX9_shoot 44 = .ok (.iconst 0, 1) := by decide +kernel
theorem dX9_shoot_45 : decode cX9_shoot 45 = .ok (.istore 4, 2) := by decide +kernel
theorem dX9_shoot_47 : decode cX9_shoot 47 = .ok (.iload_n 3, 1) := by decide +kernel
theorem dX9_shoot_48 : decode cX9_shoot 48 = .ok (.ifCond .eq 47, 3) := by decide +kernel
theorem dX9_shoot_51 : decode cX9_shoot 51 = .ok (.iload 4, 2) := by decide +kernel
theorem dX9_shoot_53 : decode cX9_shoot 53 = .ok (.ifCond .ne 42, 3) := by decide +kernel
theorem dX9_shoot_56 : decode cX9_shoot 56 = .ok (.aload_n 0, 1) := by decide +kernel
theorem dX9_shoot_57 : decode cX9_shoot 57 = .ok (.invokevirtual 46, 3) := by decide +kernel
theorem dX9_shoot_60 : decode cX9_shoot 60 = .ok (.ifCond .ne 35, 3) := by decide +kernel
theorem dX9_shoot_63 : decode cX9_shoot 63 = .ok (.aload_n 0, 1) := by decide +kernel
theorem dX9_shoot_64 : decode cX9_shoot 64 = .ok (.iconst 0, 1) := by decide +kernel
theorem dX9_shoot_65 : decode cX9_shoot 65 = .ok (.iload_n 3, 1) := by decide +kernel
theorem dX9_shoot_66 : decode cX9_shoot 66 = .ok (.iconst 1, 1) := by decide +kernel
theorem dX9_shoot_67 : decode cX9_shoot 67 = .ok (.if_icmp .ne 10, 3) := by decide +kernel
theorem dX9_shoot_70 : decode cX9_shoot 70 = .ok (.aload_n 0, 1) := by decide +kernel
theorem dX9_shoot_71 : decode cX9_shoot 71 = .ok (.getfield 36, 3) := by decide +kernel
theorem dX9_shoot_74 : decode cX9_shoot 74 = .ok (.goto 12, 3) := by decide +kernel
theorem dX9_shoot_77 : decode cX9_shoot 77 = .ok (.aload_n 0, 1) := by decide +kernel
theorem dX9_shoot_78 : decode cX9_shoot 78 = .ok (.getfield 36, 3) := by decide +kernel
theorem dX9_shoot_81 : decode cX9_shoot 81 = .ok (.iconst 4, 1) := by decide +kernel
theorem dX9_shoot_82 : decode cX9_shoot 82 = .ok (.iadd, 1) := by decide +kernel
theorem dX9_shoot_83 : decode cX9_shoot 83 = .ok (.bipush 7, 2) := by decide +kernel
theorem dX9_shoot_85 : decode cX9_shoot 85 = .ok (.iand, 1) := by decide +kernel
theorem dX9_shoot_86 : decode cX9_shoot 86 = .ok (.aload_n 0, 1) := by decide +kernel
theorem dX9_shoot_87 : decode cX9_shoot 87 = .ok (.getfield 39, 3) := by decide +kernel
theorem dX9_shoot_90 : decode cX9_shoot 90 = .ok (.iconst 2, 1) := by decide +kernel
theorem dX9_shoot_91 : decode cX9_shoot 91 = .ok (.idiv, 1) := by decide +kernel
theorem dX9_shoot_92 : decode cX9_shoot 92 = .ok (.invokevirtual 42, 3) := by decide +kernel
theorem dX9_shoot_95 : decode cX9_shoot 95 = .ok (.aload_n 0, 1) := by decide +kernel
theorem dX9_shoot_96 : decode cX9_shoot 96 = .ok (.iload 4, 2) := by decide +kernel
theorem dX9_shoot_98 : decode cX9_shoot 98 = .ok (.ifCond .ne 10, 3) := by decide +kernel
theorem dX9_shoot_101 : decode cX9_shoot 101 = .ok (.aload_n 0, 1) := by decide +kernel
theorem dX9_shoot_102 : decode cX9_shoot 102 = .ok (.invokevirtual 46, 3) := by decide +kernel
theorem dX9_shoot_105 : decode cX9_shoot 105 = .ok (.ifCond .eq 7, 3) := by decide +kernel
theorem dX9_shoot_108 : decode cX9_shoot 108 = .ok (.iconst 1, 1) := by decide +kernel
theorem dX9_shoot_109 : decode cX9_shoot 109 = .ok (.goto 4, 3) := by decide +kernel
theorem dX9_shoot_112 : decode cX9_shoot 112 = .ok (.iconst 0, 1) := by decide +kernel
theorem dX9_shoot_113 : decode cX9_shoot 113 = .ok (.putfield 50, 3) := by decide +kernel
theorem dX9_shoot_116 : decode cX9_shoot 116 = .ok (.aload_n 0, 1) := by decide +kernel
theorem dX9_shoot_117 : decode cX9_shoot 117 = .ok (.aload_n 0, 1) := by decide +kernel
theorem dX9_shoot_118 : decode cX9_shoot 118 = .ok (.invokevirtual 54, 3) := by decide +kernel
theorem dX9_shoot_121 : decode cX9_shoot 121 = .ok (.aload_n 0, 1) := by decide +kernel
theorem dX9_shoot_122 : decode cX9_shoot 122 = .ok (.getfield 50, 3) := by decide +kernel
theorem dX9_shoot_125 : decode cX9_shoot 125 = .ok (.ifCond .eq 7, 3) := by decide +kernel
theorem dX9_shoot_128 : decode cX9_shoot 128 = .ok (.iconst 4, 1) := by decide +kernel
theorem dX9_shoot_129 : decode cX9_shoot 129 = .ok (.goto 4, 3) := by decide +kernel
theorem dX9_shoot_132 : decode cX9_shoot 132 = .ok (.iconst 0, 1) := by decide +kernel
theorem dX9_shoot_133 : decode cX9_shoot 133 = .ok (.isub, 1) := by decide +kernel
theorem dX9_shoot_134 : decode cX9_shoot 134 = .ok (.putfield 58, 3) := by decide +kernel
theorem dX9_shoot_137 : decode cX9_shoot 137 = .ok (.aload_n 0, 1) := by decide +kernel
theorem dX9_shoot_138 : decode cX9_shoot 138 = .ok (.invokevirtual 46, 3) := by decide +kernel
theorem dX9_shoot_141 : decode cX9_shoot 141 = .ok (.ifCond .eq 10, 3) := by decide +kernel
theorem dX9_shoot_144 : decode cX9_shoot 144 = .ok (.aload_n 0, 1) := by decide +kernel
theorem dX9_shoot_145 : decode cX9_shoot 145 = .ok (.getfield 12, 3) := by decide +kernel
theorem dX9_shoot_148 : decode cX9_shoot 148 = .ok (.invokevirtual 61, 3) := by decide +kernel
theorem dX9_shoot_151 : decode cX9_shoot 151 = .ok (.return_, 1) := by decide +kernel
theorem dX9_tell_0 : decode cX9_tell 0 = .ok (.iload_n 1, 1) := by decide +kernel
theorem dX9_tell_1 : decode cX9_tell 1 = .ok (.tableswitch 84 0 5 #[39, 47, 56, 61, 74, 79], 39) := by decide +kernel
theorem dX9_tell_40 : decode cX9_tell 40 = .ok (.aload_n 0, 1) := by decide +kernel
theorem dX9_tell_41 : decode cX9_tell 41 = .ok (.getfield 58, 3) := by decide +kernel
theorem dX9_tell_44 : decode cX9_tell 44 = .ok (.bipush 100, 2) := by decide +kernel
theorem dX9_tell_46 : decode cX9_tell 46 = .ok (.iadd, 1) := by decide +kernel
theorem dX9_tell_47 : decode cX9_tell 47 = .ok (.ireturn, 1) := by decide +kernel
theorem dX9_tell_48 : decode cX9_tell 48 = .ok (.aload_n 0, 1) := by decide +kernel
theorem dX9_tell_49 : decode cX9_tell 49 = .ok (.getfield 12, 3) := by decide +kernel
theorem dX9_tell_52 : decode cX9_tell 52 = .ok (.iconst 0, 1) := by decide +kernel
theorem dX9_tell_53 : decode cX9_tell 53 = .ok (.invokevirtual 64, 3) := by decide +kernel
theorem dX9_tell_56 : decode cX9_tell 56 = .ok (.ireturn, 1) := by decide +kernel
theorem dX9_tell_57 : decode cX9_tell 57 = .ok (.aload_n 0, 1) := by decide +kernel
theorem dX9_tell_58 : decode cX9_tell 58 = .ok (.getfield 33, 3) := by decide +kernel
theorem dX9_tell_61 : decode cX9_tell 61 = .ok (.ireturn, 1) := by decide +kernel
theorem dX9_tell_62 : decode cX9_tell 62 = .ok (.aload_n 0, 1) := by decide +kernel
theorem dX9_tell_63 : decode cX9_tell 63 = .ok (.getfield 50, 3) := by decide +kernel
theorem dX9_tell_66 : decode cX9_tell 66 = .ok (.ifCond .eq 7, 3) := by decide +kernel
theorem dX9_tell_69 : decode cX9_tell 69 = .ok (.iconst 1, 1) := by decide +kernel
theorem dX9_tell_70 : decode cX9_tell 70 = .ok (.goto 4, 3) := by decide +kernel
theorem dX9_tell_73 : decode cX9_tell 73 = .ok (.iconst 0, 1) := by decide +kernel
theorem dX9_tell_74 : decode cX9_tell 74 = .ok (.ireturn, 1) := by decide +kernel
theorem dX9_tell_75 : decode cX9_tell 75 = .ok (.aload_n 0, 1) := by decide +kernel
theorem dX9_tell_76 : decode cX9_tell 76 = .ok (.getfield 26, 3) := by decide +kernel
theorem dX9_tell_79 : decode cX9_tell 79 = .ok (.ireturn, 1) := by decide +kernel
theorem dX9_tell_80 : decode cX9_tell 80 = .ok (.aload_n 0, 1) := by decide +kernel
theorem dX9_tell_81 : decode cX9_tell 81 = .ok (.getfield 30, 3) := by decide +kernel
theorem dX9_tell_84 : decode cX9_tell 84 = .ok (.ireturn, 1) := by decide +kernel
theorem dX9_tell_85 : decode cX9_tell 85 = .ok (.aload_n 0, 1) := by decide +kernel
theorem dX9_tell_86 : decode cX9_tell 86 = .ok (.getfield 12, 3) := by decide +kernel
theorem dX9_tell_89 : decode cX9_tell 89 = .ok (.iload_n 1, 1) := by decide +kernel
theorem dX9_tell_90 : decode cX9_tell 90 = .ok (.bipush 9, 2) := by decide +kernel
theorem dX9_tell_92 : decode cX9_tell 92 = .ok (.isub, 1) := by decide +kernel
theorem dX9_tell_93 : decode cX9_tell 93 = .ok (.invokevirtual 64, 3) := by decide +kernel
theorem dX9_tell_96 : decode cX9_tell 96 = .ok (.ireturn, 1) := by decide +kernel
theorem dX9_hasPotted_0 : decode cX9_hasPotted 0 = .ok (.aload_n 0, 1) := by decide +kernel
theorem dX9_hasPotted_1 : decode cX9_hasPotted 1 = .ok (.getfield 33, 3) := by decide +kernel
theorem dX9_hasPotted_4 : decode cX9_hasPotted 4 = .ok (.iload_n 1, 1) := by decide +kernel
theorem dX9_hasPotted_5 : decode cX9_hasPotted 5 = .ok (.ishr, 1) := by decide +kernel
theorem dX9_hasPotted_6 : decode cX9_hasPotted 6 = .ok (.iconst 1, 1) := by decide +kernel
theorem dX9_hasPotted_7 : decode cX9_hasPotted 7 = .ok (.iand, 1) := by decide +kernel
theorem dX9_hasPotted_8 : decode cX9_hasPotted 8 = .ok (.ifCond .eq 7, 3) := by decide +kernel
theorem dX9_hasPotted_11 : decode cX9_hasPotted 11 = .ok (.iconst 1, 1) := by decide +kernel
theorem dX9_hasPotted_12 : decode cX9_hasPotted 12 = .ok (.goto 4, 3) := by decide +kernel
theorem dX9_hasPotted_15 : decode cX9_hasPotted 15 = .ok (.iconst 0, 1) := by decide +kernel
theorem dX9_hasPotted_16 : decode cX9_hasPotted 16 = .ok (.ireturn, 1) := by decide +kernel
theorem dX9_roll_0 : decode cX9_roll 0 = .ok (.iload_n 1, 1) := by decide +kernel
theorem dX9_roll_1 : decode cX9_roll 1 = .ok (.istore 4, 2) := by decide +kernel
theorem dX9_roll_3 : decode cX9_roll 3 = .ok (.iload_n 2, 1) := by decide +kernel
theorem dX9_roll_4 : decode cX9_roll 4 = .ok (.istore 5, 2) := by decide +kernel
theorem dX9_roll_6 : decode cX9_roll 6 = .ok (.iload_n 3, 1) := by decide +kernel
theorem dX9_roll_7 : decode cX9_roll 7 = .ok (.istore 6, 2) := by decide +kernel
theorem dX9_roll_9 : decode cX9_roll 9 = .ok (.iconst 0, 1) := by decide +kernel
theorem dX9_roll_10 : decode cX9_roll 10 = .ok (.istore 7, 2) := by decide +kernel
theorem dX9_roll_12 : decode cX9_roll 12 = .ok (.iload 7, 2) := by decide +kernel
theorem dX9_roll_14 : decode cX9_roll 14 = .ok (.sipush 1000, 3) := by decide +kernel
theorem dX9_roll_17 : decode cX9_roll 17 = .ok (.if_icmp .ge 290, 3) := by decide +kernel
theorem dX9_roll_20 : decode cX9_roll 20 = .ok (.iload 6, 2) := by decide +kernel
theorem dX9_roll_22 : decode cX9_roll 22 = .ok (.ifCond .le 285, 3) := by decide +kernel
theorem dX9_roll_25 : decode cX9_roll 25 = .ok (.aload_n 0, 1) := by decide +kernel
theorem dX9_roll_26 : decode cX9_roll 26 = .ok (.getfield 12, 3) := by decide +kernel
theorem dX9_roll_29 : decode cX9_roll 29 = .ok (.iload 4, 2) := by decide +kernel
theorem dX9_roll_31 : decode cX9_roll 31 = .ok (.invokevirtual 64, 3) := by decide +kernel
theorem dX9_roll_34 : decode cX9_roll 34 = .ok (.bipush 9, 2) := by decide +kernel
theorem dX9_roll_36 : decode cX9_roll 36 = .ok (.idiv, 1) := by decide +kernel
theorem dX9_roll_37 : decode cX9_roll 37 = .ok (.iload 5, 2) := by decide +kernel
theorem dX9_roll_39 : decode cX9_roll 39 = .ok (.invokestatic 68, 3) := by decide +kernel
theorem dX9_roll_42 : decode cX9_roll 42 = .ok (.iadd, 1) := by decide +kernel
theorem dX9_roll_43 : decode cX9_roll 43 = .ok (.istore 8, 2) := by decide +kernel
theorem dX9_roll_45 : decode cX9_roll 45 = .ok (.aload_n 0, 1) := by decide +kernel
theorem dX9_roll_46 : decode cX9_roll 46 = .ok (.getfield 12, 3) := by decide +kernel
theorem dX9_roll_49 : decode cX9_roll 49 = .ok (.iload 4, 2) := by decide +kernel
theorem dX9_roll_51 : decode cX9_roll 51 = .ok (.invokevirtual 64, 3) := by decide +kernel
theorem dX9_roll_54 : decode cX9_roll 54 = .ok (.bipush 9, 2) := by decide +kernel
theorem dX9_roll_56 : decode cX9_roll 56 = .ok (.irem, 1) := by decide +kernel
theorem dX9_roll_57 : decode cX9_roll 57 = .ok (.iload 5, 2) := by decide +kernel
theorem dX9_roll_59 : decode cX9_roll 59 = .ok (.invokestatic 71, 3) := by decide +kernel
theorem dX9_roll_62 : decode cX9_roll 62 = .ok (.iadd, 1) := by decide +kernel
theorem dX9_roll_63 : decode cX9_roll 63 = .ok (.istore 9, 2) := by decide +kernel
theorem dX9_roll_65 : decode cX9_roll 65 = .ok (.bipush 9, 2) := by decide +kernel
theorem dX9_roll_67 : decode cX9_roll 67 = .ok (.iload 8, 2) := by decide +kernel
theorem dX9_roll_69 : decode cX9_roll 69 = .ok (.imul, 1) := by decide +kernel
theorem dX9_roll_70 : decode cX9_roll 70 = .ok (.iload 9, 2) := by decide +kernel
theorem dX9_roll_72 : decode cX9_roll 72 = .ok (.iadd, 1) := by decide +kernel
theorem dX9_roll_73 : decode cX9_roll 73 = .ok (.istore 10, 2) := by decide +kernel
theorem dX9_roll_75 : decode cX9_roll 75 = .ok (.iload 8, 2) := by decide +kernel
theorem dX9_roll_77 : decode cX9_roll 77 = .ok (.invokestatic 74, 3) := by decide +kernel
theorem dX9_roll_80 : decode cX9_roll 80 = .ok (.ifCond .eq 11, 3) := by decide +kernel
theorem dX9_roll_83 : decode cX9_roll 83 = .ok (.iload 9, 2) := by decide +kernel
theorem dX9_roll_85 : decode cX9_roll 85 = .ok (.invokestatic 78, 3) := by decide +kernel
theorem dX9_roll_88 : decode cX9_roll 88 = .ok (.ifCond .ne 87, 3) := by decide +kernel
theorem dX9_roll_91 : decode cX9_roll 91 = .ok (.aload_n 0, 1) := by decide +kernel
theorem dX9_roll_92 : decode cX9_roll 92 = .ok (.aload_n 0, 1) := by decide +kernel
theorem dX9_roll_93 : decode cX9_roll 93 = .ok (.getfield 12, 3) := by decide +kernel
theorem dX9_roll_96 : decode cX9_roll 96 = .ok (.iload 4, 2) := by decide +kernel
theorem dX9_roll_98 : decode cX9_roll 98 = .ok (.invokevirtual 81, 3) := by decide +kernel
theorem dX9_roll_101 : decode cX9_roll 101 = .ok (.invokevirtual 84, 3) := by decide +kernel
theorem dX9_roll_104 : decode cX9_roll 104 = .ok (.invokevirtual 88, 3) := by decide +kernel
theorem dX9_roll_107 : decode cX9_roll 107 = .ok (.istore 11, 2) := by decide +kernel
theorem dX9_roll_109 : decode cX9_roll 109 = .ok (.iload 11, 2) := by decide +kernel
theorem dX9_roll_111 : decode cX9_roll 111 = .ok (.ifCond .ne 13, 3) := by decide +kernel
theorem dX9_roll_114 : decode cX9_roll 114 = .ok (.aload_n 0, 1) := by decide +kernel
theorem dX9_roll_115 : decode cX9_roll 115 = .ok (.dup, 1) := by decide +kernel
theorem dX9_roll_116 : decode cX9_roll 116 = .ok (.getfield 30, 3) := by decide +kernel
theorem dX9_roll_119 : decode cX9_roll 119 = .ok (.iconst 1, 1) := by decide +kernel
theorem dX9_roll_120 : decode cX9_roll 120 = .ok (.iadd, 1) := by decide +kernel
theorem dX9_roll_121 : decode cX9_roll 121 = .ok (.putfield 30, 3) := by decide +kernel
theorem dX9_roll_124 : decode cX9_roll 124 = .ok (.iload 5, 2) := by decide +kernel
theorem dX9_roll_126 : decode cX9_roll 126 = .ok (.iload 8, 2) := by decide +kernel
theorem dX9_roll_128 : decode cX9_roll 128 = .ok (.invokestatic 74, 3) := by decide +kernel
theorem dX9_roll_131 : decode cX9_roll 131 = .ok (.ifCond .ne 7, 3) := by decide +kernel
theorem dX9_roll_134 : decode cX9_roll 134 = .ok (.iconst 1, 1) := by decide +kernel
theorem dX9_roll_135 : decode cX9_roll 135 = .ok (.goto 4, 3) := by decide +kernel
theorem dX9_roll_138 : decode cX9_roll 138 = .ok (.iconst 0, 1) := by decide +kernel
theorem dX9_roll_139 : decode cX9_roll 139 = .ok (.iload 9, 2) := by decide +kernel
theorem dX9_roll_141 : decode cX9_roll 141 = .ok (.invokestatic 78, 3) := by decide +kernel
theorem dX9_roll_144 : decode cX9_roll 144 = .ok (.ifCond .ne 7, 3) := by decide +kernel
theorem dX9_roll_147 : decode cX9_roll 147 = .ok (.iconst 1, 1) := by decide +kernel
theorem dX9_roll_148 : decode cX9_roll 148 = .ok (.goto 4, 3) := by decide +kernel
theorem dX9_roll_151 : decode cX9_roll 151 = .ok (.iconst 0, 1) := by decide +kernel
theorem dX9_roll_152 : decode cX9_roll 152 = .ok (.invokestatic 93, 3) := by decide +kernel
theorem dX9_roll_155 : decode cX9_roll 155 = .ok (.istore 5, 2) := by decide +kernel
theorem dX9_roll_157 : decode cX9_roll 157 = .ok (.iload 11, 2) := by decide +kernel
theorem dX9_roll_159 : decode cX9_roll 159 = .ok (.ifCond .eq 7, 3) := by decide +kernel
theorem dX9_roll_162 : decode cX9_roll 162 = .ok (.iconst 0, 1) := by decide +kernel
theorem dX9_roll_163 : decode cX9_roll 163 = .ok (.goto 7, 3) := by decide +kernel
theorem dX9_roll_166 : decode cX9_roll 166 = .ok (.iload 6, 2) := by decide +kernel
theorem dX9_roll_168 : decode cX9_roll 168 = .ok (.iconst 1, 1) := by decide +kernel
theorem dX9_roll_169 : decode cX9_roll 169 = .ok (.isub, 1) := by decide +kernel
theorem dX9_roll_170 : decode cX9_roll 170 = .ok (.istore 6, 2) := by decide +kernel
theorem dX9_roll_172 : decode cX9_roll 172 = .ok (.goto 129, 3) := by decide +kernel
theorem dX9_roll_175 : decode cX9_roll 175 = .ok (.aload_n 0, 1) := by decide +kernel
theorem dX9_roll_176 : decode cX9_roll 176 = .ok (.getfield 12, 3) := by decide +kernel
theorem dX9_roll_179 : decode cX9_roll 179 = .ok (.iload 10, 2) := by decide +kernel
theorem dX9_roll_181 : decode cX9_roll 181 = .ok (.invokevirtual 97, 3) := by decide +kernel
theorem dX9_roll_184 : decode cX9_roll 184 = .ok (.iconst (-1), 1) := by decide +kernel
theorem dX9_roll_185 : decode cX9_roll 185 = .ok (.if_icmp .eq 53, 3) := by decide +kernel
theorem dX9_roll_188 : decode cX9_roll 188 = .ok (.iinc 6 (-1), 3) := by decide +kernel
theorem dX9_roll_191 : decode cX9_roll 191 = .ok (.iload 4, 2) := by decide +kernel
theorem dX9_roll_193 : decode cX9_roll 193 = .ok (.ifCond .ne 11, 3) := by decide +kernel
theorem dX9_roll_196 : decode cX9_roll 196 = .ok (.aload_n 0, 1) := by decide +kernel
theorem dX9_roll_197 : decode cX9_roll 197 = .ok (.iload 5, 2) := by decide +kernel
theorem dX9_roll_199 : decode cX9_roll 199 = .ok (.iload 6, 2) := by decide +kernel
theorem dX9_roll_201 : decode cX9_roll 201 = .ok (.invokevirtual 100, 3) := by decide +kernel
theorem dX9_roll_204 : decode cX9_roll 204 = .ok (.aload_n 0, 1) := by decide +kernel
theorem dX9_roll_205 : decode cX9_roll 205 = .ok (.getfield 12, 3) := by decide +kernel
theorem dX9_roll_208 : decode cX9_roll 208 = .ok (.iload 10, 2) := by decide +kernel
theorem dX9_roll_210 : decode cX9_roll 210 = .ok (.invokevirtual 97, 3) := by decide +kernel
theorem dX9_roll_213 : decode cX9_roll 213 = .ok (.istore 4, 2) := by decide +kernel
theorem dX9_roll_215 : decode cX9_roll 215 = .ok (.aload_n 0, 1) := by decide +kernel
theorem dX9_roll_216 : decode cX9_roll 216 = .ok (.aload_n 0, 1) := by decide +kernel
theorem dX9_roll_217 : decode cX9_roll 217 = .ok (.getfield 12, 3) := by decide +kernel
theorem dX9_roll_220 : decode cX9_roll 220 = .ok (.iload 4, 2) := by decide +kernel
theorem dX9_roll_222 : decode cX9_roll 222 = .ok (.invokevirtual 81, 3) := by decide +kernel
theorem dX9_roll_225 : decode cX9_roll 225 = .ok (.invokevirtual 84, 3) := by decide +kernel
theorem dX9_roll_228 : decode cX9_roll 228 = .ok (.iload 6, 2) := by decide +kernel
theorem dX9_roll_230 : decode cX9_roll 230 = .ok (.invokevirtual 104, 3) := by decide +kernel
theorem dX9_roll_233 : decode cX9_roll 233 = .ok (.istore 6, 2) := by decide +kernel
theorem dX9_roll_235 : decode cX9_roll 235 = .ok (.goto 66, 3) := by decide +kernel
theorem dX9_roll_238 : decode cX9_roll 238 = .ok (.iload 10, 2) := by decide +kernel
theorem dX9_roll_240 : decode cX9_roll 240 = .ok (.invokestatic 107, 3) := by decide +kernel
theorem dX9_roll_243 : decode cX9_roll 243 = .ok (.istore 11, 2) := by decide +kernel
theorem dX9_roll_245 : decode cX9_roll 245 = .ok (.aload_n 0, 1) := by decide +kernel
theorem dX9_roll_246 : decode cX9_roll 246 = .ok (.dup, 1) := by decide +kernel
theorem dX9_roll_247 : decode cX9_roll 247 = .ok (.getfield 26, 3) := by decide +kernel
theorem dX9_roll_250 : decode cX9_roll 250 = .ok (.iconst 1, 1) := by decide +kernel
theorem dX9_roll_251 : decode cX9_roll 251 = .ok (.iadd, 1) := by decide +kernel
theorem dX9_roll_252 : decode cX9_roll 252 = .ok (.putfield 26, 3) := by decide +kernel
theorem dX9_roll_255 : decode cX9_roll 255 = .ok (.iload 11, 2) := by decide +kernel
theorem dX9_roll_257 : decode cX9_roll 257 = .ok (.ifCond .eq 7, 3) := by decide +kernel
theorem dX9_roll_260 : decode cX9_roll 260 = .ok (.iconst 0, 1) := by decide +kernel
theorem dX9_roll_261 : decode cX9_roll 261 = .ok (.goto 7, 3) := by decide +kernel
theorem dX9_roll_264 : decode cX9_roll 264 = .ok (.iload 6, 2) := by decide +kernel
theorem dX9_roll_266 : decode cX9_roll 266 = .ok (.iconst 1, 1) := by decide +kernel
theorem dX9_roll_267 : decode cX9_roll 267 = .ok (.isub, 1) := by decide +kernel
theorem dX9_roll_268 : decode cX9_roll 268 = .ok (.istore 6, 2) := by decide +kernel
theorem dX9_roll_270 : decode cX9_roll 270 = .ok (.aload_n 0, 1) := by decide +kernel
theorem dX9_roll_271 : decode cX9_roll 271 = .ok (.getfield 12, 3) := by decide +kernel
theorem dX9_roll_274 : decode cX9_roll 274 = .ok (.iload 4, 2) := by decide +kernel
theorem dX9_roll_276 : decode cX9_roll 276 = .ok (.iload 11, 2) := by decide +kernel
theorem dX9_roll_278 : decode cX9_roll 278 = .ok (.ifCond .eq 7, 3) := by decide +kernel
theorem dX9_roll_281 : decode cX9_roll 281 = .ok (.iconst (-1), 1) := by decide +kernel
theorem dX9_roll_282 : decode cX9_roll 282 = .ok (.goto 5, 3) := by decide +kernel
theorem dX9_roll_285 : decode cX9_roll 285 = .ok (.iload 10, 2) := by decide +kernel
theorem dX9_roll_287 : decode cX9_roll 287 = .ok (.invokevirtual 110, 3) := by decide +kernel
theorem dX9_roll_290 : decode cX9_roll 290 = .ok (.iload 11, 2) := by decide +kernel
theorem dX9_roll_292 : decode cX9_roll 292 = .ok (.ifCond .eq 9, 3) := by decide +kernel
theorem dX9_roll_295 : decode cX9_roll 295 = .ok (.aload_n 0, 1) := by decide +kernel
theorem dX9_roll_296 : decode cX9_roll 296 = .ok (.iload 4, 2) := by decide +kernel
theorem dX9_roll_298 : decode cX9_roll 298 = .ok (.invokevirtual 113, 3) := by decide +kernel
theorem dX9_roll_301 : decode cX9_roll 301 = .ok (.iinc 7 1, 3) := by decide +kernel
theorem dX9_roll_304 : decode cX9_roll 304 = .ok (.goto (-292), 3) := by decide +kernel
theorem dX9_roll_307 : decode cX9_roll 307 = .ok (.return_, 1) := by decide +kernel
theorem dX9_notePotted_0 : decode cX9_notePotted 0 = .ok (.aload_n 0, 1) := by decide +kernel
theorem dX9_notePotted_1 : decode cX9_notePotted 1 = .ok (.dup, 1) := by decide +kernel
theorem dX9_notePotted_2 : decode cX9_notePotted 2 = .ok (.getfield 33, 3) := by decide +kernel
theorem dX9_notePotted_5 : decode cX9_notePotted 5 = .ok (.iconst 1, 1) := by decide +kernel
theorem dX9_notePotted_6 : decode cX9_notePotted 6 = .ok (.iload_n 1, 1) := by decide +kernel
theorem dX9_notePotted_7 : decode cX9_notePotted 7 = .ok (.ishl, 1) := by decide +kernel
theorem dX9_notePotted_8 : decode cX9_notePotted 8 = .ok (.ior, 1) := by decide +kernel
theorem dX9_notePotted_9 : decode cX9_notePotted 9 = .ok (.putfield 33, 3) := by decide +kernel
theorem dX9_notePotted_12 : decode cX9_notePotted 12 = .ok (.return_, 1) := by decide +kernel
theorem dX9_noteWhiteHit_0 : decode cX9_noteWhiteHit 0 = .ok (.aload_n 0, 1) := by decide +kernel
theorem dX9_noteWhiteHit_1 : decode cX9_noteWhiteHit 1 = .ok (.getfield 36, 3) := by decide +kernel
theorem dX9_noteWhiteHit_4 : decode cX9_noteWhiteHit 4 = .ok (.iconst (-1), 1) := by decide +kernel
theorem dX9_noteWhiteHit_5 : decode cX9_noteWhiteHit 5 = .ok (.if_icmp .eq 4, 3) := by decide +kernel
theorem dX9_noteWhiteHit_8 : decode cX9_noteWhiteHit 8 = .ok (.return_, 1) := by decide +kernel
theorem dX9_noteWhiteHit_9 : decode cX9_noteWhiteHit 9 = .ok (.aload_n 0, 1) := by decide +kernel
theorem dX9_noteWhiteHit_10 : decode cX9_noteWhiteHit 10 = .ok (.iload_n 1, 1) := by decide +kernel
theorem dX9_noteWhiteHit_11 : decode cX9_noteWhiteHit 11 = .ok (.putfield 36, 3) := by decide +kernel
theorem dX9_noteWhiteHit_14 : decode cX9_noteWhiteHit 14 = .ok (.aload_n 0, 1) := by decide +kernel
theorem dX9_noteWhiteHit_15 : decode cX9_noteWhiteHit 15 = .ok (.iload_n 2, 1) := by decide +kernel
theorem dX9_noteWhiteHit_16 : decode cX9_noteWhiteHit 16 = .ok (.putfield 39, 3) := by decide +kernel
theorem dX9_noteWhiteHit_19 : decode cX9_noteWhiteHit 19 = .ok (.return_, 1) := by decide +kernel
theorem dX9_worthPotted_0 : decode cX9_worthPotted 0 = .ok (.iconst 0, 1) := by decide +kernel
theorem dX9_worthPotted_1 : decode cX9_worthPotted 1 = .ok (.istore_n 1, 1) := by decide +kernel
theorem dX9_worthPotted_2 : decode cX9_worthPotted 2 = .ok (.iconst 1, 1) := by decide +kernel
theorem dX9_worthPotted_3 : decode cX9_worthPotted 3 = .ok (.istore_n 2, 1) := by decide +kernel
theorem dX9_worthPotted_4 : decode cX9_worthPotted 4 = .ok (.iload_n 2, 1) := by decide +kernel
theorem dX9_worthPotted_5 : decode cX9_worthPotted 5 = .ok (.bipush 6, 2) := by decide +kernel
theorem dX9_worthPotted_7 : decode cX9_worthPotted 7 = .ok (.if_icmp .gt 40, 3) := by decide +kernel
theorem dX9_worthPotted_10 : decode cX9_worthPotted 10 = .ok (.aload_n 0, 1) := by decide +kernel
theorem dX9_worthPotted_11 : decode cX9_worthPotted 11 = .ok (.getfield 33, 3) := by decide +kernel
theorem dX9_worthPotted_14 : decode cX9_worthPotted 14 = .ok (.iload_n 2, 1) := by decide +kernel
theorem dX9_worthPotted_15 : decode cX9_worthPotted 15 = .ok (.ishr, 1) := by decide +kernel
theorem dX9_worthPotted_16 : decode cX9_worthPotted 16 = .ok (.ifCond .eq 31, 3) := by decide +kernel
theorem dX9_worthPotted_19 : decode cX9_worthPotted 19 = .ok (.aload_n 0, 1) := by decide +kernel
theorem dX9_worthPotted_20 : decode cX9_worthPotted 20 = .ok (.getfield 33, 3) := by decide +kernel
theorem dX9_worthPotted_23 : decode cX9_worthPotted 23 = .ok (.iload_n 2, 1) := by decide +kernel
theorem dX9_worthPotted_24 : decode cX9_worthPotted 24 = .ok (.ishr, 1) := by decide +kernel
theorem dX9_worthPotted_25 : decode cX9_worthPotted 25 = .ok (.iconst 1, 1) := by decide +kernel
theorem dX9_worthPotted_26 : decode cX9_worthPotted 26 = .ok (.iand, 1) := by decide +kernel
theorem dX9_worthPotted_27 : decode cX9_worthPotted 27 = .ok (.ifCond .eq 14, 3) := by decide +kernel
theorem dX9_worthPotted_30 : decode cX9_worthPotted 30 = .ok (.iload_n 1, 1) := by decide +kernel
theorem dX9_worthPotted_31 : decode cX9_worthPotted 31 = .ok (.aload_n 0, 1) := by decide +kernel
theorem dX9_worthPotted_32 : decode cX9_worthPotted 32 = .ok (.getfield 12, 3) := by decide +kernel
theorem dX9_worthPotted_35 : decode cX9_worthPotted 35 = .ok (.iload_n 2, 1) := by decide +kernel
theorem dX9_worthPotted_36 : decode cX9_worthPotted 36 = .ok (.invokevirtual 117, 3) := by decide +kernel
theorem dX9_worthPotted_39 : decode cX9_worthPotted 39 = .ok (.iadd, 1) := by decide +kernel
theorem dX9_worthPotted_40 : decode cX9_worthPotted 40 = .ok (.istore_n 1, 1) := by decide +kernel
theorem dX9_worthPotted_41 : decode cX9_worthPotted 41 = .ok (.iinc 2 1, 3) := by decide +kernel
theorem dX9_worthPotted_44 : decode cX9_worthPotted 44 = .ok (.goto (-40), 3) := by decide +kernel
theorem dX9_worthPotted_47 : decode cX9_worthPotted 47 = .ok (.iload_n 1, 1) := by decide +kernel
theorem dX9_worthPotted_48 : decode cX9_worthPotted 48 = .ok (.ireturn, 1) := by decide +kernel
theorem dX9_isWhitePotted_0 : decode cX9_isWhitePotted 0 = .ok (.aload_n 0, 1) := by decide +kernel
theorem dX9_isWhitePotted_1 : decode cX9_isWhitePotted 1 = .ok (.getfield 33, 3) := by decide +kernel
theorem dX9_isWhitePotted_4 : decode cX9_isWhitePotted 4 = .ok (.iconst 1, 1) := by decide +kernel
theorem dX9_isWhitePotted_5 : decode cX9_isWhitePotted 5 = .ok (.iand, 1) := by decide +kernel
theorem dX9_isWhitePotted_6 : decode cX9_isWhitePotted 6 = .ok (.ifCond .eq 7, 3) := by decide +kernel
theorem dX9_isWhitePotted_9 : decode cX9_isWhitePotted 9 = .ok (.iconst 1, 1) := by decide +kernel
theorem dX9_isWhitePotted_10 : decode cX9_isWhitePotted 10 = .ok (.goto 4, 3) := by decide +kernel
theorem dX9_isWhitePotted_13 : decode cX9_isWhitePotted 13 = .ok (.iconst 0, 1) := by decide +kernel
theorem dX9_isWhitePotted_14 : decode cX9_isWhitePotted 14 = .ok (.ireturn, 1) := by decide +kernel
theorem dX9_kind_0 : decode cX9_kind 0 = .ok (.aload_n 0, 1) := by decide +kernel
theorem dX9_kind_1 : decode cX9_kind 1 = .ok (.getfield 18, 3) := by decide +kernel
theorem dX9_kind_4 : decode cX9_kind 4 = .ok (.iload_n 1, 1) := by decide +kernel
theorem dX9_kind_5 : decode cX9_kind 5 = .ok (.ifCond .lt 16, 3) := by decide +kernel
theorem dX9_kind_8 : decode cX9_kind 8 = .ok (.iload_n 1, 1) := by decide +kernel
theorem dX9_kind_9 : decode cX9_kind 9 = .ok (.aload_n 0, 1) := by decide +kernel
theorem dX9_kind_10 : decode cX9_kind 10 = .ok (.getfield 18, 3) := by decide +kernel
theorem dX9_kind_13 : decode cX9_kind 13 = .ok (.arraylength, 1) := by decide +kernel
theorem dX9_kind_14 : decode cX9_kind 14 = .ok (.if_icmp .ge 7, 3) := by decide +kernel
theorem dX9_kind_17 : decode cX9_kind 17 = .ok (.iload_n 1, 1) := by decide +kernel
theorem dX9_kind_18 : decode cX9_kind 18 = .ok (.goto 4, 3) := by decide +kernel
theorem dX9_kind_21 : decode cX9_kind 21 = .ok (.iconst 0, 1) := by decide +kernel
theorem dX9_kind_22 : decode cX9_kind 22 = .ok (.aaload, 1) := by decide +kernel
theorem dX9_kind_23 : decode cX9_kind 23 = .ok (.areturn, 1) := by decide +kernel
theorem dX9_turned_0 : decode cX9_turned 0 = .ok (.iload_n 0, 1) := by decide +kernel
theorem dX9_turned_1 : decode cX9_turned 1 = .ok (.istore_n 3, 1) := by decide +kernel
theorem dX9_turned_2 : decode cX9_turned 2 = .ok (.iload_n 1, 1) := by decide +kernel
theorem dX9_turned_3 : decode cX9_turned 3 = .ok (.ifCond .eq 10, 3) := by decide +kernel
theorem dX9_turned_6 : decode cX9_turned 6 = .ok (.iconst 4, 1) := by decide +kernel
theorem dX9_turned_7 : decode cX9_turned 7 = .ok (.iload_n 3, 1) := by decide +kernel
theorem dX9_turned_8 : decode cX9_turned 8 = .ok (.isub, 1) := by decide +kernel
theorem dX9_turned_9 : decode cX9_turned 9 = .ok (.bipush 7, 2) := by decide +kernel
theorem dX9_turned_11 : decode cX9_turned 11 = .ok (.iand, 1) := by decide +kernel
theorem dX9_turned_12 : decode cX9_turned 12 = .ok (.istore_n 3, 1) := by decide +kernel
theorem dX9_turned_13 : decode cX9_turned 13 = .ok (.iload_n 2, 1) := by decide +kernel
theorem dX9_turned_14 : decode cX9_turned 14 = .ok (.ifCond .eq 9, 3) := by decide +kernel
theorem dX9_turned_17 : decode cX9_turned 17 = .ok (.iload_n 3, 1) := by decide +kernel
theorem dX9_turned_18 : decode cX9_turned 18 = .ok (.ineg, 1) := by decide +kernel
theorem dX9_turned_19 : decode cX9_turned 19 = .ok (.bipush 7, 2) := by decide +kernel
theorem dX9_turned_21 : decode cX9_turned 21 = .ok (.iand, 1) := by decide +kernel
theorem dX9_turned_22 : decode cX9_turned 22 = .ok (.istore_n 3, 1) := by decide +kernel
theorem dX9_turned_23 : decode cX9_turned 23 = .ok (.iload_n 3, 1) := by decide +kernel
theorem dX9_turned_24 : decode cX9_turned 24 = .ok (.ireturn, 1) := by decide +kernel
theorem dX10_init_0 : decode cX10_init 0 = .ok (.aload_n 0, 1) := by decide +kernel
theorem dX10_init_1 : decode cX10_init 1 = .ok (.invokespecial 3, 3) := by decide +kernel
theorem dX10_init_4 : decode cX10_init 4 = .ok (.aload_n 0, 1) := by decide +kernel
theorem dX10_init_5 : decode cX10_init 5 = .ok (.bipush 7, 2) := by decide +kernel
theorem dX10_init_7 : decode cX10_init 7 = .ok (.newarray .int, 2) := by decide +kernel
theorem dX10_init_9 : decode cX10_init 9 = .ok (.putfield 9, 3) := by decide +kernel
theorem dX10_init_12 : decode cX10_init 12 = .ok (.aload_n 0, 1) := by decide +kernel
theorem dX10_init_13 : decode cX10_init 13 = .ok (.bipush 7, 2) := by decide +kernel
theorem dX10_init_15 : decode cX10_init 15 = .ok (.newarray .int, 2) := by decide +kernel
theorem dX10_init_17 : decode cX10_init 17 = .ok (.putfield 15, 3) := by decide +kernel
theorem dX10_init_20 : decode cX10_init 20 = .ok (.aload_n 0, 1) := by decide +kernel
theorem dX10_init_21 : decode cX10_init 21 = .ok (.bipush 7, 2) := by decide +kernel
theorem dX10_init_23 : decode cX10_init 23 = .ok (.newarray .int, 2) := by decide +kernel
theorem dX10_init_25 : decode cX10_init 25 = .ok (.putfield 18, 3) := by decide +kernel
theorem dX10_init_28 : decode cX10_init 28 = .ok (.aload_n 0, 1) := by decide +kernel
theorem dX10_init_29 : decode cX10_init 29 = .ok (.getfield 9, 3) := by decide +kernel
theorem dX10_init_32 : decode cX10_init 32 = .ok (.iconst (-1), 1) := by decide +kernel
theorem dX10_init_33 : decode cX10_init 33 = .ok (.invokestatic 21, 3) := by decide +kernel
theorem dX10_init_36 : decode cX10_init 36 = .ok (.return_, 1) := by decide +kernel
theorem dX10_clear_0 : decode cX10_clear 0 = .ok (.aload_n 0, 1) := by decide +kernel
theorem dX10_clear_1 : decode cX10_clear 1 = .ok (.getfield 9, 3) := by decide +kernel
theorem dX10_clear_4 : decode cX10_clear 4 = .ok (.iconst (-1), 1) := by decide +kernel
theorem dX10_clear_5 : decode cX10_clear 5 = .ok (.invokestatic 21, 3) := by decide +kernel
theorem dX10_clear_8 : decode cX10_clear 8 = .ok (.aload_n 0, 1) := by decide +kernel
theorem dX10_clear_9 : decode cX10_clear 9 = .ok (.lconst 0, 1) := by decide +kernel
theorem dX10_clear_10 : decode cX10_clear 10 = .ok (.putfield 27, 3) := by decide +kernel
theorem dX10_clear_13 : decode cX10_clear 13 = .ok (.return_, 1) := by decide +kernel
theorem dX10_copy_0 : decode cX10_copy 0 = .ok (.aload_n 1, 1) := by decide +kernel
theorem dX10_copy_1 : decode cX10_copy 1 = .ok (.getfield 9, 3) := by decide +kernel
theorem dX10_copy_4 : decode cX10_copy 4 = .ok (.iconst 0, 1) := by decide +kernel
theorem dX10_copy_5 : decode cX10_copy 5 = .ok (.aload_n 0, 1) := by decide +kernel
theorem dX10_copy_6 : decode cX10_copy 6 = .ok (.getfield 9, 3) := by decide +kernel
theorem dX10_copy_9 : decode cX10_copy 9 = .ok (.iconst 0, 1) := by decide +kernel
theorem dX10_copy_10 : decode cX10_copy 10 = .ok (.aload_n 0, 1) := by decide +kernel
theorem dX10_copy_11 : decode cX10_copy 11 = .ok (.getfield 9, 3) := by decide +kernel
theorem dX10_copy_14 : decode cX10_copy 14 = .ok (.arraylength, 1) := by decide +kernel
theorem dX10_copy_15 : decode cX10_copy 15 = .ok (.invokestatic 31, 3) := by decide +kernel
theorem dX10_copy_18 : decode cX10_copy 18 = .ok (.aload_n 1, 1) := by decide +kernel
theorem dX10_copy_19 : decode cX10_copy 19 = .ok (.getfield 15, 3) := by decide +kernel
theorem dX10_copy_22 : decode cX10_copy 22 = .ok (.iconst 0, 1) := by decide +kernel
theorem dX10_copy_23 : decode cX10_copy 23 = .ok (.aload_n 0, 1) := by decide +kernel
theorem dX10_copy_24 : decode cX10_copy 24 = .ok (.getfield 15, 3) := by decide +kernel
theorem dX10_copy_27 : decode cX10_copy 27 = .ok (.iconst 0, 1) := by decide +kernel
theorem dX10_copy_28 : decode cX10_copy 28 = .ok (.aload_n 0, 1) := by decide +kernel
theorem dX10_copy_29 : decode cX10_copy 29 = .ok (.getfield 15, 3) := by decide +kernel
theorem dX10_copy_32 : decode cX10_copy 32 = .ok (.arraylength, 1) := by decide +kernel
theorem dX10_copy_33 : decode cX10_copy 33 = .ok (.invokestatic 31, 3) := by decide +kernel
theorem dX10_copy_36 : decode cX10_copy 36 = .ok (.aload_n 1, 1) := by decide +kernel
theorem dX10_copy_37 : decode cX10_copy 37 = .ok (.getfield 18, 3) := by decide +kernel
theorem dX10_copy_40 : decode cX10_copy 40 = .ok (.iconst 0, 1) := by decide +kernel
theorem dX10_copy_41 : decode cX10_copy 41 = .ok (.aload_n 0, 1) := by decide +kernel
theorem dX10_copy_42 : decode cX10_copy 42 = .ok (.getfield 18, 3) := by decide +kernel
theorem dX10_copy_45 : decode cX10_copy 45 = .ok (.iconst 0, 1) := by decide +kernel
theorem dX10_copy_46 : decode cX10_copy 46 = .ok (.aload_n 0, 1) := by decide +kernel
theorem dX10_copy_47 : decode cX10_copy 47 = .ok (.getfield 18, 3) := by decide +kernel
theorem dX10_copy_50 : decode cX10_copy 50 = .ok (.arraylength, 1) := by decide +kernel
theorem dX10_copy_51 : decode cX10_copy 51 = .ok (.invokestatic 31, 3) := by decide +kernel
theorem dX10_copy_54 : decode cX10_copy 54 = .ok (.aload_n 0, 1) := by decide +kernel
theorem dX10_copy_55 : decode cX10_copy 55 = .ok (.aload_n 1, 1) := by decide +kernel
theorem dX10_copy_56 : decode cX10_copy 56 = .ok (.getfield 27, 3) := by decide +kernel
theorem dX10_copy_59 : decode cX10_copy 59 = .ok (.putfield 27, 3) := by decide +kernel
theorem dX10_copy_62 : decode cX10_copy 62 = .ok (.aload_n 0, 1) := by decide +kernel
theorem dX10_copy_63 : decode cX10_copy 63 = .ok (.aload_n 1, 1) := by decide +kernel
theorem dX10_copy_64 : decode cX10_copy 64 = .ok (.getfield 37, 3) := by decide +kernel
theorem dX10_copy_67 : decode cX10_copy 67 = .ok (.putfield 37, 3) := by decide +kernel
theorem dX10_copy_70 : decode cX10_copy 70 = .ok (.aload_n 0, 1) := by decide +kernel
theorem dX10_copy_71 : decode cX10_copy 71 = .ok (.aload_n 1, 1) := by decide +kernel
theorem dX10_copy_72 : decode cX10_copy 72 = .ok (.getfield 41, 3) := by decide +kernel
theorem dX10_copy_75 : decode cX10_copy 75 = .ok (.putfield 41, 3) := by decide +kernel
theorem dX10_copy_78 : decode cX10_copy 78 = .ok (.return_, 1) := by decide +kernel
theorem dX10_cellOf_0 : decode cX10_cellOf 0 = .ok (.iload_n 1, 1) := by decide +kernel
theorem dX10_cellOf_1 : decode cX10_cellOf 1 = .ok (.ifCond .lt 21, 3) := by decide +kernel
theorem dX10_cellOf_4 : decode cX10_cellOf 4 = .ok (.iload_n 1, 1) := by decide +kernel
theorem dX10_cellOf_5 : decode cX10_cellOf 5 = .ok (.aload_n 0, 1) := by decide +kernel
theorem dX10_cellOf_6 : decode cX10_cellOf 6 = .ok (.getfield 9, 3) := by decide +kernel
theorem dX10_cellOf_9 : decode cX10_cellOf 9 = .ok (.arraylength, 1) := by decide +kernel
theorem dX10_cellOf_10 : decode cX10_cellOf 10 = .ok (.if_icmp .ge 12, 3) := by decide +kernel
theorem dX10_cellOf_13 : decode cX10_cellOf 13 = .ok (.aload_n 0, 1) := by decide +kernel
theorem dX10_cellOf_14 : decode cX10_cellOf 14 = .ok (.getfield 9, 3) := by decide +kernel
theorem dX10_cellOf_17 : decode cX10_cellOf 17 = .ok (.iload_n 1, 1) := by decide +kernel
theorem dX10_cellOf_18 : decode cX10_cellOf 18 = .ok (.iaload, 1) := by decide +kernel
theorem dX10_cellOf_19 : decode cX10_cellOf 19 = .ok (.goto 4, 3) := by decide +kernel
theorem dX10_cellOf_22 : decode cX10_cellOf 22 = .ok (.iconst (-1), 1) := by decide +kernel
theorem dX10_cellOf_23 : decode cX10_cellOf 23 = .ok (.ireturn, 1) := by decide +kernel
theorem dX10_kindOf_0 : decode cX10_kindOf 0 = .ok (.iload_n 1, 1) := by decide +kernel
theorem dX10_kindOf_1 : decode cX10_kindOf 1 = .ok (.ifCond .lt 21, 3) := by decide +kernel
theorem dX10_kindOf_4 : decode cX10_kindOf 4 = .ok (.iload_n 1, 1) := by decide +kernel
theorem dX10_kindOf_5 : decode cX10_kindOf 5 = .ok (.aload_n 0, 1) := by decide +kernel
theorem dX10_kindOf_6 : decode cX10_kindOf 6 = .ok (.getfield 9, 3) := by decide +kernel
theorem dX10_kindOf_9 : decode cX10_kindOf 9 = .ok (.arraylength, 1) := by decide +kernel
theorem dX10_kindOf_10 : decode cX10_kindOf 10 = .ok (.if_icmp .ge 12, 3) := by decide +kernel
theorem dX10_kindOf_13 : decode cX10_kindOf 13 = .ok (.aload_n 0, 1) := by decide +kernel
theorem dX10_kindOf_14 : decode cX10_kindOf 14 = .ok (.getfield 15, 3) := by decide +kernel
theorem dX10_kindOf_17 : decode cX10_kindOf 17 = .ok (.iload_n 1, 1) := by decide +kernel
theorem dX10_kindOf_18 : decode cX10_kindOf 18 = .ok (.iaload, 1) := by decide +kernel
theorem dX10_kindOf_19 : decode cX10_kindOf 19 = .ok (.goto 4, 3) := by decide +kernel
theorem dX10_kindOf_22 : decode cX10_kindOf 22 = .ok (.iconst 0, 1) := by decide +kernel
theorem dX10_kindOf_23 : decode cX10_kindOf 23 = .ok (.ireturn, 1) := by decide +kernel
theorem dX10_worthOf_0 : decode cX10_worthOf 0 = .ok (.iload_n 1, 1) := by decide +kernel
theorem dX10_worthOf_1 : decode cX10_worthOf 1 = .ok (.ifCond .lt 21, 3) := by decide +kernel
theorem dX10_worthOf_4 : decode cX10_worthOf 4 = .ok (.iload_n 1, 1) := by decide +kernel
theorem dX10_worthOf_5 : decode cX10_worthOf 5 = .ok (.aload_n 0, 1) := by decide +kernel
theorem dX10_worthOf_6 : decode cX10_worthOf 6 = .ok (.getfield 9, 3) := by decide +kernel
theorem dX10_worthOf_9 : decode cX10_worthOf 9 = .ok (.arraylength, 1) := by decide +kernel
theorem dX10_worthOf_10 : decode cX10_worthOf 10 = .ok (.if_icmp .ge 12, 3) := by decide +kernel
theorem dX10_worthOf_13 : decode cX10_worthOf 13 = .ok (.aload_n 0, 1) := by decide +kernel
theorem dX10_worthOf_14 : decode cX10_worthOf 14 = .ok (.getfield 18, 3) := by decide +kernel
theorem dX10_worthOf_17 : decode cX10_worthOf 17 = .ok (.iload_n 1, 1) := by decide +kernel
theorem dX10_worthOf_18 : decode cX10_worthOf 18 = .ok (.iaload, 1) := by decide +kernel
theorem dX10_worthOf_19 : decode cX10_worthOf 19 = .ok (.goto 4, 3) := by decide +kernel
theorem dX10_worthOf_22 : decode cX10_worthOf 22 = .ok (.iconst 0, 1) := by decide +kernel
theorem dX10_worthOf_23 : decode cX10_worthOf 23 = .ok (.ireturn, 1) := by decide +kernel
theorem dX10_setKind_0 : decode cX10_setKind 0 = .ok (.iload_n 1, 1) := by decide +kernel
theorem dX10_setKind_1 : decode cX10_setKind 1 = .ok (.ifCond .lt 19, 3) := by decide +kernel
theorem dX10_setKind_4 : decode cX10_setKind 4 = .ok (.iload_n 1, 1) := by decide +kernel
theorem dX10_setKind_5 : decode cX10_setKind 5 = .ok (.aload_n 0, 1) := by decide +kernel
theorem dX10_setKind_6 : decode cX10_setKind 6 = .ok (.getfield 9, 3) := by decide +kernel
theorem dX10_setKind_9 : decode cX10_setKind 9 = .ok (.arraylength, 1) := by decide +kernel
theorem dX10_setKind_10 : decode cX10_setKind 10 = .ok (.if_icmp .ge 10, 3) := by decide +kernel
theorem dX10_setKind_13 : decode cX10_setKind 13 = .ok (.aload_n 0, 1) := by decide +kernel
theorem dX10_setKind_14 : decode cX10_setKind 14 = .ok (.getfield 15, 3) := by decide +kernel
theorem dX10_setKind_17 : decode cX10_setKind 17 = .ok (.iload_n 1, 1) := by decide +kernel
theorem dX10_setKind_18 : decode cX10_setKind 18 = .ok (.iload_n 2, 1) := by decide +kernel
theorem dX10_setKind_19 : decode cX10_setKind 19 = .ok (.iastore, 1) := by decide +kernel
theorem dX10_setKind_20 : decode cX10_setKind 20 = .ok (.return_, 1) := by decide +kernel
theorem dX10_setWorth_0 : decode cX10_setWorth 0 = .ok (.iload_n 1, 1) := by decide +kernel
theorem dX10_setWorth_1 : decode cX10_setWorth 1 = .ok (.ifCond .lt 19, 3) := by decide +kernel
theorem dX10_setWorth_4 : decode cX10_setWorth 4 = .ok (.iload_n 1, 1) := by decide +kernel
theorem dX10_setWorth_5 : decode cX10_setWorth 5 = .ok (.aload_n 0, 1) := by decide +kernel
theorem dX10_setWorth_6 : decode cX10_setWorth 6 = .ok (.getfield 9, 3) := by decide +kernel
theorem dX10_setWorth_9 : decode cX10_setWorth 9 = .ok (.arraylength, 1) := by decide +kernel
theorem dX10_setWorth_10 : decode cX10_setWorth 10 = .ok (.if_icmp .ge 10, 3) := by decide +kernel
theorem dX10_setWorth_13 : decode cX10_setWorth 13 = .ok (.aload_n 0, 1) := by decide +kernel
theorem dX10_setWorth_14 : decode cX10_setWorth 14 = .ok (.getfield 18, 3) := by decide +kernel
theorem dX10_setWorth_17 : decode cX10_setWorth 17 = .ok (.iload_n 1, 1) := by decide +kernel
theorem dX10_setWorth_18 : decode cX10_setWorth 18 = .ok (.iload_n 2, 1) := by decide +kernel
theorem dX10_setWorth_19 : decode cX10_setWorth 19 = .ok (.iastore, 1) := by decide +kernel
theorem dX10_setWorth_20 : decode cX10_setWorth 20 = .ok (.return_, 1) := by decide +kernel
theorem dX10_lay_0 : decode cX10_lay 0 = .ok (.iload_n 1, 1) := by decide +kernel
theorem dX10_lay_1 : decode cX10_lay 1 = .ok (.ifCond .lt 12, 3) := by decide +kernel
theorem dX10_lay_4 : decode cX10_lay 4 = .ok (.iload_n 1, 1) := by decide +kernel
theorem dX10_lay_5 : decode cX10_lay 5 = .ok (.aload_n 0, 1) := by decide +kernel
theorem dX10_lay_6 : decode cX10_lay 6 = .ok (.getfield 9, 3) := by decide +kernel
theorem dX10_lay_9 : decode cX10_lay 9 = .ok (.arraylength, 1) := by decide +kernel
theorem dX10_lay_10 : decode cX10_lay 10 = .ok (.if_icmp .lt 4, 3) := by decide +kernel
theorem dX10_lay_13 : decode cX10_lay 13 = .ok (.return_, 1) := by decide +kernel
theorem dX10_lay_14 : decode cX10_lay 14 = .ok (.aload_n 0, 1) := by decide +kernel
theorem dX10_lay_15 : decode cX10_lay 15 = .ok (.getfield 9, 3) := by decide +kernel
theorem dX10_lay_18 : decode cX10_lay 18 = .ok (.iload_n 1, 1) := by decide +kernel
theorem dX10_lay_19 : decode cX10_lay 19 = .ok (.iaload, 1) := by decide +kernel
theorem dX10_lay_20 : decode cX10_lay 20 = .ok (.iconst (-1), 1) := by decide +kernel
theorem dX10_lay_21 : decode cX10_lay 21 = .ok (.if_icmp .eq 24, 3) := by decide +kernel
theorem dX10_lay_24 : decode cX10_lay 24 = .ok (.aload_n 0, 1) := by decide +kernel
theorem dX10_lay_25 : decode cX10_lay 25 = .ok (.dup, 1) := by decide +kernel
theorem dX10_lay_26 : decode cX10_lay 26 = .ok (.getfield 27, 3) := by decide +kernel
theorem dX10_lay_29 : decode cX10_lay 29 = .ok (.lconst 1, 1) := by decide +kernel
theorem dX10_lay_30 : decode cX10_lay 30 = .ok (.aload_n 0, 1) := by decide +kernel
theorem dX10_lay_31 : decode cX10_lay 31 = .ok (.getfield 9, 3) := by decide +kernel
theorem dX10_lay_34 : decode cX10_lay 34 = .ok (.iload_n 1, 1) := by decide +kernel
theorem dX10_lay_35 : decode cX10_lay 35 = .ok (.iaload, 1) := by decide +kernel
theorem dX10_lay_36 : decode cX10_lay 36 = .ok (.lshl, 1) := by decide +kernel
theorem dX10_lay_37 : decode cX10_lay 37 = .ok (.ldc2_w 44, 3) := by decide +kernel
theorem dX10_lay_40 : decode cX10_lay 40 = .ok (.lxor, 1) := by decide +kernel
theorem dX10_lay_41 : decode cX10_lay 41 = .ok (.land, 1) := by decide +kernel
theorem dX10_lay_42 : decode cX10_lay 42 = .ok (.putfield 27, 3) := by decide +kernel
theorem dX10_lay_45 : decode cX10_lay 45 = .ok (.iload_n 2, 1) := by decide +kernel
theorem dX10_lay_46 : decode cX10_lay 46 = .ok (.iconst (-1), 1) := by decide +kernel
theorem dX10_lay_47 : decode cX10_lay 47 = .ok (.if_icmp .eq 15, 3) := by decide +kernel
theorem dX10_lay_50 : decode cX10_lay 50 = .ok (.aload_n 0, 1) := by decide +kernel
theorem dX10_lay_51 : decode cX10_lay 51 = .ok (.dup, 1) := by decide +kernel
theorem dX10_lay_52 : decode cX10_lay 52 = .ok (.getfield 27, 3) := by decide +kernel
theorem dX10_lay_55 : decode cX10_lay 55 = .ok (.lconst 1, 1) := by decide +kernel
theorem dX10_lay_56 : decode cX10_lay 56 = .ok (.iload_n 2, 1) := by decide +kernel
theorem dX10_lay_57 : decode cX10_lay 57 = .ok (.lshl, 1) := by decide +kernel
theorem dX10_lay_58 : decode cX10_lay 58 = .ok (.lor, 1) := by decide +kernel
theorem dX10_lay_59 : decode cX10_lay 59 = .ok (.putfield 27, 3) := by decide +kernel
theorem dX10_lay_62 : decode cX10_lay 62 = .ok (.aload_n 0, 1) := by decide +kernel
theorem dX10_lay_63 : decode cX10_lay 63 = .ok (.getfield 9, 3) := by decide +kernel
theorem dX10_lay_66 : decode cX10_lay 66 = .ok (.iload_n 1, 1) := by decide +kernel
theorem dX10_lay_67 : decode cX10_lay 67 = .ok (.iload_n 2, 1) := by decide +kernel
theorem dX10_lay_68 : decode cX10_lay 68 = .ok (.iastore, 1) := by decide +kernel
theorem dX10_lay_69 : decode cX10_lay 69 = .ok (.return_, 1) := by decide +kernel
theorem dX10_ballIn_0 : decode cX10_ballIn 0 = .ok (.aload_n 0, 1) := by decide +kernel
theorem dX10_ballIn_1 : decode cX10_ballIn 1 = .ok (.getfield 27, 3) := by decide +kernel
theorem dX10_ballIn_4 : decode cX10_ballIn 4 = .ok (.iload_n 1, 1) := by decide +kernel
theorem dX10_ballIn_5 : decode cX10_ballIn 5 = .ok (.lushr, 1) := by decide +kernel
theorem dX10_ballIn_6 : decode cX10_ballIn 6 = .ok (.lconst 1, 1) := by decide +kernel
theorem dX10_ballIn_7 : decode cX10_ballIn 7 = .ok (.land, 1) := by decide +kernel
theorem dX10_ballIn_8 : decode cX10_ballIn 8 = .ok (.lconst 0, 1) := by decide +kernel
theorem dX10_ballIn_9 : decode cX10_ballIn 9 = .ok (.lcmp, 1) := by decide +kernel
theorem dX10_ballIn_10 : decode cX10_ballIn 10 = .ok (.ifCond .ne 5, 3) := by decide +kernel
theorem dX10_ballIn_13 : decode cX10_ballIn 13 = .ok (.iconst (-1), 1) := by decide +kernel
theorem dX10_ballIn_14 : decode cX10_ballIn 14 = .ok (.ireturn, 1) := by decide +kernel
theorem dX10_ballIn_15 : decode cX10_ballIn 15 = .ok (.iconst 0, 1) := by decide +kernel
theorem dX10_ballIn_16 : decode cX10_ballIn 16 = .ok (.istore_n 2, 1) := by decide +kernel
theorem dX10_ballIn_17 : decode cX10_ballIn 17 = .ok (.iload_n 2, 1) := by decide +kernel
theorem dX10_ballIn_18 : decode cX10_ballIn 18 = .ok (.aload_n 0, 1) := by decide +kernel
theorem dX10_ballIn_19 : decode cX10_ballIn 19 = .ok (.getfield 9, 3) := by decide +kernel
theorem dX10_ballIn_22 : decode cX10_ballIn 22 = .ok (.arraylength, 1) := by decide +kernel
theorem dX10_ballIn_23 : decode cX10_ballIn 23 = .ok (.if_icmp .ge 21, 3) := by decide +kernel
theorem dX10_ballIn_26 : decode cX10_ballIn 26 = .ok (.aload_n 0, 1) := by decide +kernel
theorem dX10_ballIn_27 : decode cX10_ballIn 27 = .ok (.getfield 9, 3) := by decide +kernel
theorem dX10_ballIn_30 : decode cX10_ballIn 30 = .ok (.iload_n 2, 1) := by decide +kernel
theorem dX10_ballIn_31 : decode cX10_ballIn 31 = .ok (.iaload, 1) := by decide +kernel
theorem dX10_ballIn_32 : decode cX10_ballIn 32 = .ok (.iload_n 1, 1) := by decide +kernel
theorem dX10_ballIn_33 : decode cX10_ballIn 33 = .ok (.if_icmp .ne 5, 3) := by decide +kernel
theorem dX10_ballIn_36 : decode cX10_ballIn 36 = .ok (.iload_n 2, 1) := by decide +kernel
theorem dX10_ballIn_37 : decode cX10_ballIn 37 = .ok (.ireturn, 1) := by decide +kernel
theorem dX10_ballIn_38 : decode cX10_ballIn 38 = .ok (.iinc 2 1, 3) := by decide +kernel
theorem dX10_ballIn_41 : decode cX10_ballIn 41 = .ok (.goto (-24), 3) := by decide +kernel
theorem dX10_ballIn_44 : decode cX10_ballIn 44 = .ok (.iconst (-1), 1) := by decide +kernel
theorem dX10_ballIn_45 : decode cX10_ballIn 45 = .ok (.ireturn, 1) := by decide +kernel
theorem dX10_lying_0 : decode cX10_lying 0 = .ok (.iconst 0, 1) := by decide +kernel
theorem dX10_lying_1 : decode cX10_lying 1 = .ok (.istore_n 1, 1) := by decide +kernel
theorem dX10_lying_2 : decode cX10_lying 2 = .ok (.iconst 1, 1) := by decide +kernel
theorem dX10_lying_3 : decode cX10_lying 3 = .ok (.istore_n 2, 1) := by decide +kernel
theorem dX10_lying_4 : decode cX10_lying 4 = .ok (.iload_n 2, 1) := by decide +kernel
theorem dX10_lying_5 : decode cX10_lying 5 = .ok (.aload_n 0, 1) := by decide +kernel
theorem dX10_lying_6 : decode cX10_lying 6 = .ok (.getfield 9, 3) := by decide +kernel
theorem dX10_lying_9 : decode cX10_lying 9 = .ok (.arraylength, 1) := by decide +kernel
theorem dX10_lying_10 : decode cX10_lying 10 = .ok (.if_icmp .ge 22, 3) := by decide +kernel
theorem dX10_lying_13 : decode cX10_lying 13 = .ok (.aload_n 0, 1) := by decide +kernel
theorem dX10_lying_14 : decode cX10_lying 14 = .ok (.getfield 9, 3) := by decide +kernel
theorem dX10_lying_17 : decode cX10_lying 17 = .ok (.iload_n 2, 1) := by decide +kernel
theorem dX10_lying_18 : decode cX10_lying 18 = .ok (.iaload, 1) := by decide +kernel
theorem dX10_lying_19 : decode cX10_lying 19 = .ok (.iconst (-1), 1) := by decide +kernel
theorem dX10_lying_20 : decode cX10_lying 20 = .ok (.if_icmp .eq 6, 3) := by decide +kernel
theorem dX10_lying_23 : decode cX10_lying 23 = .ok (.iinc 1 1, 3) := by decide +kernel
theorem dX10_lying_26 : decode cX10_lying 26 = .ok (.iinc 2 1, 3) := by decide +kernel
theorem dX10_lying_29 : decode cX10_lying 29 = .ok (.goto (-25), 3) := by decide +kernel
theorem dX10_lying_32 : decode cX10_lying 32 = .ok (.iload_n 1, 1) := by decide +kernel
theorem dX10_lying_33 : decode cX10_lying 33 = .ok (.ireturn, 1) := by decide +kernel
theorem dX10_worthLying_0 : decode cX10_worthLying 0 = .ok (.iconst 0, 1) := by decide +kernel
theorem dX10_worthLying_1 : decode cX10_worthLying 1 = .ok (.istore_n 1, 1) := by decide +kernel
theorem dX10_worthLying_2 : decode cX10_worthLying 2 = .ok (.iconst 1, 1) := by decide +kernel
theorem dX10_worthLying_3 : decode cX10_worthLying 3 = .ok (.istore_n 2, 1) := by decide +kernel
theorem dX10_worthLying_4 : decode cX10_worthLying 4 = .ok (.iload_n 2, 1) := by decide +kernel
theorem dX10_worthLying_5 : decode cX10_worthLying 5 = .ok (.aload_n 0, 1) := by decide +kernel
theorem dX10_worthLying_6 : decode cX10_worthLying 6 = .ok (.getfield 9, 3) := by decide +kernel
theorem dX10_worthLying_9 : decode cX10_worthLying 9 = .ok (.arraylength, 1) := by decide +kernel
theorem dX10_worthLying_10 : decode cX10_worthLying 10 = .ok (.if_icmp .ge 27, 3) := by decide +kernel
theorem dX10_worthLying_13 : decode cX10_worthLying 13 = .ok (.aload_n 0, 1) := by decide +kernel
theorem dX10_worthLying_14 : decode cX10_worthLying 14 = .ok (.getfield 9, 3) := by decide +kernel
theorem dX10_worthLying_17 : decode cX10_worthLying 17 = .ok (.iload_n 2, 1) := by decide +kernel
theorem dX10_worthLying_18 : decode cX10_worthLying 18 = .ok (.iaload, 1) := by decide +kernel
theorem dX10_worthLying_19 : decode cX10_worthLying 19 = .ok (.iconst (-1), 1) := by decide +kernel
theorem dX10_worthLying_20 : decode cX10_worthLying 20 = .ok (.if_icmp .eq 11, 3) := by decide +kernel
theorem dX10_worthLying_23 : decode cX10_worthLying 23 = .ok (.iload_n 1, 1) := by decide +kernel
theorem dX10_worthLying_24 : decode cX10_worthLying 24 = .ok (.aload_n 0, 1) := by decide +kernel
theorem dX10_worthLying_25 : decode cX10_worthLying 25 = .ok (.iload_n 2, 1) := by decide +kernel
theorem dX10_worthLying_26 : decode cX10_worthLying 26 = .ok (.invokevirtual 46, 3) := by decide +kernel
theorem dX10_worthLying_29 : decode cX10_worthLying 29 = .ok (.iadd, 1) := by decide +kernel
theorem dX10_worthLying_30 : decode cX10_worthLying 30 = .ok (.istore_n 1, 1) := by decide +kernel
theorem dX10_worthLying_31 : decode cX10_worthLying 31 = .ok (.iinc 2 1, 3) := by decide +kernel
theorem dX10_worthLying_34 : decode cX10_worthLying 34 = .ok (.goto (-30), 3) := by decide +kernel
theorem dX10_worthLying_37 : decode cX10_worthLying 37 = .ok (.iload_n 1, 1) := by decide +kernel
theorem dX10_worthLying_38 : decode cX10_worthLying 38 = .ok (.ireturn, 1) := by decide +kernel
theorem dX10_firstInSight_0 : decode cX10_firstInSight 0 = .ok (.aload_n 0, 1) := by decide +kernel
theorem dX10_firstInSight_1 : decode cX10_firstInSight 1 = .ok (.iconst 0, 1) := by decide +kernel
theorem dX10_firstInSight_2 : decode cX10_firstInSight 2 = .ok (.invokevirtual 50, 3) := by decide +kernel
theorem dX10_firstInSight_5 : decode cX10_firstInSight 5 = .ok (.bipush 9, 2) := by decide +kernel
theorem dX10_firstInSight_7 : decode cX10_firstInSight 7 = .ok (.idiv, 1) := by decide +kernel
theorem dX10_firstInSight_8 : decode cX10_firstInSight 8 = .ok (.iload_n 1, 1) := by decide +kernel
theorem dX10_firstInSight_9 : decode cX10_firstInSight 9 = .ok (.invokestatic 53, 3) := by decide +kernel
theorem dX10_firstInSight_12 : decode cX10_firstInSight 12 = .ok (.iadd, 1) := by decide +kernel
theorem dX10_firstInSight_13 : decode cX10_firstInSight 13 = .ok (.istore_n 2, 1) := by decide +kernel
theorem dX10_firstInSight_14 : decode cX10_firstInSight 14 = .ok (.aload_n 0, 1) := by decide +kernel
theorem dX10_firstInSight_15 : decode cX10_firstInSight 15 = .ok (.iconst 0, 1) := by decide +kernel
theorem dX10_firstInSight_16 : decode cX10_firstInSight 16 = .ok (.invokevirtual 50, 3) := by decide +kernel
theorem dX10_firstInSight_19 : decode cX10_firstInSight 19 = .ok (.bipush 9, 2) := by decide +kernel
theorem dX10_firstInSight_21 : decode cX10_firstInSight 21 = .ok (.irem, 1) := by decide +kernel
theorem dX10_firstInSight_22 : decode cX10_firstInSight 22 = .ok (.iload_n 1, 1) := by decide +kernel
theorem dX10_firstInSight_23 : decode cX10_firstInSight 23 = .ok (.invokestatic 56, 3) := by decide +kernel
theorem dX10_firstInSight_26 : decode cX10_firstInSight 26 = .ok (.iadd, 1) := by decide +kernel
theorem dX10_firstInSight_27 : decode cX10_firstInSight 27 = .ok (.istore_n 3, 1) := by decide +kernel
theorem dX10_firstInSight_28 : decode cX10_firstInSight 28 = .ok (.iconst 0, 1) := by decide +kernel
theorem dX10_firstInSight_29 : decode cX10_firstInSight 29 = .ok (.istore 4, 2) := by decide +kernel
theorem dX10_firstInSight_31 : decode cX10_firstInSight 31 = .ok (.iload 4, 2) := by decide +kernel
theorem dX10_firstInSight_33 : decode cX10_firstInSight 33 = .ok (.bipush 9, 2) := by decide +kernel
theorem dX10_firstInSight_35 : decode cX10_firstInSight 35 = .ok (.if_icmp .ge 58, 3) := by decide +kernel
theorem dX10_firstInSight_38 : decode cX10_firstInSight 38 = .ok (.iload_n 2, 1) := by decide +kernel
theorem dX10_firstInSight_39 : decode cX10_firstInSight 39 = .ok (.invokestatic 59, 3) := by decide +kernel
theorem dX10_firstInSight_42 : decode cX10_firstInSight 42 = .ok (.ifCond .eq 51, 3) := by decide +kernel
theorem dX10_firstInSight_45 : decode cX10_firstInSight 45 = .ok (.iload_n 3, 1) := by decide +kernel
theorem dX10_firstInSight_46 : decode cX10_firstInSight 46 = .ok (.invokestatic 63, 3) := by decide +kernel
theorem dX10_firstInSight_49 : decode cX10_firstInSight 49 = .ok (.ifCond .eq 44, 3) := by decide +kernel
theorem dX10_firstInSight_52 : decode cX10_firstInSight 52 = .ok (.aload_n 0, 1) := by decide +kernel
theorem dX10_firstInSight_53 : decode cX10_firstInSight 53 = .ok (.bipush 9, 2) := by decide +kernel
theorem dX10_firstInSight_55 : decode cX10_firstInSight 55 = .ok (.iload_n 2, 1) := by decide +kernel
theorem dX10_firstInSight_56 : decode cX10_firstInSight 56 = .ok (.imul, 1) := by decide +kernel
theorem dX10_firstInSight_57 : decode cX10_firstInSight 57 = .ok (.iload_n 3, 1) := by decide +kernel
theorem dX10_firstInSight_58 : decode cX10_firstInSight 58 = .ok (.iadd, 1) := by decide +kernel
theorem dX10_firstInSight_59 : decode cX10_firstInSight 59 = .ok (.invokevirtual 66, 3) := by decide +kernel
theorem dX10_firstInSight_62 : decode cX10_firstInSight 62 = .ok (.istore 5, 2) := by decide +kernel
theorem dX10_firstInSight_64 : decode cX10_firstInSight 64 = .ok (.iload 5, 2) := by decide +kernel
theorem dX10_firstInSight_66 : decode cX10_firstInSight 66 = .ok (.iconst (-1), 1) := by decide +kernel
theorem dX10_firstInSight_67 : decode cX10_firstInSight 67 = .ok (.if_icmp .eq 6, 3) := by decide +kernel
theorem dX10_firstInSight_70 : decode cX10_firstInSight 70 = .ok (.iload 5, 2) := by decide +kernel
theorem dX10_firstInSight_72 : decode cX10_firstInSight 72 = .ok (.ireturn, 1) := by decide +kernel
theorem dX10_firstInSight_73 : decode cX10_firstInSight 73 = .ok (.iload_n 2, 1) := by decide +kernel
theorem dX10_firstInSight_74 : decode cX10_firstInSight 74 = .ok (.iload_n 1, 1) := by decide +kernel
theorem dX10_firstInSight_75 : decode cX10_firstInSight 75 = .ok (.invokestatic 53, 3) := by decide +kernel
theorem dX10_firstInSight_78 : decode cX10_firstInSight 78 = .ok (.iadd, 1) := by decide +kernel
theorem dX10_firstInSight_79 : decode cX10_firstInSight 79 = .ok (.istore_n 2, 1) := by decide +kernel
theorem dX10_firstInSight_80 : decode cX10_firstInSight 80 = .ok (.iload_n 3, 1) := by decide +kernel
theorem dX10_firstInSight_81 : decode cX10_firstInSight 81 = .ok (.iload_n 1, 1) := by decide +kernel
theorem dX10_firstInSight_82 : decode cX10_firstInSight 82 = .ok (.invokestatic 56, 3) := by decide +kernel
theorem dX10_firstInSight_85 : decode cX10_firstInSight 85 = .ok (.iadd, 1) := by decide +kernel
theorem dX10_firstInSight_86 : decode cX10_firstInSight 86 = .ok (.istore_n 3, 1) := by decide +kernel
theorem dX10_firstInSight_87 : decode cX10_firstInSight 87 = .ok (.iinc 4 1, 3) := by decide +kernel
theorem dX10_firstInSight_90 : decode cX10_firstInSight 90 = .ok (.goto (-59), 3) := by decide +kernel
theorem dX10_firstInSight_93 : decode cX10_firstInSight 93 = .ok (.iconst (-1), 1) := by decide +kernel
theorem dX10_firstInSight_94 : decode cX10_firstInSight 94 = .ok (.ireturn, 1) := by decide +kernel
theorem dX10_returnWhite_0 : decode cX10_returnWhite 0 = .ok (.aload_n 0, 1) := by decide +kernel
theorem dX10_returnWhite_1 : decode cX10_returnWhite 1 = .ok (.getfield 41, 3) := by decide +kernel
theorem dX10_returnWhite_4 : decode cX10_returnWhite 4 = .ok (.istore_n 1, 1) := by decide +kernel
theorem dX10_returnWhite_5 : decode cX10_returnWhite 5 = .ok (.iconst 0, 1) := by decide +kernel
theorem dX10_returnWhite_6 : decode cX10_returnWhite 6 = .ok (.istore_n 2, 1) := by decide +kernel
theorem dX10_returnWhite_7 : decode cX10_returnWhite 7 = .ok (.iload_n 2, 1) := by decide +kernel
theorem dX10_returnWhite_8 : decode cX10_returnWhite 8 = .ok (.bipush 45, 2) := by decide +kernel
theorem dX10_returnWhite_10 : decode cX10_returnWhite 10 = .ok (.if_icmp .ge 27, 3) := by decide +kernel
theorem dX10_returnWhite_13 : decode cX10_returnWhite 13 = .ok (.aload_n 0, 1) := by decide +kernel
theorem dX10_returnWhite_14 : decode cX10_returnWhite 14 = .ok (.iload_n 1, 1) := by decide +kernel
theorem dX10_returnWhite_15 : decode cX10_returnWhite 15 = .ok (.invokevirtual 66, 3) := by decide +kernel
theorem dX10_returnWhite_18 : decode cX10_returnWhite 18 = .ok (.iconst (-1), 1) := by decide +kernel
theorem dX10_returnWhite_19 : decode cX10_returnWhite 19 = .ok (.if_icmp .eq 18, 3) := by decide +kernel
theorem dX10_returnWhite_22 : decode cX10_returnWhite 22 = .ok (.iload_n 2, 1) := by decide +kernel
theorem dX10_returnWhite_23 : decode cX10_returnWhite 23 = .ok (.invokestatic 69, 3) := by decide +kernel
theorem dX10_returnWhite_26 : decode cX10_returnWhite 26 = .ok (.ifCond .ne 5, 3) := by decide +kernel
theorem dX10_returnWhite_29 : decode cX10_returnWhite 29 = .ok (.iload_n 2, 1) := by decide +kernel
theorem dX10_returnWhite_30 : decode cX10_returnWhite 30 = .ok (.istore_n 1, 1) := by decide +kernel
theorem dX10_returnWhite_31 : decode cX10_returnWhite 31 = .ok (.iinc 2 1, 3) := by decide +kernel
theorem dX10_returnWhite_34 : decode cX10_returnWhite 34 = .ok (.goto (-27), 3) := by decide +kernel
theorem dX10_returnWhite_37 : decode cX10_returnWhite 37 = .ok (.aload_n 0, 1) := by decide +kernel
theorem dX10_returnWhite_38 : decode cX10_returnWhite 38 = .ok (.iconst 0, 1) := by decide +kernel
theorem dX10_returnWhite_39 : decode cX10_returnWhite 39 = .ok (.iload_n 1, 1) := by decide +kernel
theorem dX10_returnWhite_40 : decode cX10_returnWhite 40 = .ok (.invokevirtual 72, 3) := by decide +kernel
theorem dX10_returnWhite_43 : decode cX10_returnWhite 43 = .ok (.return_, 1) := by decide +kernel
theorem dX10_rowStep_0 : decode cX10_rowStep 0 = .ok (.getstatic 76, 3) := by decide +kernel
theorem dX10_rowStep_3 : decode cX10_rowStep 3 = .ok (.iload_n 0, 1) := by decide +kernel
theorem dX10_rowStep_4 : decode cX10_rowStep 4 = .ok (.bipush 7, 2) := by decide +kernel
theorem dX10_rowStep_6 : decode cX10_rowStep 6 = .ok (.iand, 1) := by decide +kernel
theorem dX10_rowStep_7 : decode cX10_rowStep 7 = .ok (.iaload, 1) := by decide +kernel
theorem dX10_rowStep_8 : decode cX10_rowStep 8 = .ok (.ireturn, 1) := by decide +kernel
theorem dX10_columnStep_0 : decode cX10_columnStep 0 = .ok (.getstatic 79, 3) := by decide +kernel
theorem dX10_columnStep_3 : decode cX10_columnStep 3 = .ok (.iload_n 0, 1) := by decide +kernel
theorem dX10_columnStep_4 : decode cX10_columnStep 4 = .ok (.bipush 7, 2) := by decide +kernel
theorem dX10_columnStep_6 : decode cX10_columnStep 6 = .ok (.iand, 1) := by decide +kernel
theorem dX10_columnStep_7 : decode cX10_columnStep 7 = .ok (.iaload, 1) := by decide +kernel
theorem dX10_columnStep_8 : decode cX10_columnStep 8 = .ok (.ireturn, 1) := by decide +kernel
theorem dX11_init_0 : decode cX11_init 0 = .ok (.aload_n 0, 1) := by decide +kernel
theorem dX11_init_1 : decode cX11_init 1 = .ok (.invokespecial 1, 3) := by decide +kernel
theorem dX11_init_4 : decode cX11_init 4 = .ok (.aload_n 0, 1) := by decide +kernel
theorem dX11_init_5 : decode cX11_init 5 = .ok (.iconst 5, 1) := by decide +kernel
theorem dX11_init_6 : decode cX11_init 6 = .ok (.anewarray 7, 3) := by decide +kernel
theorem dX11_init_9 : decode cX11_init 9 = .ok (.dup, 1) := by decide +kernel
theorem dX11_init_10 : decode cX11_init 10 = .ok (.iconst 0, 1) := by decide +kernel
theorem dX11_init_11 : decode cX11_init 11 = .ok (.new 7, 3) := by decide +kernel
theorem dX11_init_14 : decode cX11_init 14 = .ok (.dup, 1) := by decide +kernel
theorem dX11_init_15 : decode cX11_init 15 = .ok (.invokespecial 9, 3) := by decide +kernel
theorem dX11_init_18 : decode cX11_init 18 = .ok (.aastore, 1) := by decide +kernel
theorem dX11_init_19 : decode cX11_init 19 = .ok (.dup, 1) := by decide +kernel
theorem dX11_init_20 : decode cX11_init 20 = .ok (.iconst 1, 1) := by decide +kernel
theorem dX11_init_21 : decode cX11_init 21 = .ok (.new 10, 3) := by decide +kernel
theorem dX11_init_24 : decode cX11_init 24 = .ok (.dup, 1) := by decide +kernel
theorem dX11_init_25 : decode cX11_init 25 = .ok (.invokespecial 12, 3) := by decide +kernel
theorem dX11_init_28 : decode cX11_init 28 = .ok (.aastore, 1) := by decide +kernel
theorem dX11_init_29 : decode cX11_init 29 = .ok (.dup, 1) := by decide +kernel
theorem dX11_init_30 : decode cX11_init 30 = .ok (.iconst 2, 1) := by decide +kernel
theorem dX11_init_31 : decode cX11_init 31 = .ok (.new 13, 3) := by decide +kernel
theorem dX11_init_34 : decode cX11_init 34 = .ok (.dup, 1) := by decide +kernel
theorem dX11_init_35 : decode cX11_init 35 = .ok (.invokespecial 15, 3) := by decide +kernel
theorem dX11_init_38 : decode cX11_init 38 = .ok (.aastore, 1) := by decide +kernel
theorem dX11_init_39 : decode cX11_init 39 = .ok (.dup, 1) := by decide +kernel
theorem dX11_init_40 : decode cX11_init 40 = .ok (.iconst 3, 1) := by decide +kernel
theorem dX11_init_41 : decode cX11_init 41 = .ok (.new 16, 3) := by decide +kernel
theorem dX11_init_44 : decode cX11_init 44 = .ok (.dup, 1) := by decide +kernel
theorem dX11_init_45 : decode cX11_init 45 = .ok (.invokespecial 18, 3) := by decide +kernel
theorem dX11_init_48 : decode cX11_init 48 = .ok (.aastore, 1) := by decide +kernel
theorem dX11_init_49 : decode cX11_init 49 = .ok (.dup, 1) := by decide +kernel
theorem dX11_init_50 : decode cX11_init 50 = .ok (.iconst 4, 1) := by decide +kernel
theorem dX11_init_51 : decode cX11_init 51 = .ok (.new 19, 3) := by decide +kernel
theorem dX11_init_54 : decode cX11_init 54 = .ok (.dup, 1) := by decide +kernel
theorem dX11_init_55 : decode cX11_init 55 = .ok (.invokespecial 21, 3) := by decide +kernel
theorem dX11_init_58 : decode cX11_init 58 = .ok (.aastore, 1) := by decide +kernel
theorem dX11_init_59 : decode cX11_init 59 = .ok (.putfield 22, 3) := by decide +kernel
theorem dX11_init_62 : decode cX11_init 62 = .ok (.aload_n 0, 1) := by decide +kernel
theorem dX11_init_63 : decode cX11_init 63 = .ok (.new 28, 3) := by decide +kernel
theorem dX11_init_66 : decode cX11_init 66 = .ok (.dup, 1) := by decide +kernel
theorem dX11_init_67 : decode cX11_init 67 = .ok (.invokespecial 30, 3) := by decide +kernel
theorem dX11_init_70 : decode cX11_init 70 = .ok (.putfield 31, 3) := by decide +kernel
theorem dX11_init_73 : decode cX11_init 73 = .ok (.aload_n 0, 1) := by decide +kernel
theorem dX11_init_74 : decode cX11_init 74 = .ok (.new 35, 3) := by decide +kernel
theorem dX11_init_77 : decode cX11_init 77 = .ok (.dup, 1) := by decide +kernel
theorem dX11_init_78 : decode cX11_init 78 = .ok (.invokespecial 37, 3) := by decide +kernel
theorem dX11_init_81 : decode cX11_init 81 = .ok (.putfield 38, 3) := by decide +kernel
theorem dX11_init_84 : decode cX11_init 84 = .ok (.aload_n 0, 1) := by decide +kernel
theorem dX11_init_85 : decode cX11_init 85 = .ok (.new 35, 3) := by decide +kernel
theorem dX11_init_88 : decode cX11_init 88 = .ok (.dup, 1) := by decide +kernel
theorem dX11_init_89 : decode cX11_init 89 = .ok (.invokespecial 37, 3) := by decide +kernel
theorem dX11_init_92 : decode cX11_init 92 = .ok (.putfield 42, 3) := by decide +kernel
theorem dX11_init_95 : decode cX11_init 95 = .ok (.aload_n 0, 1) := by decide +kernel
theorem dX11_init_96 : decode cX11_init 96 = .ok (.new 45, 3) := by decide +kernel
theorem dX11_init_99 : decode cX11_init 99 = .ok (.dup, 1) := by decide +kernel
theorem dX11_init_100 : decode cX11_init 100 = .ok (.aload_n 0, 1) := by decide +kernel
theorem dX11_init_101 : decode cX11_init 101 = .ok (.getfield 22, 3) := by decide +kernel
theorem dX11_init_104 : decode cX11_init 104 = .ok (.invokespecial 47, 3) := by decide +kernel
theorem dX11_init_107 : decode cX11_init 107 = .ok (.putfield 50, 3) := by decide +kernel
theorem dX11_init_110 : decode cX11_init 110 = .ok (.aload_n 0, 1) := by decide +kernel
theorem dX11_init_111 : decode cX11_init 111 = .ok (.new 54, 3) := by decide +kernel
theorem dX11_init_114 : decode cX11_init 114 = .ok (.dup, 1) := by decide +kernel
theorem dX11_init_115 : decode cX11_init 115 = .ok (.aload_n 0, 1) := by decide +kernel
theorem dX11_init_116 : decode cX11_init 116 = .ok (.getfield 50, 3) := by decide +kernel
theorem dX11_init_119 : decode cX11_init 119 = .ok (.new 45, 3) := by decide +kernel
theorem dX11_init_122 : decode cX11_init 122 = .ok (.dup, 1) := by decide +kernel
theorem dX11_init_123 : decode cX11_init 123 = .ok (.aload_n 0, 1) := by decide +kernel
theorem dX11_init_124 : decode cX11_init 124 = .ok (.getfield 22, 3) := by decide +kernel
theorem dX11_init_127 : decode cX11_init 127 = .ok (.invokespecial 47, 3) := by decide +kernel
theorem dX11_init_130 : decode cX11_init 130 = .ok (.invokespecial 56, 3) := by decide +kernel
theorem dX11_init_133 : decode cX11_init 133 = .ok (.putfield 59, 3) := by decide +kernel
theorem dX11_init_136 : decode cX11_init 136 = .ok (.aload_n 0, 1) := by decide +kernel
theorem dX11_init_137 : decode cX11_init 137 = .ok (.new 63, 3) := by decide +kernel
theorem dX11_init_140 : decode cX11_init 140 = .ok (.dup, 1) := by decide +kernel
theorem dX11_init_141 : decode cX11_init 141 = .ok (.aload_n 0, 1) := by decide +kernel
theorem dX11_init_142 : decode cX11_init 142 = .ok (.getfield 50, 3) := by decide +kernel
theorem dX11_init_145 : decode cX11_init 145 = .ok (.invokespecial 65, 3) := by decide +kernel
theorem dX11_init_148 : decode cX11_init 148 = .ok (.putfield 68, 3) := by decide +kernel
theorem dX11_init_151 : decode cX11_init 151 = .ok (.return_, 1) := by decide +kernel
theorem dX11_letter_0 : decode cX11_letter 0 = .ok (.iload_n 1, 1) := by decide +kernel
theorem dX11_letter_1 : decode cX11_letter 1 = .ok (.iconst 1, 1) := by decide +kernel
theorem dX11_letter_2 : decode cX11_letter 2 = .ok (.bipush 126, 2) := by decide +kernel
theorem dX11_letter_4 : decode cX11_letter 4 = .ok (.invokestatic 72, 3) := by decide +kernel
theorem dX11_letter_7 : decode cX11_letter 7 = .ok (.ifCond .ne 6, 3) := by decide +kernel
theorem dX11_letter_10 : decode cX11_letter 10 = .ok (.bipush (-102), 2) := by decide +kernel
theorem dX11_letter_12 : decode cX11_letter 12 = .ok (.ireturn, 1) := by decide +kernel
theorem dX11_letter_13 : decode cX11_letter 13 = .ok (.aload_n 0, 1) := by decide +kernel
theorem dX11_letter_14 : decode cX11_letter 14 = .ok (.getfield 31, 3) := by decide +kernel
theorem dX11_letter_17 : decode cX11_letter 17 = .ok (.invokevirtual 76, 3) := by decide +kernel
theorem dX11_letter_20 : decode cX11_letter 20 = .ok (.ifCond .eq 6, 3) := by decide +kernel
theorem dX11_letter_23 : decode cX11_letter 23 = .ok (.bipush (-104), 2) := by decide +kernel
theorem dX11_letter_25 : decode cX11_letter 25 = .ok (.ireturn, 1) := by decide +kernel
theorem dX11_letter_26 : decode cX11_letter 26 = .ok (.aload_n 0, 1) := by decide +kernel
theorem dX11_letter_27 : decode cX11_letter 27 = .ok (.getfield 31, 3) := by decide +kernel
theorem dX11_letter_30 : decode cX11_letter 30 = .ok (.iload_n 1, 1) := by decide +kernel
theorem dX11_letter_31 : decode cX11_letter 31 = .ok (.invokevirtual 80, 3) := by decide +kernel
theorem dX11_letter_34 : decode cX11_letter 34 = .ok (.aload_n 0, 1) := by decide +kernel
theorem dX11_letter_35 : decode cX11_letter 35 = .ok (.getfield 31, 3) := by decide +kernel
theorem dX11_letter_38 : decode cX11_letter 38 = .ok (.getfield 84, 3) := by decide +kernel
theorem dX11_letter_41 : decode cX11_letter 41 = .ok (.ireturn, 1) := by decide +kernel
theorem dX11_blank_0 : decode cX11_blank 0 = .ok (.aload_n 0, 1) := by decide +kernel
theorem dX11_blank_1 : decode cX11_blank 1 = .ok (.getfield 31, 3) := by decide +kernel
theorem dX11_blank_4 : decode cX11_blank 4 = .ok (.getfield 84, 3) := by decide +kernel
theorem dX11_blank_7 : decode cX11_blank 7 = .ok (.istore_n 1, 1) := by decide +kernel
theorem dX11_blank_8 : decode cX11_blank 8 = .ok (.aload_n 0, 1) := by decide +kernel
theorem dX11_blank_9 : decode cX11_blank 9 = .ok (.getfield 31, 3) := by decide +kernel
theorem dX11_blank_12 : decode cX11_blank 12 = .ok (.iconst 0, 1) := by decide +kernel
theorem dX11_blank_13 : decode cX11_blank 13 = .ok (.putfield 84, 3) := by decide +kernel
theorem dX11_blank_16 : decode cX11_blank 16 = .ok (.iload_n 1, 1) := by decide +kernel
theorem dX11_blank_17 : decode cX11_blank 17 = .ok (.ireturn, 1) := by decide +kernel
theorem dX11_fault_0 : decode cX11_fault 0 = .ok (.aload_n 0, 1) := by decide +kernel
theorem dX11_fault_1 : decode cX11_fault 1 = .ok (.getfield 31, 3) := by decide +kernel
theorem dX11_fault_4 : decode cX11_fault 4 = .ok (.invokevirtual 88, 3) := by decide +kernel
theorem dX11_fault_7 : decode cX11_fault 7 = .ok (.ireturn, 1) := by decide +kernel
theorem dX11_table_0 : decode cX11_table 0 = .ok (.aload_n 0, 1) := by decide +kernel
theorem dX11_table_1 : decode cX11_table 1 = .ok (.getfield 31, 3) := by decide +kernel
theorem dX11_table_4 : decode cX11_table 4 = .ok (.invokevirtual 92, 3) := by decide +kernel
theorem dX11_table_7 : decode cX11_table 7 = .ok (.ifCond .ne 6, 3) := by decide +kernel
theorem dX11_table_10 : decode cX11_table 10 = .ok (.bipush (-103), 2) := by decide +kernel
theorem dX11_table_12 : decode cX11_table 12 = .ok (.ireturn, 1) := by decide +kernel
theorem dX11_table_13 : decode cX11_table 13 = .ok (.aload_n 0, 1) := by decide +kernel
theorem dX11_table_14 : decode cX11_table 14 = .ok (.getfield 38, 3) := by decide +kernel
theorem dX11_table_17 : decode cX11_table 17 = .ok (.invokevirtual 95, 3) := by decide +kernel
theorem dX11_table_20 : decode cX11_table 20 = .ok (.aload_n 0, 1) := by decide +kernel
theorem dX11_table_21 : decode cX11_table 21 = .ok (.getfield 31, 3) := by decide +kernel
theorem dX11_table_24 : decode cX11_table 24 = .ok (.aload_n 0, 1) := by decide +kernel
theorem dX11_table_25 : decode cX11_table 25 = .ok (.getfield 38, 3) := by decide +kernel
theorem dX11_table_28 : decode cX11_table 28 = .ok (.getfield 98, 3) := by decide +kernel
theorem dX11_table_31 : decode cX11_table 31 = .ok (.invokevirtual 102, 3) := by decide +kernel
theorem dX11_table_34 : decode cX11_table 34 = .ok (.aload_n 0, 1) := by decide +kernel
theorem dX11_table_35 : decode cX11_table 35 = .ok (.getfield 31, 3) := by decide +kernel
theorem dX11_table_38 : decode cX11_table 38 = .ok (.iconst 0, 1) := by decide +kernel
theorem dX11_table_39 : decode cX11_table 39 = .ok (.putfield 84, 3) := by decide +kernel
theorem dX11_table_42 : decode cX11_table 42 = .ok (.aload_n 0, 1) := by decide +kernel
theorem dX11_table_43 : decode cX11_table 43 = .ok (.iconst 0, 1) := by decide +kernel
theorem dX11_table_44 : decode cX11_table 44 = .ok (.putfield 106, 3) := by decide +kernel
theorem dX11_table_47 : decode cX11_table 47 = .ok (.aload_n 0, 1) := by decide +kernel
theorem dX11_table_48 : decode cX11_table 48 = .ok (.dup, 1) := by decide +kernel
theorem dX11_table_49 : decode cX11_table 49 = .ok (.getfield 110, 3) := by decide +kernel
theorem dX11_table_52 : decode cX11_table 52 = .ok (.iconst 1, 1) := by decide +kernel
theorem dX11_table_53 : decode cX11_table 53 = .ok (.iadd, 1) := by decide +kernel
theorem dX11_table_54 : decode cX11_table 54 = .ok (.putfield 110, 3) := by decide +kernel
theorem dX11_table_57 : decode cX11_table 57 = .ok (.aload_n 0, 1) := by decide +kernel
theorem dX11_table_58 : decode cX11_table 58 = .ok (.getfield 38, 3) := by decide +kernel
theorem dX11_table_61 : decode cX11_table 61 = .ok (.getfield 98, 3) := by decide +kernel
theorem dX11_table_64 : decode cX11_table 64 = .ok (.getfield 113, 3) := by decide +kernel
theorem dX11_table_67 : decode cX11_table 67 = .ok (.ireturn, 1) := by decide +kernel
theorem dX11_ball_0 : decode cX11_ball 0 = .ok (.aload_n 0, 1) := by decide +kernel
theorem dX11_ball_1 : decode cX11_ball 1 = .ok (.iload_n 1, 1) := by decide +kernel
theorem dX11_ball_2 : decode cX11_ball 2 = .ok (.invokevirtual 116, 3) := by decide +kernel
theorem dX11_ball_5 : decode cX11_ball 5 = .ok (.ifCond .ne 6, 3) := by decide +kernel
theorem dX11_ball_8 : decode cX11_ball 8 = .ok (.bipush (-101), 2) := by decide +kernel
theorem dX11_ball_10 : decode cX11_ball 10 = .ok (.ireturn, 1) := by decide +kernel
theorem dX11_ball_11 : decode cX11_ball 11 = .ok (.iload_n 2, 1) := by decide +kernel
theorem dX11_ball_12 : decode cX11_ball 12 = .ok (.iconst 0, 1) := by decide +kernel
theorem dX11_ball_13 : decode cX11_ball 13 = .ok (.iconst 5, 1) := by decide +kernel
theorem dX11_ball_14 : decode cX11_ball 14 = .ok (.invokestatic 72, 3) := by decide +kernel
theorem dX11_ball_17 : decode cX11_ball 17 = .ok (.ifCond .ne 6, 3) := by decide +kernel
theorem dX11_ball_20 : decode cX11_ball 20 = .ok (.bipush (-102), 2) := by decide +kernel
theorem dX11_ball_22 : decode cX11_ball 22 = .ok (.ireturn, 1) := by decide +kernel
theorem dX11_ball_23 : decode cX11_ball 23 = .ok (.iload_n 2, 1) := by decide +kernel
theorem dX11_ball_24 : decode cX11_ball 24 = .ok (.tableswitch 114 0 4 #[36, 48, 60, 72, 93], 36) := by decide +kernel
theorem dX11_ball_60 : decode cX11_ball 60 = .ok (.aload_n 0, 1) := by decide +kernel
theorem dX11_ball_61 : decode cX11_ball 61 = .ok (.getfield 38, 3) := by decide +kernel
theorem dX11_ball_64 : decode cX11_ball 64 = .ok (.getfield 98, 3) := by decide +kernel
theorem dX11_ball_67 : decode cX11_ball 67 = .ok (.iload_n 1, 1) := by decide +kernel
theorem dX11_ball_68 : decode cX11_ball 68 = .ok (.invokevirtual 120, 3) := by decide +kernel
theorem dX11_ball_71 : decode cX11_ball 71 = .ok (.ireturn, 1) := by decide +kernel
theorem dX11_ball_72 : decode cX11_ball 72 = .ok (.aload_n 0, 1) := by decide +kernel
theorem dX11_ball_73 : decode cX11_ball 73 = .ok (.getfield 38, 3) := by decide +kernel
theorem dX11_ball_76 : decode cX11_ball 76 = .ok (.getfield 98, 3) := by decide +kernel
theorem dX11_ball_79 : decode cX11_ball 79 = .ok (.iload_n 1, 1) := by decide +kernel
theorem dX11_ball_80 : decode cX11_ball 80 = .ok (.invokevirtual 124, 3) := by decide +kernel
theorem dX11_ball_83 : decode cX11_ball 83 = .ok (.ireturn, 1) := by decide +kernel
theorem dX11_ball_84 : decode cX11_ball 84 = .ok (.aload_n 0, 1) := by decide +kernel
theorem dX11_ball_85 : decode cX11_ball 85 = .ok (.getfield 38, 3) := by decide +kernel
theorem dX11_ball_88 : decode cX11_ball 88 = .ok (.getfield 98, 3) := by decide +kernel
theorem dX11_ball_91 : decode cX11_ball 91 = .ok (.iload_n 1, 1) := by decide +kernel
theorem dX11_ball_92 : decode cX11_ball 92 = .ok (.invokevirtual 127, 3) := by decide +kernel
theorem dX11_ball_95 : decode cX11_ball 95 = .ok (.ireturn, 1) := by decide +kernel
theorem dX11_ball_96 : decode cX11_ball 96 = .ok (.iload_n 1, 1) := by decide +kernel
theorem dX11_ball_97 : decode cX11_ball 97 = .ok (.ifCond .ne 7, 3) := by decide +kernel
theorem dX11_ball_100 : decode cX11_ball 100 = .ok (.iconst 1, 1) := by decide +kernel
theorem dX11_ball_101 : decode cX11_ball 101 = .ok (.goto 15, 3) := by decide +kernel
theorem dX11_ball_104 : decode cX11_ball 104 = .ok (.aload_n 0, 1) := by decide +kernel
theorem dX11_ball_105 : decode cX11_ball 105 = .ok (.getfield 68, 3) := by decide +kernel
theorem dX11_ball_108 : decode cX11_ball 108 = .ok (.aload_n 0, 1) := by decide +kernel
theorem dX11_ball_109 : decode cX11_ball 109 = .ok (.getfield 38, 3) := by decide +kernel
theorem dX11_ball_112 : decode cX11_ball 112 = .ok (.iload_n 1, 1) := by decide +kernel
theorem dX11_ball_113 : decode cX11_ball 113 = .ok (.invokevirtual 130, 3) := by decide +kernel
theorem dX11_ball_116 : decode cX11_ball 116 = .ok (.ireturn, 1) := by decide +kernel
theorem dX11_ball_117 : decode cX11_ball 117 = .ok (.iload_n 1, 1) := by decide +kernel
theorem dX11_ball_118 : decode cX11_ball 118 = .ok (.ifCond .ne 7, 3) := by decide +kernel
theorem dX11_ball_121 : decode cX11_ball 121 = .ok (.iconst (-1), 1) := by decide +kernel
theorem dX11_ball_122 : decode cX11_ball 122 = .ok (.goto 15, 3) := by decide +kernel
theorem dX11_ball_125 : decode cX11_ball 125 = .ok (.aload_n 0, 1) := by decide +kernel
theorem dX11_ball_126 : decode cX11_ball 126 = .ok (.getfield 68, 3) := by decide +kernel
theorem dX11_ball_129 : decode cX11_ball 129 = .ok (.aload_n 0, 1) := by decide +kernel
theorem dX11_ball_130 : decode cX11_ball 130 = .ok (.getfield 38, 3) := by decide +kernel
theorem dX11_ball_133 : decode cX11_ball 133 = .ok (.iload_n 1, 1) := by decide +kernel
theorem dX11_ball_134 : decode cX11_ball 134 = .ok (.invokevirtual 134, 3) := by decide +kernel
theorem dX11_ball_137 : decode cX11_ball 137 = .ok (.ireturn, 1) := by decide +kernel
theorem dX11_ball_138 : decode cX11_ball 138 = .ok (.aload_n 0, 1) := by decide +kernel
theorem dX11_ball_139 : decode cX11_ball 139 = .ok (.iload_n 1, 1) := by decide +kernel
theorem dX11_ball_140 : decode cX11_ball 140 = .ok (.invokevirtual 137, 3) := by decide +kernel
theorem dX11_ball_143 : decode cX11_ball 143 = .ok (.invokestatic 141, 3) := by decide +kernel
theorem dX11_ball_146 : decode cX11_ball 146 = .ok (.ireturn, 1) := by decide +kernel
theorem dX11_as_0 : decode cX11_as 0 = .ok (.aload_n 0, 1) := by decide +kernel
theorem dX11_as_1 : decode cX11_as 1 = .ok (.iload_n 1, 1) := by decide +kernel
theorem dX11_as_2 : decode cX11_as 2 = .ok (.invokevirtual 116, 3) := by decide +kernel
theorem dX11_as_5 : decode cX11_as 5 = .ok (.ifCond .ne 6, 3) := by decide +kernel
theorem dX11_as_8 : decode cX11_as 8 = .ok (.bipush (-101), 2) := by decide +kernel
theorem dX11_as_10 : decode cX11_as 10 = .ok (.ireturn, 1) := by decide +kernel
theorem dX11_as_11 : decode cX11_as 11 = .ok (.iload_n 2, 1) := by decide +kernel
theorem dX11_as_12 : decode cX11_as 12 = .ok (.iconst 0, 1) := by decide +kernel
theorem dX11_as_13 : decode cX11_as 13 = .ok (.iconst 4, 1) := by decide +kernel
theorem dX11_as_14 : decode cX11_as 14 = .ok (.invokestatic 72, 3) := by decide +kernel
theorem dX11_as_17 : decode cX11_as 17 = .ok (.ifCond .ne 6, 3) := by decide +kernel
theorem dX11_as_20 : decode cX11_as 20 = .ok (.bipush (-102), 2) := by decide +kernel
theorem dX11_as_22 : decode cX11_as 22 = .ok (.ireturn, 1) := by decide +kernel
theorem dX11_as_23 : decode cX11_as 23 = .ok (.aload_n 0, 1) := by decide +kernel
theorem dX11_as_24 : decode cX11_as 24 = .ok (.aload_n 0, 1) := by decide +kernel
theorem dX11_as_25 : decode cX11_as 25 = .ok (.getfield 38, 3) := by decide +kernel
theorem dX11_as_28 : decode cX11_as 28 = .ok (.getfield 98, 3) := by decide +kernel
theorem dX11_as_31 : decode cX11_as 31 = .ok (.iload_n 1, 1) := by decide +kernel
theorem dX11_as_32 : decode cX11_as 32 = .ok (.invokevirtual 120, 3) := by decide +kernel
theorem dX11_as_35 : decode cX11_as 35 = .ok (.iload_n 2, 1) := by decide +kernel
theorem dX11_as_36 : decode cX11_as 36 = .ok (.invokevirtual 147, 3) := by decide +kernel
theorem dX11_as_39 : decode cX11_as 39 = .ok (.ifCond .eq 7, 3) := by decide +kernel
theorem dX11_as_42 : decode cX11_as 42 = .ok (.iload_n 1, 1) := by decide +kernel
theorem dX11_as_43 : decode cX11_as 43 = .ok (.goto 4, 3) := by decide +kernel
theorem dX11_as_46 : decode cX11_as 46 = .ok (.iconst (-1), 1) := by decide +kernel
theorem dX11_as_47 : decode cX11_as 47 = .ok (.ireturn, 1) := by decide +kernel
theorem dX11_cell_0 : decode cX11_cell 0 = .ok (.aload_n 0, 1) := by decide +kernel
theorem dX11_cell_1 : decode cX11_cell 1 = .ok (.invokevirtual 151, 3) := by decide +kernel
theorem dX11_cell_4 : decode cX11_cell 4 = .ok (.ifCond .eq 10, 3) := by decide +kernel
theorem dX11_cell_7 : decode cX11_cell 7 = .ok (.iload_n 1, 1) := by decide +kernel
theorem dX11_cell_8 : decode cX11_cell 8 = .ok (.invokestatic 154, 3) := by decide +kernel
theorem dX11_cell_11 : decode cX11_cell 11 = .ok (.ifCond .ne 6, 3) := by decide +kernel
theorem dX11_cell_14 : decode cX11_cell 14 = .ok (.bipush (-101), 2) := by decide +kernel
theorem dX11_cell_16 : decode cX11_cell 16 = .ok (.ireturn, 1) := by decide +kernel
theorem dX11_cell_17 : decode cX11_cell 17 = .ok (.iload_n 1, 1) := by decide +kernel
theorem dX11_cell_18 : decode cX11_cell 18 = .ok (.invokestatic 157, 3) := by decide +kernel
theorem dX11_cell_21 : decode cX11_cell 21 = .ok (.ifCond .eq 8, 3) := by decide +kernel
theorem dX11_cell_24 : decode cX11_cell 24 = .ok (.bipush (-2), 2) := by decide +kernel
theorem dX11_cell_26 : decode cX11_cell 26 = .ok (.goto 14, 3) := by decide +kernel
theorem dX11_cell_29 : decode cX11_cell 29 = .ok (.aload_n 0, 1) := by decide +kernel
theorem dX11_cell_30 : decode cX11_cell 30 = .ok (.getfield 38, 3) := by decide +kernel
theorem dX11_cell_33 : decode cX11_cell 33 = .ok (.getfield 98, 3) := by decide +kernel
theorem dX11_cell_36 : decode cX11_cell 36 = .ok (.iload_n 1, 1) := by decide +kernel
theorem dX11_cell_37 : decode cX11_cell 37 = .ok (.invokevirtual 160, 3) := by decide +kernel
theorem dX11_cell_40 : decode cX11_cell 40 = .ok (.ireturn, 1) := by decide +kernel
theorem dX11_sees_0 : decode cX11_sees 0 = .ok (.iload_n 1, 1) := by decide +kernel
theorem dX11_sees_1 : decode cX11_sees 1 = .ok (.invokestatic 163, 3) := by decide +kernel
theorem dX11_sees_4 : decode cX11_sees 4 = .ok (.ifCond .ne 6, 3) := by decide +kernel
theorem dX11_sees_7 : decode cX11_sees 7 = .ok (.bipush (-102), 2) := by decide +kernel
theorem dX11_sees_9 : decode cX11_sees 9 = .ok (.ireturn, 1) := by decide +kernel
theorem dX11_sees_10 : decode cX11_sees 10 = .ok (.aload_n 0, 1) := by decide +kernel
theorem dX11_sees_11 : decode cX11_sees 11 = .ok (.invokevirtual 151, 3) := by decide +kernel
theorem dX11_sees_14 : decode cX11_sees 14 = .ok (.ifCond .ne 6, 3) := by decide +kernel
theorem dX11_sees_17 : decode cX11_sees 17 = .ok (.bipush (-103), 2) := by decide +kernel
theorem dX11_sees_19 : decode cX11_sees 19 = .ok (.ireturn, 1) := by decide +kernel
theorem dX11_sees_20 : decode cX11_sees 20 = .ok (.aload_n 0, 1) := by decide +kernel
theorem dX11_sees_21 : decode cX11_sees 21 = .ok (.getfield 38, 3) := by decide +kernel
theorem dX11_sees_24 : decode cX11_sees 24 = .ok (.getfield 98, 3) := by decide +kernel
theorem dX11_sees_27 : decode cX11_sees 27 = .ok (.iload_n 1, 1) := by decide +kernel
theorem dX11_sees_28 : decode cX11_sees 28 = .ok (.invokevirtual 166, 3) := by decide +kernel
theorem dX11_sees_31 : decode cX11_sees 31 = .ok (.ireturn, 1) := by decide +kernel
theorem dX11_put_0 : decode cX11_put 0 = .ok (.aload_n 0, 1) := by decide +kernel
theorem dX11_put_1 : decode cX11_put 1 = .ok (.iload_n 1, 1) := by decide +kernel
theorem dX11_put_2 : decode cX11_put 2 = .ok (.invokevirtual 116, 3) := by decide +kernel
theorem dX11_put_5 : decode cX11_put 5 = .ok (.ifCond .eq 10, 3) := by decide +kernel
theorem dX11_put_8 : decode cX11_put 8 = .ok (.iload_n 2, 1) := by decide +kernel
theorem dX11_put_9 : decode cX11_put 9 = .ok (.invokestatic 154, 3) := by decide +kernel
theorem dX11_put_12 : decode cX11_put 12 = .ok (.ifCond .ne 6, 3) := by decide +kernel
theorem dX11_put_15 : decode cX11_put 15 = .ok (.bipush (-101), 2) := by decide +kernel
theorem dX11_put_17 : decode cX11_put 17 = .ok (.ireturn, 1) := by decide +kernel
theorem dX11_put_18 : decode cX11_put 18 = .ok (.aload_n 0, 1) := by decide +kernel
theorem dX11_put_19 : decode cX11_put 19 = .ok (.getfield 38, 3) := by decide +kernel
theorem dX11_put_22 : decode cX11_put 22 = .ok (.getfield 98, 3) := by decide +kernel
theorem dX11_put_25 : decode cX11_put 25 = .ok (.iload_n 2, 1) := by decide +kernel
theorem dX11_put_26 : decode cX11_put 26 = .ok (.invokevirtual 160, 3) := by decide +kernel
theorem dX11_put_29 : decode cX11_put 29 = .ok (.istore_n 3, 1) := by decide +kernel
theorem dX11_put_30 : decode cX11_put 30 = .ok (.iload_n 2, 1) := by decide +kernel
theorem dX11_put_31 : decode cX11_put 31 = .ok (.invokestatic 157, 3) := by decide +kernel
theorem dX11_put_34 : decode cX11_put 34 = .ok (.ifCond .ne 13, 3) := by decide +kernel
theorem dX11_put_37 : decode cX11_put 37 = .ok (.iload_n 3, 1) := by decide +kernel
theorem dX11_put_38 : decode cX11_put 38 = .ok (.iconst (-1), 1) := by decide +kernel
theorem dX11_put_39 : decode cX11_put 39 = .ok (.if_icmp .eq 11, 3) := by decide +kernel
theorem dX11_put_42 : decode cX11_put 42 = .ok (.iload_n 3, 1) := by decide +kernel
theorem dX11_put_43 : decode cX11_put 43 = .ok (.iload_n 1, 1) := by decide +kernel
theorem dX11_put_44 : decode cX11_put 44 = .ok (.if_icmp .eq 6, 3) := by decide +kernel
theorem dX11_put_47 : decode cX11_put 47 = .ok (.bipush (-103), 2) := by decide +kernel
theorem dX11_put_49 : decode cX11_put 49 = .ok (.ireturn, 1) := by decide +kernel
theorem dX11_put_50 : decode cX11_put 50 = .ok (.aload_n 0, 1) := by decide +kernel
theorem dX11_put_51 : decode cX11_put 51 = .ok (.getfield 38, 3) := by decide +kernel
theorem dX11_put_54 : decode cX11_put 54 = .ok (.getfield 98, 3) := by decide +kernel
theorem dX11_put_57 : decode cX11_put 57 = .ok (.iload_n 1, 1) := by decide +kernel
theorem dX11_put_58 : decode cX11_put 58 = .ok (.invokevirtual 127, 3) := by decide +kernel
theorem dX11_put_61 : decode cX11_put 61 = .ok (.istore 4, 2) := by decide +kernel
theorem dX11_put_63 : decode cX11_put 63 = .ok (.aload_n 0, 1) := by decide +kernel
theorem dX11_put_64 : decode cX11_put 64 = .ok (.getfield 38, 3) := by decide +kernel
theorem dX11_put_67 : decode cX11_put 67 = .ok (.getfield 98, 3) := by decide +kernel
theorem dX11_put_70 : decode cX11_put 70 = .ok (.iload_n 1, 1) := by decide +kernel
theorem dX11_put_71 : decode cX11_put 71 = .ok (.iload_n 2, 1) := by decide +kernel
theorem dX11_put_72 : decode cX11_put 72 = .ok (.invokevirtual 169, 3) := by decide +kernel
theorem dX11_put_75 : decode cX11_put 75 = .ok (.iload 4, 2) := by decide +kernel
theorem dX11_put_77 : decode cX11_put 77 = .ok (.ireturn, 1) := by decide +kernel
theorem dX11_lift_0 : decode cX11_lift 0 = .ok (.aload_n 0, 1) := by decide +kernel
theorem dX11_lift_1 : decode cX11_lift 1 = .ok (.iload_n 1, 1) := by decide +kernel
theorem dX11_lift_2 : decode cX11_lift 2 = .ok (.invokevirtual 173, 3) := by decide +kernel
theorem dX11_lift_5 : decode cX11_lift 5 = .ok (.ifCond .ne 6, 3) := by decide +kernel
theorem dX11_lift_8 : decode cX11_lift 8 = .ok (.bipush (-101), 2) := by decide +kernel
theorem dX11_lift_10 : decode cX11_lift 10 = .ok (.ireturn, 1) := by decide +kernel
theorem dX11_lift_11 : decode cX11_lift 11 = .ok (.aload_n 0, 1) := by decide +kernel
theorem dX11_lift_12 : decode cX11_lift 12 = .ok (.getfield 38, 3) := by decide +kernel
theorem dX11_lift_15 : decode cX11_lift 15 = .ok (.getfield 98, 3) := by decide +kernel
theorem dX11_lift_18 : decode cX11_lift 18 = .ok (.iload_n 1, 1) := by decide +kernel
theorem dX11_lift_19 : decode cX11_lift 19 = .ok (.invokevirtual 127, 3) := by decide +kernel
theorem dX11_lift_22 : decode cX11_lift 22 = .ok (.istore_n 2, 1) := by decide +kernel
theorem dX11_lift_23 : decode cX11_lift 23 = .ok (.iload_n 2, 1) := by decide +kernel
theorem dX11_lift_24 : decode cX11_lift 24 = .ok (.iconst (-1), 1) := by decide +kernel
theorem dX11_lift_25 : decode cX11_lift 25 = .ok (.if_icmp .ne 6, 3) := by decide +kernel
theorem dX11_lift_28 : decode cX11_lift 28 = .ok (.bipush (-103), 2) := by decide +kernel
theorem dX11_lift_30 : decode cX11_lift 30 = .ok (.ireturn, 1) := by decide +kernel
theorem dX11_lift_31 : decode cX11_lift 31 = .ok (.aload_n 0, 1) := by decide +kernel
theorem dX11_lift_32 : decode cX11_lift 32 = .ok (.getfield 38, 3) := by decide +kernel
theorem dX11_lift_35 : decode cX11_lift 35 = .ok (.getfield 98, 3) := by decide +kernel
theorem dX11_lift_38 : decode cX11_lift 38 = .ok (.iload_n 1, 1) := by decide +kernel
theorem dX11_lift_39 : decode cX11_lift 39 = .ok (.iconst (-1), 1) := by decide +kernel
theorem dX11_lift_40 : decode cX11_lift 40 = .ok (.invokevirtual 169, 3) := by decide +kernel
theorem dX11_lift_43 : decode cX11_lift 43 = .ok (.iload_n 2, 1) := by decide +kernel
theorem dX11_lift_44 : decode cX11_lift 44 = .ok (.ireturn, 1) := by decide +kernel
theorem dX11_change_0 : decode cX11_change 0 = .ok (.aload_n 0, 1) := by decide +kernel
theorem dX11_change_1 : decode cX11_change 1 = .ok (.iload_n 1, 1) := by decide +kernel
theorem dX11_change_2 : decode cX11_change 2 = .ok (.invokevirtual 173, 3) := by decide +kernel
theorem dX11_change_5 : decode cX11_change 5 = .ok (.ifCond .ne 6, 3) := by decide +kernel
theorem dX11_change_8 : decode cX11_change 8 = .ok (.bipush (-101), 2) := by decide +kernel
theorem dX11_change_10 : decode cX11_change 10 = .ok (.ireturn, 1) := by decide +kernel
theorem dX11_change_11 : decode cX11_change 11 = .ok (.iload_n 2, 1) := by decide +kernel
theorem dX11_change_12 : decode cX11_change 12 = .ok (.iconst 0, 1) := by decide +kernel
theorem dX11_change_13 : decode cX11_change 13 = .ok (.iconst 4, 1) := by decide +kernel
theorem dX11_change_14 : decode cX11_change 14 = .ok (.invokestatic 72, 3) := by decide +kernel
theorem dX11_change_17 : decode cX11_change 17 = .ok (.ifCond .ne 6, 3) := by decide +kernel
theorem dX11_change_20 : decode cX11_change 20 = .ok (.bipush (-102), 2) := by decide +kernel
theorem dX11_change_22 : decode cX11_change 22 = .ok (.ireturn, 1) := by decide +kernel
theorem dX11_change_23 : decode cX11_change 23 = .ok (.aload_n 0, 1) := by decide +kernel
theorem dX11_change_24 : decode cX11_change 24 = .ok (.getfield 38, 3) := by decide +kernel
theorem dX11_change_27 : decode cX11_change 27 = .ok (.getfield 98, 3) := by decide +kernel
theorem dX11_change_30 : decode cX11_change 30 = .ok (.iload_n 1, 1) := by decide +kernel
theorem dX11_change_31 : decode cX11_change 31 = .ok (.invokevirtual 120, 3) := by decide +kernel
theorem dX11_change_34 : decode cX11_change 34 = .ok (.istore_n 3, 1) := by decide +kernel
theorem dX11_change_35 : decode cX11_change 35 = .ok (.aload_n 0, 1) := by decide +kernel
theorem dX11_change_36 : decode cX11_change 36 = .ok (.getfield 38, 3) := by decide +kernel
theorem dX11_change_39 : decode cX11_change 39 = .ok (.getfield 98, 3) := by decide +kernel
theorem dX11_change_42 : decode cX11_change 42 = .ok (.iload_n 1, 1) := by decide +kernel
theorem dX11_change_43 : decode cX11_change 43 = .ok (.iload_n 2, 1) := by decide +kernel
theorem dX11_change_44 : decode cX11_change 44 = .ok (.invokevirtual 176, 3) := by decide +kernel
theorem dX11_change_47 : decode cX11_change 47 = .ok (.iload_n 3, 1) := by decide +kernel
theorem dX11_change_48 : decode cX11_change 48 = .ok (.ireturn, 1) := by decide +kernel
theorem dX11_stroke_0 : decode cX11_stroke 0 = .ok (.iload_n 1, 1) := by decide +kernel
theorem dX11_stroke_1 : decode cX11_stroke 1 = .ok (.iload_n 2, 1) := by decide +kernel
theorem dX11_stroke_2 : decode cX11_stroke 2 = .ok (.iload_n 3, 1) := by decide +kernel
theorem dX11_stroke_3 : decode cX11_stroke 3 = .ok (.invokestatic 179, 3) := by decide +kernel
theorem dX11_stroke_6 : decode cX11_stroke 6 = .ok (.ifCond .ne 6, 3) := by decide +kernel
theorem dX11_stroke_9 : decode cX11_stroke 9 = .ok (.bipush (-102), 2) := by decide +kernel
theorem dX11_stroke_11 : decode cX11_stroke 11 = .ok (.ireturn, 1) := by decide +kernel
theorem dX11_stroke_12 : decode cX11_stroke 12 = .ok (.aload_n 0, 1) := by decide +kernel
theorem dX11_stroke_13 : decode cX11_stroke 13 = .ok (.invokevirtual 151, 3) := by decide +kernel
theorem dX11_stroke_16 : decode cX11_stroke 16 = .ok (.ifCond .ne 6, 3) := by decide +kernel
theorem dX11_stroke_19 : decode cX11_stroke 19 = .ok (.bipush (-103), 2) := by decide +kernel
theorem dX11_stroke_21 : decode cX11_stroke 21 = .ok (.ireturn, 1) := by decide +kernel
theorem dX11_stroke_22 : decode cX11_stroke 22 = .ok (.aload_n 0, 1) := by decide +kernel
theorem dX11_stroke_23 : decode cX11_stroke 23 = .ok (.getfield 50, 3) := by decide +kernel
theorem dX11_stroke_26 : decode cX11_stroke 26 = .ok (.aload_n 0, 1) := by decide +kernel
theorem dX11_stroke_27 : decode cX11_stroke 27 = .ok (.getfield 38, 3) := by decide +kernel
theorem dX11_stroke_30 : decode cX11_stroke 30 = .ok (.getfield 98, 3) := by decide +kernel
theorem dX11_stroke_33 : decode cX11_stroke 33 = .ok (.invokevirtual 182, 3) := by decide +kernel
theorem dX11_stroke_36 : decode cX11_stroke 36 = .ok (.aload_n 0, 1) := by decide +kernel
theorem dX11_stroke_37 : decode cX11_stroke 37 = .ok (.getfield 50, 3) := by decide +kernel
theorem dX11_stroke_40 : decode cX11_stroke 40 = .ok (.iload_n 1, 1) := by decide +kernel
theorem dX11_stroke_41 : decode cX11_stroke 41 = .ok (.iload_n 2, 1) := by decide +kernel
theorem dX11_stroke_42 : decode cX11_stroke 42 = .ok (.iload_n 3, 1) := by decide +kernel
theorem dX11_stroke_43 : decode cX11_stroke 43 = .ok (.invokevirtual 185, 3) := by decide +kernel
theorem dX11_stroke_46 : decode cX11_stroke 46 = .ok (.aload_n 0, 1) := by decide +kernel
theorem dX11_stroke_47 : decode cX11_stroke 47 = .ok (.getfield 38, 3) := by decide +kernel
theorem dX11_stroke_50 : decode cX11_stroke 50 = .ok (.aload_n 0, 1) := by decide +kernel
theorem dX11_stroke_51 : decode cX11_stroke 51 = .ok (.getfield 50, 3) := by decide +kernel
theorem dX11_stroke_54 : decode cX11_stroke 54 = .ok (.invokevirtual 189, 3) := by decide +kernel
theorem dX11_stroke_57 : decode cX11_stroke 57 = .ok (.aload_n 0, 1) := by decide +kernel
theorem dX11_stroke_58 : decode cX11_stroke 58 = .ok (.getfield 50, 3) := by decide +kernel
theorem dX11_stroke_61 : decode cX11_stroke 61 = .ok (.getfield 192, 3) := by decide +kernel
theorem dX11_stroke_64 : decode cX11_stroke 64 = .ok (.bipush 100, 2) := by decide +kernel
theorem dX11_stroke_66 : decode cX11_stroke 66 = .ok (.iadd, 1) := by decide +kernel
theorem dX11_stroke_67 : decode cX11_stroke 67 = .ok (.ireturn, 1) := by decide +kernel
theorem dX11_would_0 : decode cX11_would 0 = .ok (.iload_n 1, 1) := by decide +kernel
theorem dX11_would_1 : decode cX11_would 1 = .ok (.iload_n 2, 1) := by decide +kernel
theorem dX11_would_2 : decode cX11_would 2 = .ok (.iload_n 3, 1) := by decide +kernel
theorem dX11_would_3 : decode cX11_would 3 = .ok (.invokestatic 179, 3) := by decide +kernel
theorem dX11_would_6 : decode cX11_would 6 = .ok (.ifCond .ne 6, 3) := by decide +kernel
theorem dX11_would_9 : decode cX11_would 9 = .ok (.bipush (-102), 2) := by decide +kernel
theorem dX11_would_11 : decode cX11_would 11 = .ok (.ireturn, 1) := by decide +kernel
theorem dX11_would_12 : decode cX11_would 12 = .ok (.iload 4, 2) := by decide +kernel
theorem dX11_would_14 : decode cX11_would 14 = .ok (.iconst 0, 1) := by decide +kernel
theorem dX11_would_15 : decode cX11_would 15 = .ok (.iconst 5, 1) := by decide +kernel
theorem dX11_would_16 : decode cX11_would 16 = .ok (.invokestatic 72, 3) := by decide +kernel
theorem dX11_would_19 : decode cX11_would 19 = .ok (.ifCond .ne 18, 3) := by decide +kernel
theorem dX11_would_22 : decode cX11_would 22 = .ok (.iload 4, 2) := by decide +kernel
theorem dX11_would_24 : decode cX11_would 24 = .ok (.bipush 10, 2) := by decide +kernel
theorem dX11_would_26 : decode cX11_would 26 = .ok (.bipush 15, 2) := by decide +kernel
theorem dX11_would_28 : decode cX11_would 28 = .ok (.invokestatic 72, 3) := by decide +kernel
theorem dX11_would_31 : decode cX11_would 31 = .ok (.ifCond .ne 6, 3) := by decide +kernel
theorem dX11_would_34 : decode cX11_would 34 = .ok (.bipush (-102), 2) := by decide +kernel
theorem dX11_would_36 : decode cX11_would 36 = .ok (.ireturn, 1) := by decide +kernel
theorem dX11_would_37 : decode cX11_would 37 = .ok (.aload_n 0, 1) := by decide +kernel
theorem dX11_would_38 : decode cX11_would 38 = .ok (.invokevirtual 151, 3) := by decide +kernel
theorem dX11_would_41 : decode cX11_would 41 = .ok (.ifCond .ne 6, 3) := by decide +kernel
theorem dX11_would_44 : decode cX11_would 44 = .ok (.bipush (-103), 2) := by decide +kernel
theorem dX11_would_46 : decode cX11_would 46 = .ok (.ireturn, 1) := by decide +kernel
theorem dX11_would_47 : decode cX11_would 47 = .ok (.aload_n 0, 1) := by decide +kernel
theorem dX11_would_48 : decode cX11_would 48 = .ok (.getfield 50, 3) := by decide +kernel
theorem dX11_would_51 : decode cX11_would 51 = .ok (.aload_n 0, 1) := by decide +kernel
theorem dX11_would_52 : decode cX11_would 52 = .ok (.getfield 38, 3) := by decide +kernel
theorem dX11_would_55 : decode cX11_would 55 = .ok (.getfield 98, 3) := by decide +kernel
theorem dX11_would_58 : decode cX11_would 58 = .ok (.invokevirtual 182, 3) := by decide +kernel
theorem dX11_would_61 : decode cX11_would 61 = .ok (.aload_n 0, 1) := by decide +kernel
theorem dX11_would_62 : decode cX11_would 62 = .ok (.getfield 50, 3) := by decide +kernel
theorem dX11_would_65 : decode cX11_would 65 = .ok (.iload_n 1, 1) := by decide +kernel
theorem dX11_would_66 : decode cX11_would 66 = .ok (.iload_n 2, 1) := by decide +kernel
theorem dX11_would_67 : decode cX11_would 67 = .ok (.iload_n 3, 1) := by decide +kernel
theorem dX11_would_68 : decode cX11_would 68 = .ok (.invokevirtual 185, 3) := by decide +kernel
theorem dX11_would_71 : decode cX11_would 71 = .ok (.aload_n 0, 1) := by decide +kernel
theorem dX11_would_72 : decode cX11_would 72 = .ok (.getfield 50, 3) := by decide +kernel
theorem dX11_would_75 : decode cX11_would 75 = .ok (.iload 4, 2) := by decide +kernel
theorem dX11_would_77 : decode cX11_would 77 = .ok (.invokevirtual 195, 3) := by decide +kernel
theorem dX11_would_80 : decode cX11_would 80 = .ok (.ireturn, 1) := by decide +kernel
theorem dX11_best_0 : decode cX11_best 0 = .ok (.iload_n 1, 1) := by decide +kernel
theorem dX11_best_1 : decode cX11_best 1 = .ok (.iconst 0, 1) := by decide +kernel
theorem dX11_best_2 : decode cX11_best 2 = .ok (.iconst 3, 1) := by decide +kernel
theorem dX11_best_3 : decode cX11_best 3 = .ok (.invokestatic 72, 3) := by decide +kernel
theorem dX11_best_6 : decode cX11_best 6 = .ok (.ifCond .ne 6, 3) := by decide +kernel
theorem dX11_best_9 : decode cX11_best 9 = .ok (.bipush (-102), 2) := by decide +kernel
theorem dX11_best_11 : decode cX11_best 11 = .ok (.ireturn, 1) := by decide +kernel
theorem dX11_best_12 : decode cX11_best 12 = .ok (.aload_n 0, 1) := by decide +kernel
theorem dX11_best_13 : decode cX11_best 13 = .ok (.invokevirtual 151, 3) := by decide +kernel
theorem dX11_best_16 : decode cX11_best 16 = .ok (.ifCond .ne 6, 3) := by decide +kernel
theorem dX11_best_19 : decode cX11_best 19 = .ok (.bipush (-103), 2) := by decide +kernel
theorem dX11_best_21 : decode cX11_best 21 = .ok (.ireturn, 1) := by decide +kernel
theorem dX11_best_22 : decode cX11_best 22 = .ok (.aload_n 0, 1) := by decide +kernel
theorem dX11_best_23 : decode cX11_best 23 = .ok (.getfield 59, 3) := by decide +kernel
theorem dX11_best_26 : decode cX11_best 26 = .ok (.aload_n 0, 1) := by decide +kernel
theorem dX11_best_27 : decode cX11_best 27 = .ok (.getfield 38, 3) := by decide +kernel
theorem dX11_best_30 : decode cX11_best 30 = .ok (.getfield 98, 3) := by decide +kernel
theorem dX11_best_33 : decode cX11_best 33 = .ok (.invokevirtual 198, 3) := by decide +kernel
theorem dX11_best_36 : decode cX11_best 36 = .ok (.aload_n 0, 1) := by decide +kernel
theorem dX11_best_37 : decode cX11_best 37 = .ok (.getfield 59, 3) := by decide +kernel
theorem dX11_best_40 : decode cX11_best 40 = .ok (.iload_n 1, 1) := by decide +kernel
theorem dX11_best_41 : decode cX11_best 41 = .ok (.invokevirtual 201, 3) := by decide +kernel
theorem dX11_best_44 : decode cX11_best 44 = .ok (.ireturn, 1) := by decide +kernel
theorem dX11_plan_0 : decode cX11_plan 0 = .ok (.iload_n 1, 1) := by decide +kernel
theorem dX11_plan_1 : decode cX11_plan 1 = .ok (.iconst 0, 1) := by decide +kernel
theorem dX11_plan_2 : decode cX11_plan 2 = .ok (.iconst 3, 1) := by decide +kernel
theorem dX11_plan_3 : decode cX11_plan 3 = .ok (.invokestatic 72, 3) := by decide +kernel
theorem dX11_plan_6 : decode cX11_plan 6 = .ok (.ifCond .ne 6, 3) := by decide +kernel
theorem dX11_plan_9 : decode cX11_plan 9 = .ok (.bipush (-102), 2) := by decide +kernel
theorem dX11_plan_11 : decode cX11_plan 11 = .ok (.ireturn, 1) := by decide +kernel
theorem dX11_plan_12 : decode cX11_plan 12 = .ok (.aload_n 0, 1) := by decide +kernel
theorem dX11_plan_13 : decode cX11_plan 13 = .ok (.invokevirtual 151, 3) := by decide +kernel
theorem dX11_plan_16 : decode cX11_plan 16 = .ok (.ifCond .eq 12, 3) := by decide +kernel
theorem dX11_plan_19 : decode cX11_plan 19 = .ok (.aload_n 0, 1) := by decide +kernel
theorem dX11_plan_20 : decode cX11_plan 20 = .ok (.getfield 202, 3) := by decide +kernel
theorem dX11_plan_23 : decode cX11_plan 23 = .ok (.bipush 8, 2) := by decide +kernel
theorem dX11_plan_25 : decode cX11_plan 25 = .ok (.if_icmp .lt 6, 3) := by decide +kernel
theorem dX11_plan_28 : decode cX11_plan 28 = .ok (.bipush (-103), 2) := by decide +kernel
theorem dX11_plan_30 : decode cX11_plan 30 = .ok (.ireturn, 1) := by decide +kernel
theorem dX11_plan_31 : decode cX11_plan 31 = .ok (.aload_n 0, 1) := by decide +kernel
theorem dX11_plan_32 : decode cX11_plan 32 = .ok (.dup, 1) := by decide +kernel
theorem dX11_plan_33 : decode cX11_plan 33 = .ok (.getfield 202, 3) := by decide +kernel
theorem dX11_plan_36 : decode cX11_plan 36 = .ok (.iconst 1, 1) := by decide +kernel
theorem dX11_plan_37 : decode cX11_plan 37 = .ok (.iadd, 1) := by decide +kernel
theorem dX11_plan_38 : decode cX11_plan 38 = .ok (.putfield 202, 3) := by decide +kernel
theorem dX11_plan_41 : decode cX11_plan 41 = .ok (.aload_n 0, 1) := by decide +kernel
theorem dX11_plan_42 : decode cX11_plan 42 = .ok (.getfield 59, 3) := by decide +kernel
theorem dX11_plan_45 : decode cX11_plan 45 = .ok (.aload_n 0, 1) := by decide +kernel
theorem dX11_plan_46 : decode cX11_plan 46 = .ok (.getfield 38, 3) := by decide +kernel
theorem dX11_plan_49 : decode cX11_plan 49 = .ok (.getfield 98, 3) := by decide +kernel
theorem dX11_plan_52 : decode cX11_plan 52 = .ok (.invokevirtual 205, 3) := by decide +kernel
theorem dX11_plan_55 : decode cX11_plan 55 = .ok (.aload_n 0, 1) := by decide +kernel
theorem dX11_plan_56 : decode cX11_plan 56 = .ok (.getfield 59, 3) := by decide +kernel
theorem dX11_plan_59 : decode cX11_plan 59 = .ok (.iload_n 1, 1) := by decide +kernel
theorem dX11_plan_60 : decode cX11_plan 60 = .ok (.invokevirtual 201, 3) := by decide +kernel
theorem dX11_plan_63 : decode cX11_plan 63 = .ok (.ireturn, 1) := by decide +kernel
theorem dX11_safe_0 : decode cX11_safe 0 = .ok (.iload_n 1, 1) := by decide +kernel
theorem dX11_safe_1 : decode cX11_safe 1 = .ok (.iconst 0, 1) := by decide +kernel
theorem dX11_safe_2 : decode cX11_safe 2 = .ok (.iconst 3, 1) := by decide +kernel
theorem dX11_safe_3 : decode cX11_safe 3 = .ok (.invokestatic 72, 3) := by decide +kernel
theorem dX11_safe_6 : decode cX11_safe 6 = .ok (.ifCond .ne 6, 3) := by decide +kernel
theorem dX11_safe_9 : decode cX11_safe 9 = .ok (.bipush (-102), 2) := by decide +kernel
theorem dX11_safe_11 : decode cX11_safe 11 = .ok (.ireturn, 1) := by decide +kernel
theorem dX11_safe_12 : decode cX11_safe 12 = .ok (.aload_n 0, 1) := by decide +kernel
theorem dX11_safe_13 : decode cX11_safe 13 = .ok (.invokevirtual 151, 3) := by decide +kernel
theorem dX11_safe_16 : decode cX11_safe 16 = .ok (.ifCond .eq 12, 3) := by decide +kernel
theorem dX11_safe_19 : decode cX11_safe 19 = .ok (.aload_n 0, 1) := by decide +kernel
theorem dX11_safe_20 : decode cX11_safe 20 = .ok (.getfield 208, 3) := by decide +kernel
theorem dX11_safe_23 : decode cX11_safe 23 = .ok (.bipush 8, 2) := by decide +kernel
theorem dX11_safe_25 : decode cX11_safe 25 = .ok (.if_icmp .lt 6, 3) := by decide +kernel
theorem dX11_safe_28 : decode cX11_safe 28 = .ok (.bipush (-103), 2) := by decide +kernel
theorem dX11_safe_30 : decode cX11_safe 30 = .ok (.ireturn, 1) := by decide +kernel
theorem dX11_safe_31 : decode cX11_safe 31 = .ok (.aload_n 0, 1) := by decide +kernel
theorem dX11_safe_32 : decode cX11_safe 32 = .ok (.dup, 1) := by decide +kernel
theorem dX11_safe_33 : decode cX11_safe 33 = .ok (.getfield 208, 3) := by decide +kernel
theorem dX11_safe_36 : decode cX11_safe 36 = .ok (.iconst 1, 1) := by decide +kernel
theorem dX11_safe_37 : decode cX11_safe 37 = .ok (.iadd, 1) := by decide +kernel
theorem dX11_safe_38 : decode cX11_safe 38 = .ok (.putfield 208, 3) := by decide +kernel
theorem dX11_safe_41 : decode cX11_safe 41 = .ok (.aload_n 0, 1) := by decide +kernel
theorem dX11_safe_42 : decode cX11_safe 42 = .ok (.getfield 59, 3) := by decide +kernel
theorem dX11_safe_45 : decode cX11_safe 45 = .ok (.aload_n 0, 1) := by decide +kernel
theorem dX11_safe_46 : decode cX11_safe 46 = .ok (.getfield 38, 3) := by decide +kernel
theorem dX11_safe_49 : decode cX11_safe 49 = .ok (.getfield 98, 3) := by decide +kernel
theorem dX11_safe_52 : decode cX11_safe 52 = .ok (.invokevirtual 211, 3) := by decide +kernel
theorem dX11_safe_55 : decode cX11_safe 55 = .ok (.aload_n 0, 1) := by decide +kernel
theorem dX11_safe_56 : decode cX11_safe 56 = .ok (.getfield 59, 3) := by decide +kernel
theorem dX11_safe_59 : decode cX11_safe 59 = .ok (.iload_n 1, 1) := by decide +kernel
theorem dX11_safe_60 : decode cX11_safe 60 = .ok (.invokevirtual 201, 3) := by decide +kernel
theorem dX11_safe_63 : decode cX11_safe 63 = .ok (.ireturn, 1) := by decide +kernel
theorem dX11_wanted_0 : decode cX11_wanted 0 = .ok (.aload_n 0, 1) := by decide +kernel
theorem dX11_wanted_1 : decode cX11_wanted 1 = .ok (.iload_n 1, 1) := by decide +kernel
theorem dX11_wanted_2 : decode cX11_wanted 2 = .ok (.invokevirtual 173, 3) := by decide +kernel
theorem dX11_wanted_5 : decode cX11_wanted 5 = .ok (.ifCond .eq 18, 3) := by decide +kernel
theorem dX11_wanted_8 : decode cX11_wanted 8 = .ok (.aload_n 0, 1) := by decide +kernel
theorem dX11_wanted_9 : decode cX11_wanted 9 = .ok (.getfield 38, 3) := by decide +kernel
theorem dX11_wanted_12 : decode cX11_wanted 12 = .ok (.getfield 98, 3) := by decide +kernel
theorem dX11_wanted_15 : decode cX11_wanted 15 = .ok (.iload_n 1, 1) := by decide +kernel
theorem dX11_wanted_16 : decode cX11_wanted 16 = .ok (.invokevirtual 127, 3) := by decide +kernel
theorem dX11_wanted_19 : decode cX11_wanted 19 = .ok (.iconst (-1), 1) := by decide +kernel
theorem dX11_wanted_20 : decode cX11_wanted 20 = .ok (.if_icmp .ne 7, 3) := by decide +kernel
theorem dX11_wanted_23 : decode cX11_wanted 23 = .ok (.ldc2_w 214, 3) := by decide +kernel
theorem dX11_wanted_26 : decode cX11_wanted 26 = .ok (.lreturn, 1) := by decide +kernel
theorem dX11_wanted_27 : decode cX11_wanted 27 = .ok (.aload_n 0, 1) := by decide +kernel
theorem dX11_wanted_28 : decode cX11_wanted 28 = .ok (.iload_n 1, 1) := by decide +kernel
theorem dX11_wanted_29 : decode cX11_wanted 29 = .ok (.invokevirtual 137, 3) := by decide +kernel
theorem dX11_wanted_32 : decode cX11_wanted 32 = .ok (.lreturn, 1) := by decide +kernel
theorem dX11_see_0 : decode cX11_see 0 = .ok (.aload_n 0, 1) := by decide +kernel
theorem dX11_see_1 : decode cX11_see 1 = .ok (.iload_n 1, 1) := by decide +kernel
theorem dX11_see_2 : decode cX11_see 2 = .ok (.invokevirtual 173, 3) := by decide +kernel
theorem dX11_see_5 : decode cX11_see 5 = .ok (.ifCond .ne 6, 3) := by decide +kernel
theorem dX11_see_8 : decode cX11_see 8 = .ok (.bipush (-101), 2) := by decide +kernel
theorem dX11_see_10 : decode cX11_see 10 = .ok (.ireturn, 1) := by decide +kernel
theorem dX11_see_11 : decode cX11_see 11 = .ok (.iload 4, 2) := by decide +kernel
theorem dX11_see_13 : decode cX11_see 13 = .ok (.invokestatic 154, 3) := by decide +kernel
theorem dX11_see_16 : decode cX11_see 16 = .ok (.ifCond .ne 12, 3) := by decide +kernel
theorem dX11_see_19 : decode cX11_see 19 = .ok (.iload 4, 2) := by decide +kernel
theorem dX11_see_21 : decode cX11_see 21 = .ok (.iconst (-1), 1) := by decide +kernel
theorem dX11_see_22 : decode cX11_see 22 = .ok (.if_icmp .eq 6, 3) := by decide +kernel
theorem dX11_see_25 : decode cX11_see 25 = .ok (.bipush (-101), 2) := by decide +kernel
theorem dX11_see_27 : decode cX11_see 27 = .ok (.ireturn, 1) := by decide +kernel
theorem dX11_see_28 : decode cX11_see 28 = .ok (.iload_n 2, 1) := by decide +kernel
theorem dX11_see_29 : decode cX11_see 29 = .ok (.iload_n 3, 1) := by decide +kernel
theorem dX11_see_30 : decode cX11_see 30 = .ok (.iconst 0, 1) := by decide +kernel
theorem dX11_see_31 : decode cX11_see 31 = .ok (.invokestatic 179, 3) := by decide +kernel
theorem dX11_see_34 : decode cX11_see 34 = .ok (.ifCond .ne 6, 3) := by decide +kernel
theorem dX11_see_37 : decode cX11_see 37 = .ok (.bipush (-102), 2) := by decide +kernel
theorem dX11_see_39 : decode cX11_see 39 = .ok (.ireturn, 1) := by decide +kernel
theorem dX11_see_40 : decode cX11_see 40 = .ok (.aload_n 0, 1) := by decide +kernel
theorem dX11_see_41 : decode cX11_see 41 = .ok (.getfield 38, 3) := by decide +kernel
theorem dX11_see_44 : decode cX11_see 44 = .ok (.getfield 216, 3) := by decide +kernel
theorem dX11_see_47 : decode cX11_see 47 = .ok (.bipush 6, 2) := by decide +kernel
theorem dX11_see_49 : decode cX11_see 49 = .ok (.if_icmp .lt 6, 3) := by decide +kernel
theorem dX11_see_52 : decode cX11_see 52 = .ok (.bipush (-104), 2) := by decide +kernel
theorem dX11_see_54 : decode cX11_see 54 = .ok (.ireturn, 1) := by decide +kernel
theorem dX11_see_55 : decode cX11_see 55 = .ok (.aload_n 0, 1) := by decide +kernel
theorem dX11_see_56 : decode cX11_see 56 = .ok (.getfield 38, 3) := by decide +kernel
theorem dX11_see_59 : decode cX11_see 59 = .ok (.iload_n 1, 1) := by decide +kernel
theorem dX11_see_60 : decode cX11_see 60 = .ok (.iload_n 2, 1) := by decide +kernel
theorem dX11_see_61 : decode cX11_see 61 = .ok (.iload_n 3, 1) := by decide +kernel
theorem dX11_see_62 : decode cX11_see 62 = .ok (.iload 4, 2) := by decide +kernel
theorem dX11_see_64 : decode cX11_see 64 = .ok (.invokevirtual 219, 3) := by decide +kernel
theorem dX11_see_67 : decode cX11_see 67 = .ok (.aload_n 0, 1) := by decide +kernel
theorem dX11_see_68 : decode cX11_see 68 = .ok (.getfield 38, 3) := by decide +kernel
theorem dX11_see_71 : decode cX11_see 71 = .ok (.getfield 216, 3) := by decide +kernel
theorem dX11_see_74 : decode cX11_see 74 = .ok (.ireturn, 1) := by decide +kernel
theorem dX11_forget_0 : decode cX11_forget 0 = .ok (.aload_n 0, 1) := by decide +kernel
theorem dX11_forget_1 : decode cX11_forget 1 = .ok (.getfield 38, 3) := by decide +kernel
theorem dX11_forget_4 : decode cX11_forget 4 = .ok (.getfield 216, 3) := by decide +kernel
theorem dX11_forget_7 : decode cX11_forget 7 = .ok (.istore_n 1, 1) := by decide +kernel
theorem dX11_forget_8 : decode cX11_forget 8 = .ok (.aload_n 0, 1) := by decide +kernel
theorem dX11_forget_9 : decode cX11_forget 9 = .ok (.getfield 38, 3) := by decide +kernel
theorem dX11_forget_12 : decode cX11_forget 12 = .ok (.iconst 0, 1) := by decide +kernel
theorem dX11_forget_13 : decode cX11_forget 13 = .ok (.putfield 216, 3) := by decide +kernel
theorem dX11_forget_16 : decode cX11_forget 16 = .ok (.iload_n 1, 1) := by decide +kernel
theorem dX11_forget_17 : decode cX11_forget 17 = .ok (.ireturn, 1) := by decide +kernel
theorem dX11_frames_0 : decode cX11_frames 0 = .ok (.iload_n 1, 1) := by decide +kernel
theorem dX11_frames_1 : decode cX11_frames 1 = .ok (.iconst 1, 1) := by decide +kernel
theorem dX11_frames_2 : decode cX11_frames 2 = .ok (.bipush 60, 2) := by decide +kernel
theorem dX11_frames_4 : decode cX11_frames 4 = .ok (.invokestatic 72, 3) := by decide +kernel
theorem dX11_frames_7 : decode cX11_frames 7 = .ok (.ifCond .eq 16, 3) := by decide +kernel
theorem dX11_frames_10 : decode cX11_frames 10 = .ok (.iload_n 2, 1) := by decide +kernel
theorem dX11_frames_11 : decode cX11_frames 11 = .ok (.ifCond .lt 12, 3) := by decide +kernel
theorem dX11_frames_14 : decode cX11_frames 14 = .ok (.iload_n 3, 1) := by decide +kernel
theorem dX11_frames_15 : decode cX11_frames 15 = .ok (.iconst 0, 1) := by decide +kernel
theorem dX11_frames_16 : decode cX11_frames 16 = .ok (.iconst 2, 1) := by decide +kernel
theorem dX11_frames_17 : decode cX11_frames 17 = .ok (.invokestatic 72, 3) := by decide +kernel
theorem dX11_frames_20 : decode cX11_frames 20 = .ok (.ifCond .ne 6, 3) := by decide +kernel
theorem dX11_frames_23 : decode cX11_frames 23 = .ok (.bipush (-102), 2) := by decide +kernel
theorem dX11_frames_25 : decode cX11_frames 25 = .ok (.ireturn, 1) := by decide +kernel
theorem dX11_frames_26 : decode cX11_frames 26 = .ok (.aload_n 0, 1) := by decide +kernel
theorem dX11_frames_27 : decode cX11_frames 27 = .ok (.invokevirtual 151, 3) := by decide +kernel
theorem dX11_frames_30 : decode cX11_frames 30 = .ok (.ifCond .ne 6, 3) := by decide +kernel
theorem dX11_frames_33 : decode cX11_frames 33 = .ok (.bipush (-103), 2) := by decide +kernel
theorem dX11_frames_35 : decode cX11_frames 35 = .ok (.ireturn, 1) := by decide +kernel
theorem dX11_frames_36 : decode cX11_frames 36 = .ok (.iload_n 2, 1) := by decide +kernel
theorem dX11_frames_37 : decode cX11_frames 37 = .ok (.istore 4, 2) := by decide +kernel
theorem dX11_frames_39 : decode cX11_frames 39 = .ok (.sipush 1000, 3) := by decide +kernel
theorem dX11_frames_42 : decode cX11_frames 42 = .ok (.istore 5, 2) := by decide +kernel
theorem dX11_frames_44 : decode cX11_frames 44 = .ok (.aload_n 0, 1) := by decide +kernel
theorem dX11_frames_45 : decode cX11_frames 45 = .ok (.getfield 50, 3) := by decide +kernel
theorem dX11_frames_48 : decode cX11_frames 48 = .ok (.aload_n 0, 1) := by decide +kernel
theorem dX11_frames_49 : decode cX11_frames 49 = .ok (.getfield 38, 3) := by decide +kernel
theorem dX11_frames_52 : decode cX11_frames 52 = .ok (.getfield 98, 3) := by decide +kernel
theorem dX11_frames_55 : decode cX11_frames 55 = .ok (.invokevirtual 182, 3) := by decide +kernel
theorem dX11_frames_58 : decode cX11_frames 58 = .ok (.iconst 0, 1) := by decide +kernel
theorem dX11_frames_59 : decode cX11_frames 59 = .ok (.istore 6, 2) := by decide +kernel
theorem dX11_frames_61 : decode cX11_frames 61 = .ok (.iload 6, 2) := by decide +kernel
theorem dX11_frames_63 : decode cX11_frames 63 = .ok (.iload_n 1, 1) := by decide +kernel
theorem dX11_frames_64 : decode cX11_frames 64 = .ok (.if_icmp .ge 86, 3) := by decide +kernel
theorem dX11_frames_67 : decode cX11_frames 67 = .ok (.iload 4, 2) := by decide +kernel
theorem dX11_frames_69 : decode cX11_frames 69 = .ok (.invokestatic 223, 3) := by decide +kernel
theorem dX11_frames_72 : decode cX11_frames 72 = .ok (.istore 4, 2) := by decide +kernel
theorem dX11_frames_74 : decode cX11_frames 74 = .ok (.iload 4, 2) := by decide +kernel
theorem dX11_frames_76 : decode cX11_frames 76 = .ok (.invokestatic 226, 3) := by decide +kernel
theorem dX11_frames_79 : decode cX11_frames 79 = .ok (.bipush 8, 2) := by decide +kernel
theorem dX11_frames_81 : decode cX11_frames 81 = .ok (.irem, 1) := by decide +kernel
theorem dX11_frames_82 : decode cX11_frames 82 = .ok (.istore 7, 2) := by decide +kernel
theorem dX11_frames_84 : decode cX11_frames 84 = .ok (.iload 4, 2) := by decide +kernel
theorem dX11_frames_86 : decode cX11_frames 86 = .ok (.invokestatic 223, 3) := by decide +kernel
theorem dX11_frames_89 : decode cX11_frames 89 = .ok (.istore 4, 2) := by decide +kernel
theorem dX11_frames_91 : decode cX11_frames 91 = .ok (.iload 4, 2) := by decide +kernel
theorem dX11_frames_93 : decode cX11_frames 93 = .ok (.invokestatic 226, 3) := by decide +kernel
theorem dX11_frames_96 : decode cX11_frames 96 = .ok (.bipush 9, 2) := by decide +kernel
theorem dX11_frames_98 : decode cX11_frames 98 = .ok (.irem, 1) := by decide +kernel
theorem dX11_frames_99 : decode cX11_frames 99 = .ok (.iconst 1, 1) := by decide +kernel
theorem dX11_frames_100 : decode cX11_frames 100 = .ok (.iadd, 1) := by decide +kernel
theorem dX11_frames_101 : decode cX11_frames 101 = .ok (.istore 8, 2) := by decide +kernel
theorem dX11_frames_103 : decode cX11_frames 103 = .ok (.iload 4, 2) := by decide +kernel
theorem dX11_frames_105 : decode cX11_frames 105 = .ok (.invokestatic 223, 3) := by decide +kernel
theorem dX11_frames_108 : decode cX11_frames 108 = .ok (.istore 4, 2) := by decide +kernel
theorem dX11_frames_110 : decode cX11_frames 110 = .ok (.iload 4, 2) := by decide +kernel
theorem dX11_frames_112 : decode cX11_frames 112 = .ok (.invokestatic 226, 3) := by decide +kernel
theorem dX11_frames_115 : decode cX11_frames 115 = .ok (.iconst 3, 1) := by decide +kernel
theorem dX11_frames_116 : decode cX11_frames 116 = .ok (.irem, 1) := by decide +kernel
theorem dX11_frames_117 : decode cX11_frames 117 = .ok (.istore 9, 2) := by decide +kernel
theorem dX11_frames_119 : decode cX11_frames 119 = .ok (.aload_n 0, 1) := by decide +kernel
theorem dX11_frames_120 : decode cX11_frames 120 = .ok (.getfield 50, 3) := by decide +kernel
theorem dX11_frames_123 : decode cX11_frames 123 = .ok (.iload 7, 2) := by decide +kernel
theorem dX11_frames_125 : decode cX11_frames 125 = .ok (.iload 8, 2) := by decide +kernel
theorem dX11_frames_127 : decode cX11_frames 127 = .ok (.iload 9, 2) := by decide +kernel
theorem dX11_frames_129 : decode cX11_frames 129 = .ok (.invokevirtual 185, 3) := by decide +kernel
theorem dX11_frames_132 : decode cX11_frames 132 = .ok (.iload 5, 2) := by decide +kernel
theorem dX11_frames_134 : decode cX11_frames 134 = .ok (.aload_n 0, 1) := by decide +kernel
theorem dX11_frames_135 : decode cX11_frames 135 = .ok (.getfield 50, 3) := by decide +kernel
theorem dX11_frames_138 : decode cX11_frames 138 = .ok (.getfield 192, 3) := by decide +kernel
theorem dX11_frames_141 : decode cX11_frames 141 = .ok (.iadd, 1) := by decide +kernel
theorem dX11_frames_142 : decode cX11_frames 142 = .ok (.istore 5, 2) := by decide +kernel
theorem dX11_frames_144 : decode cX11_frames 144 = .ok (.iinc 6 1, 3) := by decide +kernel
theorem dX11_frames_147 : decode cX11_frames 147 = .ok (.goto (-86), 3) := by decide +kernel
theorem dX11_frames_150 : decode cX11_frames 150 = .ok (.iload_n 3, 1) := by decide +kernel
theorem dX11_frames_151 : decode cX11_frames 151 = .ok (.ifCond .ne 6, 3) := by decide +kernel
theorem dX11_frames_154 : decode cX11_frames 154 = .ok (.iload 5, 2) := by decide +kernel
theorem dX11_frames_156 : decode cX11_frames 156 = .ok (.ireturn, 1) := by decide +kernel
theorem dX11_frames_157 : decode cX11_frames 157 = .ok (.iload_n 3, 1) := by decide +kernel
theorem dX11_frames_158 : decode cX11_frames 158 = .ok (.iconst 1, 1) := by decide +kernel
theorem dX11_frames_159 : decode cX11_frames 159 = .ok (.if_icmp .ne 16, 3) := by decide +kernel
theorem dX11_frames_162 : decode cX11_frames 162 = .ok (.aload_n 0, 1) := by decide +kernel
theorem dX11_frames_163 : decode cX11_frames 163 = .ok (.getfield 50, 3) := by decide +kernel
theorem dX11_frames_166 : decode cX11_frames 166 = .ok (.getfield 229, 3) := by decide +kernel
theorem dX11_frames_169 : decode cX11_frames 169 = .ok (.invokevirtual 230, 3) := by decide +kernel
theorem dX11_frames_172 : decode cX11_frames 172 = .ok (.goto 5, 3) := by decide +kernel
theorem dX11_frames_175 : decode cX11_frames 175 = .ok (.iload 4, 2) := by decide +kernel
theorem dX11_frames_177 : decode cX11_frames 177 = .ok (.ireturn, 1) := by decide +kernel
theorem dX11_image_0 : decode cX11_image 0 = .ok (.aload_n 0, 1) := by decide +kernel
theorem dX11_image_1 : decode cX11_image 1 = .ok (.invokevirtual 151, 3) := by decide +kernel
theorem dX11_image_4 : decode cX11_image 4 = .ok (.ifCond .ne 6, 3) := by decide +kernel
theorem dX11_image_7 : decode cX11_image 7 = .ok (.bipush (-103), 2) := by decide +kernel
theorem dX11_image_9 : decode cX11_image 9 = .ok (.ireturn, 1) := by decide +kernel
theorem dX11_image_10 : decode cX11_image 10 = .ok (.aload_n 0, 1) := by decide +kernel
theorem dX11_image_11 : decode cX11_image 11 = .ok (.getfield 42, 3) := by decide +kernel
theorem dX11_image_14 : decode cX11_image 14 = .ok (.aload_n 0, 1) := by decide +kernel
theorem dX11_image_15 : decode cX11_image 15 = .ok (.getfield 38, 3) := by decide +kernel
theorem dX11_image_18 : decode cX11_image 18 = .ok (.invokevirtual 233, 3) := by decide +kernel
theorem dX11_image_21 : decode cX11_image 21 = .ok (.aload_n 0, 1) := by decide +kernel
theorem dX11_image_22 : decode cX11_image 22 = .ok (.iconst 1, 1) := by decide +kernel
theorem dX11_image_23 : decode cX11_image 23 = .ok (.putfield 106, 3) := by decide +kernel
theorem dX11_image_26 : decode cX11_image 26 = .ok (.aload_n 0, 1) := by decide +kernel
theorem dX11_image_27 : decode cX11_image 27 = .ok (.getfield 38, 3) := by decide +kernel
theorem dX11_image_30 : decode cX11_image 30 = .ok (.getfield 237, 3) := by decide +kernel
theorem dX11_image_33 : decode cX11_image 33 = .ok (.ireturn, 1) := by decide +kernel
theorem dX11_restore_0 : decode cX11_restore 0 = .ok (.aload_n 0, 1) := by decide +kernel
theorem dX11_restore_1 : decode cX11_restore 1 = .ok (.getfield 106, 3) := by decide +kernel
theorem dX11_restore_4 : decode cX11_restore 4 = .ok (.ifCond .ne 6, 3) := by decide +kernel
theorem dX11_restore_7 : decode cX11_restore 7 = .ok (.bipush (-103), 2) := by decide +kernel
theorem dX11_restore_9 : decode cX11_restore 9 = .ok (.ireturn, 1) := by decide +kernel
theorem dX11_restore_10 : decode cX11_restore 10 = .ok (.aload_n 0, 1) := by decide +kernel
theorem dX11_restore_11 : decode cX11_restore 11 = .ok (.getfield 38, 3) := by decide +kernel
theorem dX11_restore_14 : decode cX11_restore 14 = .ok (.aload_n 0, 1) := by decide +kernel
theorem dX11_restore_15 : decode cX11_restore 15 = .ok (.getfield 42, 3) := by decide +kernel
theorem dX11_restore_18 : decode cX11_restore 18 = .ok (.invokevirtual 233, 3) := by decide +kernel
theorem dX11_restore_21 : decode cX11_restore 21 = .ok (.aload_n 0, 1) := by decide +kernel
theorem dX11_restore_22 : decode cX11_restore 22 = .ok (.getfield 38, 3) := by decide +kernel
theorem dX11_restore_25 : decode cX11_restore 25 = .ok (.getfield 237, 3) := by decide +kernel
theorem dX11_restore_28 : decode cX11_restore 28 = .ok (.ireturn, 1) := by decide +kernel
theorem dX11_count_0 : decode cX11_count 0 = .ok (.iload_n 1, 1) := by decide +kernel
theorem dX11_count_1 : decode cX11_count 1 = .ok (.tableswitch 202 0 13 #[71, 82, 93, 104, 116, 124, 132, 137, 160, 171, 179, 187, 192, 197], 71) := by decide +kernel
theorem dX11_count_72 : decode cX11_count 72 = .ok (.aload_n 0, 1) := by decide +kernel
theorem dX11_count_73 : decode cX11_count 73 = .ok (.getfield 38, 3) := by decide +kernel
theorem dX11_count_76 : decode cX11_count 76 = .ok (.getfield 98, 3) := by decide +kernel
theorem dX11_count_79 : decode cX11_count 79 = .ok (.getfield 113, 3) := by decide +kernel
theorem dX11_count_82 : decode cX11_count 82 = .ok (.ireturn, 1) := by decide +kernel
theorem dX11_count_83 : decode cX11_count 83 = .ok (.aload_n 0, 1) := by decide +kernel
theorem dX11_count_84 : decode cX11_count 84 = .ok (.getfield 38, 3) := by decide +kernel
theorem dX11_count_87 : decode cX11_count 87 = .ok (.getfield 98, 3) := by decide +kernel
theorem dX11_count_90 : decode cX11_count 90 = .ok (.invokevirtual 230, 3) := by decide +kernel
theorem dX11_count_93 : decode cX11_count 93 = .ok (.ireturn, 1) := by decide +kernel
theorem dX11_count_94 : decode cX11_count 94 = .ok (.aload_n 0, 1) := by decide +kernel
theorem dX11_count_95 : decode cX11_count 95 = .ok (.getfield 38, 3) := by decide +kernel
theorem dX11_count_98 : decode cX11_count 98 = .ok (.getfield 98, 3) := by decide +kernel
theorem dX11_count_101 : decode cX11_count 101 = .ok (.invokevirtual 240, 3) := by decide +kernel
theorem dX11_count_104 : decode cX11_count 104 = .ok (.ireturn, 1) := by decide +kernel
theorem dX11_count_105 : decode cX11_count 105 = .ok (.aload_n 0, 1) := by decide +kernel
theorem dX11_count_106 : decode cX11_count 106 = .ok (.getfield 38, 3) := by decide +kernel
theorem dX11_count_109 : decode cX11_count 109 = .ok (.getfield 243, 3) := by decide +kernel
theorem dX11_count_112 : decode cX11_count 112 = .ok (.sipush 1000, 3) := by decide +kernel
theorem dX11_count_115 : decode cX11_count 115 = .ok (.iadd, 1) := by decide +kernel
theorem dX11_count_116 : decode cX11_count 116 = .ok (.ireturn, 1) := by decide +kernel
theorem dX11_count_117 : decode cX11_count 117 = .ok (.aload_n 0, 1) := by decide +kernel
theorem dX11_count_118 : decode cX11_count 118 = .ok (.getfield 38, 3) := by decide +kernel
theorem dX11_count_121 : decode cX11_count 121 = .ok (.getfield 237, 3) := by decide +kernel
theorem dX11_count_124 : decode cX11_count 124 = .ok (.ireturn, 1) := by decide +kernel
theorem dX11_count_125 : decode cX11_count 125 = .ok (.aload_n 0, 1) := by decide +kernel
theorem dX11_count_126 : decode cX11_count 126 = .ok (.getfield 38, 3) := by decide +kernel
theorem dX11_count_129 : decode cX11_count 129 = .ok (.getfield 246, 3) := by decide +kernel
theorem dX11_count_132 : decode cX11_count 132 = .ok (.ireturn, 1) := by decide +kernel
theorem dX11_count_133 : decode cX11_count 133 = .ok (.aload_n 0, 1) := by decide +kernel
theorem dX11_count_134 : decode cX11_count 134 = .ok (.invokevirtual 249, 3) := by decide +kernel
theorem dX11_count_137 : decode cX11_count 137 = .ok (.ireturn, 1) := by decide +kernel
theorem dX11_count_138 : decode cX11_count 138 = .ok (.aload_n 0, 1) := by decide +kernel
theorem dX11_count_139 : decode cX11_count 139 = .ok (.invokevirtual 151, 3) := by decide +kernel
theorem dX11_count_142 : decode cX11_count 142 = .ok (.ifCond .eq 17, 3) := by decide +kernel
theorem dX11_count_145 : decode cX11_count 145 = .ok (.aload_n 0, 1) := by decide +kernel
theorem dX11_count_146 : decode cX11_count 146 = .ok (.getfield 38, 3) := by decide +kernel
theorem dX11_count_149 : decode cX11_count 149 = .ok (.getfield 98, 3) := by decide +kernel
theorem dX11_count_152 : decode cX11_count 152 = .ok (.iconst 0, 1) := by decide +kernel
theorem dX11_count_153 : decode cX11_count 153 = .ok (.invokevirtual 127, 3) := by decide +kernel
theorem dX11_count_156 : decode cX11_count 156 = .ok (.goto 4, 3) := by decide +kernel
theorem dX11_count_159 : decode cX11_count 159 = .ok (.iconst 0, 1) := by decide +kernel
theorem dX11_count_160 : decode cX11_count 160 = .ok (.ireturn, 1) := by decide +kernel
theorem dX11_count_161 : decode cX11_count 161 = .ok (.aload_n 0, 1) := by decide +kernel
theorem dX11_count_162 : decode cX11_count 162 = .ok (.getfield 38, 3) := by decide +kernel
theorem dX11_count_165 : decode cX11_count 165 = .ok (.getfield 98, 3) := by decide +kernel
theorem dX11_count_168 : decode cX11_count 168 = .ok (.getfield 252, 3) := by decide +kernel
theorem dX11_count_171 : decode cX11_count 171 = .ok (.ireturn, 1) := by decide +kernel
theorem dX11_count_172 : decode cX11_count 172 = .ok (.aload_n 0, 1) := by decide +kernel
theorem dX11_count_173 : decode cX11_count 173 = .ok (.getfield 38, 3) := by decide +kernel
theorem dX11_count_176 : decode cX11_count 176 = .ok (.getfield 216, 3) := by decide +kernel
theorem dX11_count_179 : decode cX11_count 179 = .ok (.ireturn, 1) := by decide +kernel
theorem dX11_count_180 : decode cX11_count 180 = .ok (.aload_n 0, 1) := by decide +kernel
theorem dX11_count_181 : decode cX11_count 181 = .ok (.getfield 31, 3) := by decide +kernel
theorem dX11_count_184 : decode cX11_count 184 = .ok (.getfield 84, 3) := by decide +kernel
theorem dX11_count_187 : decode cX11_count 187 = .ok (.ireturn, 1) := by decide +kernel
theorem dX11_count_188 : decode cX11_count 188 = .ok (.aload_n 0, 1) := by decide +kernel
theorem dX11_count_189 : decode cX11_count 189 = .ok (.getfield 110, 3) := by decide +kernel
theorem dX11_count_192 : decode cX11_count 192 = .ok (.ireturn, 1) := by decide +kernel
theorem dX11_count_193 : decode cX11_count 193 = .ok (.aload_n 0, 1) := by decide +kernel
theorem dX11_count_194 : decode cX11_count 194 = .ok (.getfield 202, 3) := by decide +kernel
theorem dX11_count_197 : decode cX11_count 197 = .ok (.ireturn, 1) := by decide +kernel
theorem dX11_count_198 : decode cX11_count 198 = .ok (.aload_n 0, 1) := by decide +kernel
theorem dX11_count_199 : decode cX11_count 199 = .ok (.getfield 208, 3) := by decide +kernel
theorem dX11_count_202 : decode cX11_count 202 = .ok (.ireturn, 1) := by decide +kernel
theorem dX11_count_203 : decode cX11_count 203 = .ok (.bipush (-102), 2) := by decide +kernel
theorem dX11_count_205 : decode cX11_count 205 = .ok (.ireturn, 1) := by decide +kernel
theorem dX11_digest_0 : decode cX11_digest 0 = .ok (.ldc2_w 255, 3) := by decide +kernel
theorem dX11_digest_3 : decode cX11_digest 3 = .ok (.lstore_n 1, 1) := by decide +kernel
theorem dX11_digest_4 : decode cX11_digest 4 = .ok (.aload_n 0, 1) := by decide +kernel
theorem dX11_digest_5 : decode cX11_digest 5 = .ok (.invokevirtual 151, 3) := by decide +kernel
theorem dX11_digest_8 : decode cX11_digest 8 = .ok (.ifCond .eq 42, 3) := by decide +kernel
theorem dX11_digest_11 : decode cX11_digest 11 = .ok (.aload_n 0, 1) := by decide +kernel
theorem dX11_digest_12 : decode cX11_digest 12 = .ok (.lload_n 1, 1) := by decide +kernel
theorem dX11_digest_13 : decode cX11_digest 13 = .ok (.invokevirtual 257, 3) := by decide +kernel
theorem dX11_digest_16 : decode cX11_digest 16 = .ok (.lstore_n 1, 1) := by decide +kernel
theorem dX11_digest_17 : decode cX11_digest 17 = .ok (.iconst 0, 1) := by decide +kernel
theorem dX11_digest_18 : decode cX11_digest 18 = .ok (.istore_n 3, 1) := by decide +kernel
theorem dX11_digest_19 : decode cX11_digest 19 = .ok (.iload_n 3, 1) := by decide +kernel
theorem dX11_digest_20 : decode cX11_digest 20 = .ok (.bipush 8, 2) := by decide +kernel
theorem dX11_digest_22 : decode cX11_digest 22 = .ok (.if_icmp .ge 22, 3) := by decide +kernel
theorem dX11_digest_25 : decode cX11_digest 25 = .ok (.ldc2_w 261, 3) := by decide +kernel
theorem dX11_digest_28 : decode cX11_digest 28 = .ok (.lload_n 1, 1) := by decide +kernel
theorem dX11_digest_29 : decode cX11_digest 29 = .ok (.lmul, 1) := by decide +kernel
theorem dX11_digest_30 : decode cX11_digest 30 = .ok (.aload_n 0, 1) := by decide +kernel
theorem dX11_digest_31 : decode cX11_digest 31 = .ok (.iload_n 3, 1) := by decide +kernel
theorem dX11_digest_32 : decode cX11_digest 32 = .ok (.invokevirtual 263, 3) := by decide +kernel
theorem dX11_digest_35 : decode cX11_digest 35 = .ok (.i2l, 1) := by decide +kernel
theorem dX11_digest_36 : decode cX11_digest 36 = .ok (.ladd, 1) := by decide +kernel
theorem dX11_digest_37 : decode cX11_digest 37 = .ok (.lstore_n 1, 1) := by decide +kernel
theorem dX11_digest_38 : decode cX11_digest 38 = .ok (.iinc 3 1, 3) := by decide +kernel
theorem dX11_digest_41 : decode cX11_digest 41 = .ok (.goto (-22), 3) := by decide +kernel
theorem dX11_digest_44 : decode cX11_digest 44 = .ok (.aload_n 0, 1) := by decide +kernel
theorem dX11_digest_45 : decode cX11_digest 45 = .ok (.lload_n 1, 1) := by decide +kernel
theorem dX11_digest_46 : decode cX11_digest 46 = .ok (.invokevirtual 266, 3) := by decide +kernel
theorem dX11_digest_49 : decode cX11_digest 49 = .ok (.lstore_n 1, 1) := by decide +kernel
theorem dX11_digest_50 : decode cX11_digest 50 = .ok (.aload_n 0, 1) := by decide +kernel
theorem dX11_digest_51 : decode cX11_digest 51 = .ok (.getfield 31, 3) := by decide +kernel
theorem dX11_digest_54 : decode cX11_digest 54 = .ok (.lload_n 1, 1) := by decide +kernel
theorem dX11_digest_55 : decode cX11_digest 55 = .ok (.invokevirtual 269, 3) := by decide +kernel
theorem dX11_digest_58 : decode cX11_digest 58 = .ok (.lstore_n 1, 1) := by decide +kernel
theorem dX11_digest_59 : decode cX11_digest 59 = .ok (.iconst 0, 1) := by decide +kernel
theorem dX11_digest_60 : decode cX11_digest 60 = .ok (.istore_n 3, 1) := by decide +kernel
theorem dX11_digest_61 : decode cX11_digest 61 = .ok (.iload_n 3, 1) := by decide +kernel
theorem dX11_digest_62 : decode cX11_digest 62 = .ok (.bipush 13, 2) := by decide +kernel
theorem dX11_digest_64 : decode cX11_digest 64 = .ok (.if_icmp .gt 22, 3) := by decide +kernel
theorem dX11_digest_67 : decode cX11_digest 67 = .ok (.ldc2_w 261, 3) := by decide +kernel
theorem dX11_digest_70 : decode cX11_digest 70 = .ok (.lload_n 1, 1) := by decide +kernel
theorem dX11_digest_71 : decode cX11_digest 71 = .ok (.lmul, 1) := by decide +kernel
theorem dX11_digest_72 : decode cX11_digest 72 = .ok (.aload_n 0, 1) := by decide +kernel
theorem dX11_digest_73 : decode cX11_digest 73 = .ok (.iload_n 3, 1) := by decide +kernel
theorem dX11_digest_74 : decode cX11_digest 74 = .ok (.invokevirtual 272, 3) := by decide +kernel
theorem dX11_digest_77 : decode cX11_digest 77 = .ok (.i2l, 1) := by decide +kernel
theorem dX11_digest_78 : decode cX11_digest 78 = .ok (.ladd, 1) := by decide +kernel
theorem dX11_digest_79 : decode cX11_digest 79 = .ok (.lstore_n 1, 1) := by decide +kernel
theorem dX11_digest_80 : decode cX11_digest 80 = .ok (.iinc 3 1, 3) := by decide +kernel
theorem dX11_digest_83 : decode cX11_digest 83 = .ok (.goto (-22), 3) := by decide +kernel
theorem dX11_digest_86 : decode cX11_digest 86 = .ok (.lload_n 1, 1) := by decide +kernel
theorem dX11_digest_87 : decode cX11_digest 87 = .ok (.lreturn, 1) := by decide +kernel
theorem dX11_digestOfBalls_0 : decode cX11_digestOfBalls 0 = .ok (.lload_n 1, 1) := by decide +kernel
theorem dX11_digestOfBalls_1 : decode cX11_digestOfBalls 1 = .ok (.lstore_n 3, 1) := by decide +kernel
theorem dX11_digestOfBalls_2 : decode cX11_digestOfBalls 2 = .ok (.iconst 0, 1) := by decide +kernel
theorem dX11_digestOfBalls_3 : decode cX11_digestOfBalls 3 = .ok (.istore 5, 2) := by decide +kernel
theorem dX11_digestOfBalls_5 : decode cX11_digestOfBalls 5 = .ok (.iload 5, 2) := by decide +kernel
theorem dX11_digestOfBalls_7 : decode cX11_digestOfBalls 7 = .ok (.aload_n 0, 1) := by decide +kernel
theorem dX11_digestOfBalls_8 : decode cX11_digestOfBalls 8 = .ok (.getfield 38, 3) := by decide +kernel
theorem dX11_digestOfBalls_11 : decode cX11_digestOfBalls 11 = .ok (.getfield 98, 3) := by decide +kernel
theorem dX11_digestOfBalls_14 : decode cX11_digestOfBalls 14 = .ok (.getfield 113, 3) := by decide +kernel
theorem dX11_digestOfBalls_17 : decode cX11_digestOfBalls 17 = .ok (.if_icmp .gt 69, 3) := by decide +kernel
theorem dX11_digestOfBalls_20 : decode cX11_digestOfBalls 20 = .ok (.ldc2_w 261, 3) := by decide +kernel
theorem dX11_digestOfBalls_23 : decode cX11_digestOfBalls 23 = .ok (.lload_n 3, 1) := by decide +kernel
theorem dX11_digestOfBalls_24 : decode cX11_digestOfBalls 24 = .ok (.lmul, 1) := by decide +kernel
theorem dX11_digestOfBalls_25 : decode cX11_digestOfBalls 25 = .ok (.aload_n 0, 1) := by decide +kernel
theorem dX11_digestOfBalls_26 : decode cX11_digestOfBalls 26 = .ok (.getfield 38, 3) := by decide +kernel
theorem dX11_digestOfBalls_29 : decode cX11_digestOfBalls 29 = .ok (.getfield 98, 3) := by decide +kernel
theorem dX11_digestOfBalls_32 : decode cX11_digestOfBalls 32 = .ok (.iload 5, 2) := by decide +kernel
theorem dX11_digestOfBalls_34 : decode cX11_digestOfBalls 34 = .ok (.invokevirtual 120, 3) := by decide +kernel
theorem dX11_digestOfBalls_37 : decode cX11_digestOfBalls 37 = .ok (.i2l, 1) := by decide +kernel
theorem dX11_digestOfBalls_38 : decode cX11_digestOfBalls 38 = .ok (.ladd, 1) := by decide +kernel
theorem dX11_digestOfBalls_39 : decode cX11_digestOfBalls 39 = .ok (.lstore_n 3, 1) := by decide +kernel
theorem dX11_digestOfBalls_40 : decode cX11_digestOfBalls 40 = .ok (.ldc2_w 261, 3) := by decide +kernel
theorem dX11_digestOfBalls_43 : decode cX11_digestOfBalls 43 = .ok (.lload_n 3, 1) := by decide +kernel
theorem dX11_digestOfBalls_44 : decode cX11_digestOfBalls 44 = .ok (.lmul, 1) := by decide +kernel
theorem dX11_digestOfBalls_45 : decode cX11_digestOfBalls 45 = .ok (.aload_n 0, 1) := by decide +kernel
theorem dX11_digestOfBalls_46 : decode cX11_digestOfBalls 46 = .ok (.getfield 38, 3) := by decide +kernel
theorem dX11_digestOfBalls_49 : decode cX11_digestOfBalls 49 = .ok (.getfield 98, 3) := by decide +kernel
theorem dX11_digestOfBalls_52 : decode cX11_digestOfBalls 52 = .ok (.iload 5, 2) := by decide +kernel
theorem dX11_digestOfBalls_54 : decode cX11_digestOfBalls 54 = .ok (.invokevirtual 124, 3) := by decide +kernel
theorem dX11_digestOfBalls_57 : decode cX11_digestOfBalls 57 = .ok (.i2l, 1) := by decide +kernel
theorem dX11_digestOfBalls_58 : decode cX11_digestOfBalls 58 = .ok (.ladd, 1) := by decide +kernel
theorem dX11_digestOfBalls_59 : decode cX11_digestOfBalls 59 = .ok (.lstore_n 3, 1) := by decide +kernel
theorem dX11_digestOfBalls_60 : decode cX11_digestOfBalls 60 = .ok (.ldc2_w 261, 3) := by decide +kernel
theorem dX11_digestOfBalls_63 : decode cX11_digestOfBalls 63 = .ok (.lload_n 3, 1) := by decide +kernel
theorem dX11_digestOfBalls_64 : decode cX11_digestOfBalls 64 = .ok (.lmul, 1) := by decide +kernel
theorem dX11_digestOfBalls_65 : decode cX11_digestOfBalls 65 = .ok (.aload_n 0, 1) := by decide +kernel
theorem dX11_digestOfBalls_66 : decode cX11_digestOfBalls 66 = .ok (.getfield 38, 3) := by decide +kernel
theorem dX11_digestOfBalls_69 : decode cX11_digestOfBalls 69 = .ok (.getfield 98, 3) := by decide +kernel
theorem dX11_digestOfBalls_72 : decode cX11_digestOfBalls 72 = .ok (.iload 5, 2) := by decide +kernel
theorem dX11_digestOfBalls_74 : decode cX11_digestOfBalls 74 = .ok (.invokevirtual 127, 3) := by decide +kernel
theorem dX11_digestOfBalls_77 : decode cX11_digestOfBalls 77 = .ok (.i2l, 1) := by decide +kernel
theorem dX11_digestOfBalls_78 : decode cX11_digestOfBalls 78 = .ok (.ladd, 1) := by decide +kernel
theorem dX11_digestOfBalls_79 : decode cX11_digestOfBalls 79 = .ok (.lstore_n 3, 1) := by decide +kernel
theorem dX11_digestOfBalls_80 : decode cX11_digestOfBalls 80 = .ok (.iinc 5 1, 3) := by decide +kernel
theorem dX11_digestOfBalls_83 : decode cX11_digestOfBalls 83 = .ok (.goto (-78), 3) := by decide +kernel
theorem dX11_digestOfBalls_86 : decode cX11_digestOfBalls 86 = .ok (.ldc2_w 261, 3) := by decide +kernel
theorem dX11_digestOfBalls_89 : decode cX11_digestOfBalls 89 = .ok (.lload_n 3, 1) := by decide +kernel
theorem dX11_digestOfBalls_90 : decode cX11_digestOfBalls 90 = .ok (.lmul, 1) := by decide +kernel
theorem dX11_digestOfBalls_91 : decode cX11_digestOfBalls 91 = .ok (.aload_n 0, 1) := by decide +kernel
theorem dX11_digestOfBalls_92 : decode cX11_digestOfBalls 92 = .ok (.getfield 68, 3) := by decide +kernel
theorem dX11_digestOfBalls_95 : decode cX11_digestOfBalls 95 = .ok (.aload_n 0, 1) := by decide +kernel
theorem dX11_digestOfBalls_96 : decode cX11_digestOfBalls 96 = .ok (.getfield 38, 3) := by decide +kernel
theorem dX11_digestOfBalls_99 : decode cX11_digestOfBalls 99 = .ok (.iconst 1, 1) := by decide +kernel
theorem dX11_digestOfBalls_100 : decode cX11_digestOfBalls 100 = .ok (.invokevirtual 130, 3) := by decide +kernel
theorem dX11_digestOfBalls_103 : decode cX11_digestOfBalls 103 = .ok (.i2l, 1) := by decide +kernel
theorem dX11_digestOfBalls_104 : decode cX11_digestOfBalls 104 = .ok (.ladd, 1) := by decide +kernel
theorem dX11_digestOfBalls_105 : decode cX11_digestOfBalls 105 = .ok (.lstore_n 3, 1) := by decide +kernel
theorem dX11_digestOfBalls_106 : decode cX11_digestOfBalls 106 = .ok (.ldc2_w 261, 3) := by decide +kernel
theorem dX11_digestOfBalls_109 : decode cX11_digestOfBalls 109 = .ok (.lload_n 3, 1) := by decide +kernel
theorem dX11_digestOfBalls_110 : decode cX11_digestOfBalls 110 = .ok (.lmul, 1) := by decide +kernel
theorem dX11_digestOfBalls_111 : decode cX11_digestOfBalls 111 = .ok (.aload_n 0, 1) := by decide +kernel
theorem dX11_digestOfBalls_112 : decode cX11_digestOfBalls 112 = .ok (.getfield 68, 3) := by decide +kernel
theorem dX11_digestOfBalls_115 : decode cX11_digestOfBalls 115 = .ok (.aload_n 0, 1) := by decide +kernel
theorem dX11_digestOfBalls_116 : decode cX11_digestOfBalls 116 = .ok (.getfield 38, 3) := by decide +kernel
theorem dX11_digestOfBalls_119 : decode cX11_digestOfBalls 119 = .ok (.iconst 1, 1) := by decide +kernel
theorem dX11_digestOfBalls_120 : decode cX11_digestOfBalls 120 = .ok (.invokevirtual 134, 3) := by decide +kernel
theorem dX11_digestOfBalls_123 : decode cX11_digestOfBalls 123 = .ok (.i2l, 1) := by decide +kernel
theorem dX11_digestOfBalls_124 : decode cX11_digestOfBalls 124 = .ok (.ladd, 1) := by decide +kernel
theorem dX11_digestOfBalls_125 : decode cX11_digestOfBalls 125 = .ok (.lreturn, 1) := by decide +kernel
theorem dX11_digestOfStrokes_0 : decode cX11_digestOfStrokes 0 = .ok (.lload_n 1, 1) := by decide +kernel
theorem dX11_digestOfStrokes_1 : decode cX11_digestOfStrokes 1 = .ok (.lstore_n 3, 1) := by decide +kernel
theorem dX11_digestOfStrokes_2 : decode cX11_digestOfStrokes 2 = .ok (.aload_n 0, 1) := by decide +kernel
theorem dX11_digestOfStrokes_3 : decode cX11_digestOfStrokes 3 = .ok (.getfield 59, 3) := by decide +kernel
theorem dX11_digestOfStrokes_6 : decode cX11_digestOfStrokes 6 = .ok (.aload_n 0, 1) := by decide +kernel
theorem dX11_digestOfStrokes_7 : decode cX11_digestOfStrokes 7 = .ok (.getfield 38, 3) := by decide +kernel
theorem dX11_digestOfStrokes_10 : decode cX11_digestOfStrokes 10 = .ok (.getfield 98, 3) := by decide +kernel
theorem dX11_digestOfStrokes_13 : decode cX11_digestOfStrokes 13 = .ok (.invokevirtual 198, 3) := by decide +kernel
theorem dX11_digestOfStrokes_16 : decode cX11_digestOfStrokes 16 = .ok (.iconst 0, 1) := by decide +kernel
theorem dX11_digestOfStrokes_17 : decode cX11_digestOfStrokes 17 = .ok (.istore 5, 2) := by decide +kernel
theorem dX11_digestOfStrokes_19 : decode cX11_digestOfStrokes 19 = .ok (.iload 5, 2) := by decide +kernel
theorem dX11_digestOfStrokes_21 : decode cX11_digestOfStrokes 21 = .ok (.iconst 3, 1) := by decide +kernel
theorem dX11_digestOfStrokes_22 : decode cX11_digestOfStrokes 22 = .ok (.if_icmp .gt 26, 3) := by decide +kernel
theorem dX11_digestOfStrokes_25 : decode cX11_digestOfStrokes 25 = .ok (.ldc2_w 261, 3) := by decide +kernel
theorem dX11_digestOfStrokes_28 : decode cX11_digestOfStrokes 28 = .ok (.lload_n 3, 1) := by decide +kernel
theorem dX11_digestOfStrokes_29 : decode cX11_digestOfStrokes 29 = .ok (.lmul, 1) := by decide +kernel
theorem dX11_digestOfStrokes_30 : decode cX11_digestOfStrokes 30 = .ok (.aload_n 0, 1) := by decide +kernel
theorem dX11_digestOfStrokes_31 : decode cX11_digestOfStrokes 31 = .ok (.getfield 59, 3) := by decide +kernel
theorem dX11_digestOfStrokes_34 : decode cX11_digestOfStrokes 34 = .ok (.iload 5, 2) := by decide +kernel
theorem dX11_digestOfStrokes_36 : decode cX11_digestOfStrokes 36 = .ok (.invokevirtual 201, 3) := by decide +kernel
theorem dX11_digestOfStrokes_39 : decode cX11_digestOfStrokes 39 = .ok (.i2l, 1) := by decide +kernel
theorem dX11_digestOfStrokes_40 : decode cX11_digestOfStrokes 40 = .ok (.ladd, 1) := by decide +kernel
theorem dX11_digestOfStrokes_41 : decode cX11_digestOfStrokes 41 = .ok (.lstore_n 3, 1) := by decide +kernel
theorem dX11_digestOfStrokes_42 : decode cX11_digestOfStrokes 42 = .ok (.iinc 5 1, 3) := by decide +kernel
theorem dX11_digestOfStrokes_45 : decode cX11_digestOfStrokes 45 = .ok (.goto (-26), 3) := by decide +kernel
theorem dX11_digestOfStrokes_48 : decode cX11_digestOfStrokes 48 = .ok (.aload_n 0, 1) := by decide +kernel
theorem dX11_digestOfStrokes_49 : decode cX11_digestOfStrokes 49 = .ok (.getfield 50, 3) := by decide +kernel
theorem dX11_digestOfStrokes_52 : decode cX11_digestOfStrokes 52 = .ok (.aload_n 0, 1) := by decide +kernel
theorem dX11_digestOfStrokes_53 : decode cX11_digestOfStrokes 53 = .ok (.getfield 38, 3) := by decide +kernel
theorem dX11_digestOfStrokes_56 : decode cX11_digestOfStrokes 56 = .ok (.getfield 98, 3) := by decide +kernel
theorem dX11_digestOfStrokes_59 : decode cX11_digestOfStrokes 59 = .ok (.invokevirtual 182, 3) := by decide +kernel
theorem dX11_digestOfStrokes_62 : decode cX11_digestOfStrokes 62 = .ok (.aload_n 0, 1) := by decide +kernel
theorem dX11_digestOfStrokes_63 : decode cX11_digestOfStrokes 63 = .ok (.getfield 50, 3) := by decide +kernel
theorem dX11_digestOfStrokes_66 : decode cX11_digestOfStrokes 66 = .ok (.iconst 3, 1) := by decide +kernel
theorem dX11_digestOfStrokes_67 : decode cX11_digestOfStrokes 67 = .ok (.bipush 9, 2) := by decide +kernel
theorem dX11_digestOfStrokes_69 : decode cX11_digestOfStrokes 69 = .ok (.iconst 1, 1) := by decide +kernel
theorem dX11_digestOfStrokes_70 : decode cX11_digestOfStrokes 70 = .ok (.invokevirtual 185, 3) := by decide +kernel
theorem dX11_digestOfStrokes_73 : decode cX11_digestOfStrokes 73 = .ok (.iconst 0, 1) := by decide +kernel
theorem dX11_digestOfStrokes_74 : decode cX11_digestOfStrokes 74 = .ok (.istore 5, 2) := by decide +kernel
theorem dX11_digestOfStrokes_76 : decode cX11_digestOfStrokes 76 = .ok (.iload 5, 2) := by decide +kernel
theorem dX11_digestOfStrokes_78 : decode cX11_digestOfStrokes 78 = .ok (.iconst 5, 1) := by decide +kernel
theorem dX11_digestOfStrokes_79 : decode cX11_digestOfStrokes 79 = .ok (.if_icmp .gt 26, 3) := by decide +kernel
theorem dX11_digestOfStrokes_82 : decode cX11_digestOfStrokes 82 = .ok (.ldc2_w 261, 3) := by decide +kernel
theorem dX11_digestOfStrokes_85 : decode cX11_digestOfStrokes 85 = .ok (.lload_n 3, 1) := by decide +kernel
theorem dX11_digestOfStrokes_86 : decode cX11_digestOfStrokes 86 = .ok (.lmul, 1) := by decide +kernel
theorem dX11_digestOfStrokes_87 : decode cX11_digestOfStrokes 87 = .ok (.aload_n 0, 1) := by decide +kernel
theorem dX11_digestOfStrokes_88 : decode cX11_digestOfStrokes 88 = .ok (.getfield 50, 3) := by decide +kernel
theorem dX11_digestOfStrokes_91 : decode cX11_digestOfStrokes 91 = .ok (.iload 5, 2) := by decide +kernel
theorem dX11_digestOfStrokes_93 : decode cX11_digestOfStrokes 93 = .ok (.invokevirtual 195, 3) := by decide +kernel
theorem dX11_digestOfStrokes_96 : decode cX11_digestOfStrokes 96 = .ok (.i2l, 1) := by decide +kernel
theorem dX11_digestOfStrokes_97 : decode cX11_digestOfStrokes 97 = .ok (.ladd, 1) := by decide +kernel
theorem dX11_digestOfStrokes_98 : decode cX11_digestOfStrokes 98 = .ok (.lstore_n 3, 1) := by decide +kernel
theorem dX11_digestOfStrokes_99 : decode cX11_digestOfStrokes 99 = .ok (.iinc 5 1, 3) := by decide +kernel
theorem dX11_digestOfStrokes_102 : decode cX11_digestOfStrokes 102 = .ok (.goto (-26), 3) := by decide +kernel
theorem dX11_digestOfStrokes_105 : decode cX11_digestOfStrokes 105 = .ok (.lload_n 3, 1) := by decide +kernel
theorem dX11_digestOfStrokes_106 : decode cX11_digestOfStrokes 106 = .ok (.lreturn, 1) := by decide +kernel
theorem dX11_hasTable_0 : decode cX11_hasTable 0 = .ok (.aload_n 0, 1) := by decide +kernel
theorem dX11_hasTable_1 : decode cX11_hasTable 1 = .ok (.getfield 110, 3) := by decide +kernel
theorem dX11_hasTable_4 : decode cX11_hasTable 4 = .ok (.ifCond .le 7, 3) := by decide +kernel
theorem dX11_hasTable_7 : decode cX11_hasTable 7 = .ok (.iconst 1, 1) := by decide +kernel
theorem dX11_hasTable_8 : decode cX11_hasTable 8 = .ok (.goto 4, 3) := by decide +kernel
theorem dX11_hasTable_11 : decode cX11_hasTable 11 = .ok (.iconst 0, 1) := by decide +kernel
theorem dX11_hasTable_12 : decode cX11_hasTable 12 = .ok (.ireturn, 1) := by decide +kernel
theorem dX11_isBall_0 : decode cX11_isBall 0 = .ok (.aload_n 0, 1) := by decide +kernel
theorem dX11_isBall_1 : decode cX11_isBall 1 = .ok (.invokevirtual 151, 3) := by decide +kernel
theorem dX11_isBall_4 : decode cX11_isBall 4 = .ok (.ifCond .eq 25, 3) := by decide +kernel
theorem dX11_isBall_7 : decode cX11_isBall 7 = .ok (.iload_n 1, 1) := by decide +kernel
theorem dX11_isBall_8 : decode cX11_isBall 8 = .ok (.iconst 0, 1) := by decide +kernel
theorem dX11_isBall_9 : decode cX11_isBall 9 = .ok (.aload_n 0, 1) := by decide +kernel
theorem dX11_isBall_10 : decode cX11_isBall 10 = .ok (.getfield 38, 3) := by decide +kernel
theorem dX11_isBall_13 : decode cX11_isBall 13 = .ok (.getfield 98, 3) := by decide +kernel
theorem dX11_isBall_16 : decode cX11_isBall 16 = .ok (.getfield 113, 3) := by decide +kernel
theorem dX11_isBall_19 : decode cX11_isBall 19 = .ok (.invokestatic 72, 3) := by decide +kernel
theorem dX11_isBall_22 : decode cX11_isBall 22 = .ok (.ifCond .eq 7, 3) := by decide +kernel
theorem dX11_isBall_25 : decode cX11_isBall 25 = .ok (.iconst 1, 1) := by decide +kernel
theorem dX11_isBall_26 : decode cX11_isBall 26 = .ok (.goto 4, 3) := by decide +kernel
theorem dX11_isBall_29 : decode cX11_isBall 29 = .ok (.iconst 0, 1) := by decide +kernel
theorem dX11_isBall_30 : decode cX11_isBall 30 = .ok (.ireturn, 1) := by decide +kernel
theorem dX11_isObjectBall_0 : decode cX11_isObjectBall 0 = .ok (.iload_n 1, 1) := by decide +kernel
theorem dX11_isObjectBall_1 : decode cX11_isObjectBall 1 = .ok (.ifCond .eq 15, 3) := by decide +kernel
theorem dX11_isObjectBall_4 : decode cX11_isObjectBall 4 = .ok (.aload_n 0, 1) := by decide +kernel
theorem dX11_isObjectBall_5 : decode cX11_isObjectBall 5 = .ok (.iload_n 1, 1) := by decide +kernel
theorem dX11_isObjectBall_6 : decode cX11_isObjectBall 6 = .ok (.invokevirtual 116, 3) := by decide +kernel
theorem dX11_isObjectBall_9 : decode cX11_isObjectBall 9 = .ok (.ifCond .eq 7, 3) := by decide +kernel
theorem dX11_isObjectBall_12 : decode cX11_isObjectBall 12 = .ok (.iconst 1, 1) := by decide +kernel
theorem dX11_isObjectBall_13 : decode cX11_isObjectBall 13 = .ok (.goto 4, 3) := by decide +kernel
theorem dX11_isObjectBall_16 : decode cX11_isObjectBall 16 = .ok (.iconst 0, 1) := by decide +kernel
theorem dX11_isObjectBall_17 : decode cX11_isObjectBall 17 = .ok (.ireturn, 1) := by decide +kernel
theorem dX11_isOfKind_0 : decode cX11_isOfKind 0 = .ok (.iload_n 1, 1) := by decide +kernel
theorem dX11_isOfKind_1 : decode cX11_isOfKind 1 = .ok (.ifCond .lt 21, 3) := by decide +kernel
theorem dX11_isOfKind_4 : decode cX11_isOfKind 4 = .ok (.iload_n 1, 1) := by decide +kernel
theorem dX11_isOfKind_5 : decode cX11_isOfKind 5 = .ok (.aload_n 0, 1) := by decide +kernel
theorem dX11_isOfKind_6 : decode cX11_isOfKind 6 = .ok (.getfield 22, 3) := by decide +kernel
theorem dX11_isOfKind_9 : decode cX11_isOfKind 9 = .ok (.arraylength, 1) := by decide +kernel
theorem dX11_isOfKind_10 : decode cX11_isOfKind 10 = .ok (.if_icmp .ge 12, 3) := by decide +kernel
theorem dX11_isOfKind_13 : decode cX11_isOfKind 13 = .ok (.aload_n 0, 1) := by decide +kernel
theorem dX11_isOfKind_14 : decode cX11_isOfKind 14 = .ok (.getfield 22, 3) := by decide +kernel
theorem dX11_isOfKind_17 : decode cX11_isOfKind 17 = .ok (.iload_n 1, 1) := by decide +kernel
theorem dX11_isOfKind_18 : decode cX11_isOfKind 18 = .ok (.aaload, 1) := by decide +kernel
theorem dX11_isOfKind_19 : decode cX11_isOfKind 19 = .ok (.goto 4, 3) := by decide +kernel
theorem dX11_isOfKind_22 : decode cX11_isOfKind 22 = .ok (.aconst_null, 1) := by decide +kernel
theorem dX11_isOfKind_23 : decode cX11_isOfKind 23 = .ok (.astore_n 3, 1) := by decide +kernel
theorem dX11_isOfKind_24 : decode cX11_isOfKind 24 = .ok (.iload_n 2, 1) := by decide +kernel
theorem dX11_isOfKind_25 : decode cX11_isOfKind 25 = .ok (.tableswitch 51 0 3 #[31, 36, 41, 46], 31) := by decide +kernel
theorem dX11_isOfKind_56 : decode cX11_isOfKind 56 = .ok (.aload_n 3, 1) := by decide +kernel
theorem dX11_isOfKind_57 : decode cX11_isOfKind 57 = .ok (.instanceof 7, 3) := by decide +kernel
theorem dX11_isOfKind_60 : decode cX11_isOfKind 60 = .ok (.ireturn, 1) := by decide +kernel
theorem dX11_isOfKind_61 : decode cX11_isOfKind 61 = .ok (.aload_n 3, 1) := by decide +kernel
theorem dX11_isOfKind_62 : decode cX11_isOfKind 62 = .ok (.instanceof 10, 3) := by decide +kernel
theorem dX11_isOfKind_65 : decode cX11_isOfKind 65 = .ok (.ireturn, 1) := by decide +kernel
theorem dX11_isOfKind_66 : decode cX11_isOfKind 66 = .ok (.aload_n 3, 1) := by decide +kernel
theorem dX11_isOfKind_67 : decode cX11_isOfKind 67 = .ok (.instanceof 13, 3) := by decide +kernel
theorem dX11_isOfKind_70 : decode cX11_isOfKind 70 = .ok (.ireturn, 1) := by decide +kernel
theorem dX11_isOfKind_71 : decode cX11_isOfKind 71 = .ok (.aload_n 3, 1) := by decide +kernel
theorem dX11_isOfKind_72 : decode cX11_isOfKind 72 = .ok (.instanceof 16, 3) := by decide +kernel
theorem dX11_isOfKind_75 : decode cX11_isOfKind 75 = .ok (.ireturn, 1) := by decide +kernel
theorem dX11_isOfKind_76 : decode cX11_isOfKind 76 = .ok (.aload_n 3, 1) := by decide +kernel
theorem dX11_isOfKind_77 : decode cX11_isOfKind 77 = .ok (.instanceof 19, 3) := by decide +kernel
theorem dX11_isOfKind_80 : decode cX11_isOfKind 80 = .ok (.ireturn, 1) := by decide +kernel
theorem dX11_wantedCells_0 : decode cX11_wantedCells 0 = .ok (.iload_n 1, 1) := by decide +kernel
theorem dX11_wantedCells_1 : decode cX11_wantedCells 1 = .ok (.ifCond .eq 22, 3) := by decide +kernel
theorem dX11_wantedCells_4 : decode cX11_wantedCells 4 = .ok (.aload_n 0, 1) := by decide +kernel
theorem dX11_wantedCells_5 : decode cX11_wantedCells 5 = .ok (.getfield 38, 3) := by decide +kernel
theorem dX11_wantedCells_8 : decode cX11_wantedCells 8 = .ok (.getfield 98, 3) := by decide +kernel
theorem dX11_wantedCells_11 : decode cX11_wantedCells 11 = .ok (.iload_n 1, 1) := by decide +kernel
theorem dX11_wantedCells_12 : decode cX11_wantedCells 12 = .ok (.invokevirtual 127, 3) := by decide +kernel
theorem dX11_wantedCells_15 : decode cX11_wantedCells 15 = .ok (.iconst (-1), 1) := by decide +kernel
theorem dX11_wantedCells_16 : decode cX11_wantedCells 16 = .ok (.if_icmp .eq 7, 3) := by decide +kernel
theorem dX11_wantedCells_19 : decode cX11_wantedCells 19 = .ok (.iconst 1, 1) := by decide +kernel
theorem dX11_wantedCells_20 : decode cX11_wantedCells 20 = .ok (.goto 4, 3) := by decide +kernel
theorem dX11_wantedCells_23 : decode cX11_wantedCells 23 = .ok (.iconst 0, 1) := by decide +kernel
theorem dX11_wantedCells_24 : decode cX11_wantedCells 24 = .ok (.istore_n 2, 1) := by decide +kernel
theorem dX11_wantedCells_25 : decode cX11_wantedCells 25 = .ok (.iload_n 2, 1) := by decide +kernel
theorem dX11_wantedCells_26 : decode cX11_wantedCells 26 = .ok (.ifCond .eq 21, 3) := by decide +kernel
theorem dX11_wantedCells_29 : decode cX11_wantedCells 29 = .ok (.aload_n 0, 1) := by decide +kernel
theorem dX11_wantedCells_30 : decode cX11_wantedCells 30 = .ok (.getfield 59, 3) := by decide +kernel
theorem dX11_wantedCells_33 : decode cX11_wantedCells 33 = .ok (.aload_n 0, 1) := by decide +kernel
theorem dX11_wantedCells_34 : decode cX11_wantedCells 34 = .ok (.getfield 38, 3) := by decide +kernel
theorem dX11_wantedCells_37 : decode cX11_wantedCells 37 = .ok (.getfield 98, 3) := by decide +kernel
theorem dX11_wantedCells_40 : decode cX11_wantedCells 40 = .ok (.iload_n 1, 1) := by decide +kernel
theorem dX11_wantedCells_41 : decode cX11_wantedCells 41 = .ok (.invokevirtual 275, 3) := by decide +kernel
theorem dX11_wantedCells_44 : decode cX11_wantedCells 44 = .ok (.goto 4, 3) := by decide +kernel
theorem dX11_wantedCells_47 : decode cX11_wantedCells 47 = .ok (.lconst 0, 1) := by decide +kernel
theorem dX11_wantedCells_48 : decode cX11_wantedCells 48 = .ok (.lreturn, 1) := by decide +kernel
theorem dX11_ballsInSight_0 : decode cX11_ballsInSight 0 = .ok (.iconst 0, 1) := by decide +kernel
theorem dX11_ballsInSight_1 : decode cX11_ballsInSight 1 = .ok (.istore_n 1, 1) := by decide +kernel
theorem dX11_ballsInSight_2 : decode cX11_ballsInSight 2 = .ok (.iconst 0, 1) := by decide +kernel
theorem dX11_ballsInSight_3 : decode cX11_ballsInSight 3 = .ok (.istore_n 2, 1) := by decide +kernel
theorem dX11_ballsInSight_4 : decode cX11_ballsInSight 4 = .ok (.iload_n 2, 1) := by decide +kernel
theorem dX11_ballsInSight_5 : decode cX11_ballsInSight 5 = .ok (.bipush 8, 2) := by decide +kernel
theorem dX11_ballsInSight_7 : decode cX11_ballsInSight 7 = .ok (.if_icmp .ge 34, 3) := by decide +kernel
theorem dX11_ballsInSight_10 : decode cX11_ballsInSight 10 = .ok (.aload_n 0, 1) := by decide +kernel
theorem dX11_ballsInSight_11 : decode cX11_ballsInSight 11 = .ok (.invokevirtual 151, 3) := by decide +kernel
theorem dX11_ballsInSight_14 : decode cX11_ballsInSight 14 = .ok (.ifCond .eq 27, 3) := by decide +kernel
theorem dX11_ballsInSight_17 : decode cX11_ballsInSight 17 = .ok (.aload_n 0, 1) := by decide +kernel
theorem dX11_ballsInSight_18 : decode cX11_ballsInSight 18 = .ok (.getfield 38, 3) := by decide +kernel
theorem dX11_ballsInSight_21 : decode cX11_ballsInSight 21 = .ok (.getfield 98, 3) := by decide +kernel
theorem dX11_ballsInSight_24 : decode cX11_ballsInSight 24 = .ok (.iload_n 2, 1) := by decide +kernel
theorem dX11_ballsInSight_25 : decode cX11_ballsInSight 25 = .ok (.invokevirtual 166, 3) := by decide +kernel
theorem dX11_ballsInSight_28 : decode cX11_ballsInSight 28 = .ok (.iconst (-1), 1) := by decide +kernel
theorem dX11_ballsInSight_29 : decode cX11_ballsInSight 29 = .ok (.if_icmp .eq 6, 3) := by decide +kernel
theorem dX11_ballsInSight_32 : decode cX11_ballsInSight 32 = .ok (.iinc 1 1, 3) := by decide +kernel
theorem dX11_ballsInSight_35 : decode cX11_ballsInSight 35 = .ok (.iinc 2 1, 3) := by decide +kernel
theorem dX11_ballsInSight_38 : decode cX11_ballsInSight 38 = .ok (.goto (-34), 3) := by decide +kernel
theorem dX11_ballsInSight_41 : decode cX11_ballsInSight 41 = .ok (.iload_n 1, 1) := by decide +kernel
theorem dX11_ballsInSight_42 : decode cX11_ballsInSight 42 = .ok (.ireturn, 1) := by decide +kernel
theorem dX11_within_0 : decode cX11_within 0 = .ok (.iload_n 0, 1) := by decide +kernel
theorem dX11_within_1 : decode cX11_within 1 = .ok (.iload_n 1, 1) := by decide +kernel
theorem dX11_within_2 : decode cX11_within 2 = .ok (.if_icmp .lt 12, 3) := by decide +kernel
theorem dX11_within_5 : decode cX11_within 5 = .ok (.iload_n 0, 1) := by decide +kernel
theorem dX11_within_6 : decode cX11_within 6 = .ok (.iload_n 2, 1) := by decide +kernel
theorem dX11_within_7 : decode cX11_within 7 = .ok (.if_icmp .gt 7, 3) := by decide +kernel
theorem dX11_within_10 : decode cX11_within 10 = .ok (.iconst 1, 1) := by decide +kernel
theorem dX11_within_11 : decode cX11_within 11 = .ok (.goto 4, 3) := by decide +kernel
theorem dX11_within_14 : decode cX11_within 14 = .ok (.iconst 0, 1) := by decide +kernel
theorem dX11_within_15 : decode cX11_within 15 = .ok (.ireturn, 1) := by decide +kernel
theorem dX11_isCell_0 : decode cX11_isCell 0 = .ok (.iload_n 0, 1) := by decide +kernel
theorem dX11_isCell_1 : decode cX11_isCell 1 = .ok (.iconst 0, 1) := by decide +kernel
theorem dX11_isCell_2 : decode cX11_isCell 2 = .ok (.bipush 44, 2) := by decide +kernel
theorem dX11_isCell_4 : decode cX11_isCell 4 = .ok (.invokestatic 72, 3) := by decide +kernel
theorem dX11_isCell_7 : decode cX11_isCell 7 = .ok (.ireturn, 1) := by decide +kernel
theorem dX11_isDirection_0 : decode cX11_isDirection 0 = .ok (.iload_n 0, 1) := by decide +kernel
theorem dX11_isDirection_1 : decode cX11_isDirection 1 = .ok (.iconst 0, 1) := by decide +kernel
theorem dX11_isDirection_2 : decode cX11_isDirection 2 = .ok (.bipush 7, 2) := by decide +kernel
theorem dX11_isDirection_4 : decode cX11_isDirection 4 = .ok (.invokestatic 72, 3) := by decide +kernel
theorem dX11_isDirection_7 : decode cX11_isDirection 7 = .ok (.ireturn, 1) := by decide +kernel
theorem dX11_isStroke_0 : decode cX11_isStroke 0 = .ok (.iload_n 0, 1) := by decide +kernel
theorem dX11_isStroke_1 : decode cX11_isStroke 1 = .ok (.invokestatic 163, 3) := by decide +kernel
theorem dX11_isStroke_4 : decode cX11_isStroke 4 = .ok (.ifCond .eq 26, 3) := by decide +kernel
theorem dX11_isStroke_7 : decode cX11_isStroke 7 = .ok (.iload_n 1, 1) := by decide +kernel
theorem dX11_isStroke_8 : decode cX11_isStroke 8 = .ok (.iconst 1, 1) := by decide +kernel
theorem dX11_isStroke_9 : decode cX11_isStroke 9 = .ok (.bipush 9, 2) := by decide +kernel
theorem dX11_isStroke_11 : decode cX11_isStroke 11 = .ok (.invokestatic 72, 3) := by decide +kernel
theorem dX11_isStroke_14 : decode cX11_isStroke 14 = .ok (.ifCond .eq 16, 3) := by decide +kernel
theorem dX11_isStroke_17 : decode cX11_isStroke 17 = .ok (.iload_n 2, 1) := by decide +kernel
theorem dX11_isStroke_18 : decode cX11_isStroke 18 = .ok (.iconst 0, 1) := by decide +kernel
theorem dX11_isStroke_19 : decode cX11_isStroke 19 = .ok (.iconst 2, 1) := by decide +kernel
theorem dX11_isStroke_20 : decode cX11_isStroke 20 = .ok (.invokestatic 72, 3) := by decide +kernel
theorem dX11_isStroke_23 : decode cX11_isStroke 23 = .ok (.ifCond .eq 7, 3) := by decide +kernel
theorem dX11_isStroke_26 : decode cX11_isStroke 26 = .ok (.iconst 1, 1) := by decide +kernel
theorem dX11_isStroke_27 : decode cX11_isStroke 27 = .ok (.goto 4, 3) := by decide +kernel
theorem dX11_isStroke_30 : decode cX11_isStroke 30 = .ok (.iconst 0, 1) := by decide +kernel
theorem dX11_isStroke_31 : decode cX11_isStroke 31 = .ok (.ireturn, 1) := by decide +kernel
theorem dX11_isPocket_0 : decode cX11_isPocket 0 = .ok (.iload_n 0, 1) := by decide +kernel
theorem dX11_isPocket_1 : decode cX11_isPocket 1 = .ok (.bipush 9, 2) := by decide +kernel
theorem dX11_isPocket_3 : decode cX11_isPocket 3 = .ok (.idiv, 1) := by decide +kernel
theorem dX11_isPocket_4 : decode cX11_isPocket 4 = .ok (.istore_n 1, 1) := by decide +kernel
theorem dX11_isPocket_5 : decode cX11_isPocket 5 = .ok (.iload_n 1, 1) := by decide +kernel
theorem dX11_isPocket_6 : decode cX11_isPocket 6 = .ok (.ifCond .eq 8, 3) := by decide +kernel
theorem dX11_isPocket_9 : decode cX11_isPocket 9 = .ok (.iload_n 1, 1) := by decide +kernel
theorem dX11_isPocket_10 : decode cX11_isPocket 10 = .ok (.iconst 4, 1) := by decide +kernel
theorem dX11_isPocket_11 : decode cX11_isPocket 11 = .ok (.if_icmp .ne 16, 3) := by decide +kernel
theorem dX11_isPocket_14 : decode cX11_isPocket 14 = .ok (.iload_n 0, 1) := by decide +kernel
theorem dX11_isPocket_15 : decode cX11_isPocket 15 = .ok (.bipush 9, 2) := by decide +kernel
theorem dX11_isPocket_17 : decode cX11_isPocket 17 = .ok (.irem, 1) := by decide +kernel
theorem dX11_isPocket_18 : decode cX11_isPocket 18 = .ok (.iconst 4, 1) := by decide +kernel
theorem dX11_isPocket_19 : decode cX11_isPocket 19 = .ok (.irem, 1) := by decide +kernel
theorem dX11_isPocket_20 : decode cX11_isPocket 20 = .ok (.ifCond .ne 7, 3) := by decide +kernel
theorem dX11_isPocket_23 : decode cX11_isPocket 23 = .ok (.iconst 1, 1) := by decide +kernel
theorem dX11_isPocket_24 : decode cX11_isPocket 24 = .ok (.goto 4, 3) := by decide +kernel
theorem dX11_isPocket_27 : decode cX11_isPocket 27 = .ok (.iconst 0, 1) := by decide +kernel
theorem dX11_isPocket_28 : decode cX11_isPocket 28 = .ok (.ireturn, 1) := by decide +kernel
theorem dX11_isRow_0 : decode cX11_isRow 0 = .ok (.iload_n 0, 1) := by decide +kernel
theorem dX11_isRow_1 : decode cX11_isRow 1 = .ok (.ifCond .lt 12, 3) := by decide +kernel
theorem dX11_isRow_4 : decode cX11_isRow 4 = .ok (.iload_n 0, 1) := by decide +kernel
theorem dX11_isRow_5 : decode cX11_isRow 5 = .ok (.iconst 5, 1) := by decide +kernel
theorem dX11_isRow_6 : decode cX11_isRow 6 = .ok (.if_icmp .ge 7, 3) := by decide +kernel
theorem dX11_isRow_9 : decode cX11_isRow 9 = .ok (.iconst 1, 1) := by decide +kernel
theorem dX11_isRow_10 : decode cX11_isRow 10 = .ok (.goto 4, 3) := by decide +kernel
theorem dX11_isRow_13 : decode cX11_isRow 13 = .ok (.iconst 0, 1) := by decide +kernel
theorem dX11_isRow_14 : decode cX11_isRow 14 = .ok (.ireturn, 1) := by decide +kernel
theorem dX11_isColumn_0 : decode cX11_isColumn 0 = .ok (.iload_n 0, 1) := by decide +kernel
theorem dX11_isColumn_1 : decode cX11_isColumn 1 = .ok (.ifCond .lt 13, 3) := by decide +kernel
theorem dX11_isColumn_4 : decode cX11_isColumn 4 = .ok (.iload_n 0, 1) := by decide +kernel
theorem dX11_isColumn_5 : decode cX11_isColumn 5 = .ok (.bipush 9, 2) := by decide +kernel
theorem dX11_isColumn_7 : decode cX11_isColumn 7 = .ok (.if_icmp .ge 7, 3) := by decide +kernel
theorem dX11_isColumn_10 : decode cX11_isColumn 10 = .ok (.iconst 1, 1) := by decide +kernel
theorem dX11_isColumn_11 : decode cX11_isColumn 11 = .ok (.goto 4, 3) := by decide +kernel
theorem dX11_isColumn_14 : decode cX11_isColumn 14 = .ok (.iconst 0, 1) := by decide +kernel
theorem dX11_isColumn_15 : decode cX11_isColumn 15 = .ok (.ireturn, 1) := by decide +kernel
theorem dX11_nextSeed_0 : decode cX11_nextSeed 0 = .ok (.ldc2_w 279, 3) := by decide +kernel
theorem dX11_nextSeed_3 : decode cX11_nextSeed 3 = .ok (.iload_n 0, 1) := by decide +kernel
theorem dX11_nextSeed_4 : decode cX11_nextSeed 4 = .ok (.i2l, 1) := by decide +kernel
theorem dX11_nextSeed_5 : decode cX11_nextSeed 5 = .ok (.lmul, 1) := by decide +kernel
theorem dX11_nextSeed_6 : decode cX11_nextSeed 6 = .ok (.ldc2_w 281, 3) := by decide +kernel
theorem dX11_nextSeed_9 : decode cX11_nextSeed 9 = .ok (.ladd, 1) := by decide +kernel
theorem dX11_nextSeed_10 : decode cX11_nextSeed 10 = .ok (.ldc2_w 283, 3) := by decide +kernel
theorem dX11_nextSeed_13 : decode cX11_nextSeed 13 = .ok (.land, 1) := by decide +kernel
theorem dX11_nextSeed_14 : decode cX11_nextSeed 14 = .ok (.l2i, 1) := by decide +kernel
theorem dX11_nextSeed_15 : decode cX11_nextSeed 15 = .ok (.ireturn, 1) := by decide +kernel
theorem dX11_drawn_0 : decode cX11_drawn 0 = .ok (.iload_n 0, 1) := by decide +kernel
theorem dX11_drawn_1 : decode cX11_drawn 1 = .ok (.ldc_w 285, 3) := by decide +kernel
theorem dX11_drawn_4 : decode cX11_drawn 4 = .ok (.idiv, 1) := by decide +kernel
theorem dX11_drawn_5 : decode cX11_drawn 5 = .ok (.ireturn, 1) := by decide +kernel
theorem dX12_init_0 : decode cX12_init 0 = .ok (.aload_n 0, 1) := by decide +kernel
theorem dX12_init_1 : decode cX12_init 1 = .ok (.invokespecial 1, 3) := by decide +kernel
theorem dX12_init_4 : decode cX12_init 4 = .ok (.aload_n 0, 1) := by decide +kernel
theorem dX12_init_5 : decode cX12_init 5 = .ok (.bipush 34, 2) := by decide +kernel
theorem dX12_init_7 : decode cX12_init 7 = .ok (.newarray .int, 2) := by decide +kernel
theorem dX12_init_9 : decode cX12_init 9 = .ok (.putfield 7, 3) := by decide +kernel
theorem dX12_init_12 : decode cX12_init 12 = .ok (.aload_n 0, 1) := by decide +kernel
theorem dX12_init_13 : decode cX12_init 13 = .ok (.bipush 7, 2) := by decide +kernel
theorem dX12_init_15 : decode cX12_init 15 = .ok (.newarray .int, 2) := by decide +kernel
theorem dX12_init_17 : decode cX12_init 17 = .ok (.putfield 13, 3) := by decide +kernel
theorem dX12_init_20 : decode cX12_init 20 = .ok (.aload_n 0, 1) := by decide +kernel
theorem dX12_init_21 : decode cX12_init 21 = .ok (.bipush 7, 2) := by decide +kernel
theorem dX12_init_23 : decode cX12_init 23 = .ok (.newarray .int, 2) := by decide +kernel
theorem dX12_init_25 : decode cX12_init 25 = .ok (.putfield 16, 3) := by decide +kernel
theorem dX12_init_28 : decode cX12_init 28 = .ok (.aload_n 0, 1) := by decide +kernel
theorem dX12_init_29 : decode cX12_init 29 = .ok (.bipush 7, 2) := by decide +kernel
theorem dX12_init_31 : decode cX12_init 31 = .ok (.newarray .int, 2) := by decide +kernel
theorem dX12_init_33 : decode cX12_init 33 = .ok (.putfield 19, 3) := by decide +kernel
theorem dX12_init_36 : decode cX12_init 36 = .ok (.aload_n 0, 1) := by decide +kernel
theorem dX12_init_37 : decode cX12_init 37 = .ok (.bipush 7, 2) := by decide +kernel
theorem dX12_init_39 : decode cX12_init 39 = .ok (.newarray .int, 2) := by decide +kernel
theorem dX12_init_41 : decode cX12_init 41 = .ok (.putfield 22, 3) := by decide +kernel
theorem dX12_init_44 : decode cX12_init 44 = .ok (.aload_n 0, 1) := by decide +kernel
theorem dX12_init_45 : decode cX12_init 45 = .ok (.bipush 7, 2) := by decide +kernel
theorem dX12_init_47 : decode cX12_init 47 = .ok (.newarray .int, 2) := by decide +kernel
theorem dX12_init_49 : decode cX12_init 49 = .ok (.putfield 25, 3) := by decide +kernel
theorem dX12_init_52 : decode cX12_init 52 = .ok (.aload_n 0, 1) := by decide +kernel
theorem dX12_init_53 : decode cX12_init 53 = .ok (.bipush 24, 2) := by decide +kernel
theorem dX12_init_55 : decode cX12_init 55 = .ok (.newarray .int, 2) := by decide +kernel
theorem dX12_init_57 : decode cX12_init 57 = .ok (.putfield 28, 3) := by decide +kernel
theorem dX12_init_60 : decode cX12_init 60 = .ok (.aload_n 0, 1) := by decide +kernel
theorem dX12_init_61 : decode cX12_init 61 = .ok (.iconst 5, 1) := by decide +kernel
theorem dX12_init_62 : decode cX12_init 62 = .ok (.newarray .int, 2) := by decide +kernel
theorem dX12_init_64 : decode cX12_init 64 = .ok (.putfield 31, 3) := by decide +kernel
theorem dX12_init_67 : decode cX12_init 67 = .ok (.aload_n 0, 1) := by decide +kernel
theorem dX12_init_68 : decode cX12_init 68 = .ok (.bipush 7, 2) := by decide +kernel
theorem dX12_init_70 : decode cX12_init 70 = .ok (.newarray .int, 2) := by decide +kernel
theorem dX12_init_72 : decode cX12_init 72 = .ok (.putfield 34, 3) := by decide +kernel
theorem dX12_init_75 : decode cX12_init 75 = .ok (.aload_n 0, 1) := by decide +kernel
theorem dX12_init_76 : decode cX12_init 76 = .ok (.bipush 7, 2) := by decide +kernel
theorem dX12_init_78 : decode cX12_init 78 = .ok (.newarray .int, 2) := by decide +kernel
theorem dX12_init_80 : decode cX12_init 80 = .ok (.putfield 37, 3) := by decide +kernel
theorem dX12_init_83 : decode cX12_init 83 = .ok (.aload_n 0, 1) := by decide +kernel
theorem dX12_init_84 : decode cX12_init 84 = .ok (.bipush 24, 2) := by decide +kernel
theorem dX12_init_86 : decode cX12_init 86 = .ok (.newarray .int, 2) := by decide +kernel
theorem dX12_init_88 : decode cX12_init 88 = .ok (.putfield 40, 3) := by decide +kernel
theorem dX12_init_91 : decode cX12_init 91 = .ok (.aload_n 0, 1) := by decide +kernel
theorem dX12_init_92 : decode cX12_init 92 = .ok (.iconst (-1), 1) := by decide +kernel
theorem dX12_init_93 : decode cX12_init 93 = .ok (.putfield 43, 3) := by decide +kernel
theorem dX12_init_96 : decode cX12_init 96 = .ok (.return_, 1) := by decide +kernel
theorem dX12_in_0 : decode cX12_in 0 = .ok (.lload_n 0, 1) := by decide +kernel
theorem dX12_in_1 : decode cX12_in 1 = .ok (.lload_n 2, 1) := by decide +kernel
theorem dX12_in_2 : decode cX12_in 2 = .ok (.lcmp, 1) := by decide +kernel
theorem dX12_in_3 : decode cX12_in 3 = .ok (.ifCond .lt 14, 3) := by decide +kernel
theorem dX12_in_6 : decode cX12_in 6 = .ok (.lload_n 0, 1) := by decide +kernel
theorem dX12_in_7 : decode cX12_in 7 = .ok (.lload 4, 2) := by decide +kernel
theorem dX12_in_9 : decode cX12_in 9 = .ok (.lcmp, 1) := by decide +kernel
theorem dX12_in_10 : decode cX12_in 10 = .ok (.ifCond .gt 7, 3) := by decide +kernel
theorem dX12_in_13 : decode cX12_in 13 = .ok (.iconst 1, 1) := by decide +kernel
theorem dX12_in_14 : decode cX12_in 14 = .ok (.goto 4, 3) := by decide +kernel
theorem dX12_in_17 : decode cX12_in 17 = .ok (.iconst 0, 1) := by decide +kernel
theorem dX12_in_18 : decode cX12_in 18 = .ok (.ireturn, 1) := by decide +kernel
theorem dX12_copy_0 : decode cX12_copy 0 = .ok (.iconst 0, 1) := by decide +kernel
theorem dX12_copy_1 : decode cX12_copy 1 = .ok (.istore_n 2, 1) := by decide +kernel
theorem dX12_copy_2 : decode cX12_copy 2 = .ok (.iload_n 2, 1) := by decide +kernel
theorem dX12_copy_3 : decode cX12_copy 3 = .ok (.aload_n 0, 1) := by decide +kernel
theorem dX12_copy_4 : decode cX12_copy 4 = .ok (.arraylength, 1) := by decide +kernel
theorem dX12_copy_5 : decode cX12_copy 5 = .ok (.if_icmp .ge 15, 3) := by decide +kernel
theorem dX12_copy_8 : decode cX12_copy 8 = .ok (.aload_n 1, 1) := by decide +kernel
theorem dX12_copy_9 : decode cX12_copy 9 = .ok (.iload_n 2, 1) := by decide +kernel
theorem dX12_copy_10 : decode cX12_copy 10 = .ok (.aload_n 0, 1) := by decide +kernel
theorem dX12_copy_11 : decode cX12_copy 11 = .ok (.iload_n 2, 1) := by decide +kernel
theorem dX12_copy_12 : decode cX12_copy 12 = .ok (.iaload, 1) := by decide +kernel
theorem dX12_copy_13 : decode cX12_copy 13 = .ok (.iastore, 1) := by decide +kernel
theorem dX12_copy_14 : decode cX12_copy 14 = .ok (.iinc 2 1, 3) := by decide +kernel
theorem dX12_copy_17 : decode cX12_copy 17 = .ok (.goto (-15), 3) := by decide +kernel
theorem dX12_copy_20 : decode cX12_copy 20 = .ok (.return_, 1) := by decide +kernel
theorem dX12_isPocket_0 : decode cX12_isPocket 0 = .ok (.iload_n 0, 1) := by decide +kernel
theorem dX12_isPocket_1 : decode cX12_isPocket 1 = .ok (.bipush 9, 2) := by decide +kernel
theorem dX12_isPocket_3 : decode cX12_isPocket 3 = .ok (.idiv, 1) := by decide +kernel
theorem dX12_isPocket_4 : decode cX12_isPocket 4 = .ok (.istore_n 1, 1) := by decide +kernel
theorem dX12_isPocket_5 : decode cX12_isPocket 5 = .ok (.iload_n 0, 1) := by decide +kernel
theorem dX12_isPocket_6 : decode cX12_isPocket 6 = .ok (.bipush 9, 2) := by decide +kernel
theorem dX12_isPocket_8 : decode cX12_isPocket 8 = .ok (.irem, 1) := by decide +kernel
theorem dX12_isPocket_9 : decode cX12_isPocket 9 = .ok (.istore_n 2, 1) := by decide +kernel
theorem dX12_isPocket_10 : decode cX12_isPocket 10 = .ok (.iload_n 1, 1) := by decide +kernel
theorem dX12_isPocket_11 : decode cX12_isPocket 11 = .ok (.ifCond .eq 8, 3) := by decide +kernel
theorem dX12_isPocket_14 : decode cX12_isPocket 14 = .ok (.iload_n 1, 1) := by decide +kernel
theorem dX12_isPocket_15 : decode cX12_isPocket 15 = .ok (.iconst 4, 1) := by decide +kernel
theorem dX12_isPocket_16 : decode cX12_isPocket 16 = .ok (.if_icmp .ne 22, 3) := by decide +kernel
theorem dX12_isPocket_19 : decode cX12_isPocket 19 = .ok (.iload_n 2, 1) := by decide +kernel
theorem dX12_isPocket_20 : decode cX12_isPocket 20 = .ok (.ifCond .eq 14, 3) := by decide +kernel
theorem dX12_isPocket_23 : decode cX12_isPocket 23 = .ok (.iload_n 2, 1) := by decide +kernel
theorem dX12_isPocket_24 : decode cX12_isPocket 24 = .ok (.iconst 4, 1) := by decide +kernel
theorem dX12_isPocket_25 : decode cX12_isPocket 25 = .ok (.if_icmp .eq 9, 3) := by decide +kernel
theorem dX12_isPocket_28 : decode cX12_isPocket 28 = .ok (.iload_n 2, 1) := by decide +kernel
theorem dX12_isPocket_29 : decode cX12_isPocket 29 = .ok (.bipush 8, 2) := by decide +kernel
theorem dX12_isPocket_31 : decode cX12_isPocket 31 = .ok (.if_icmp .ne 7, 3) := by decide +kernel
theorem dX12_isPocket_34 : decode cX12_isPocket 34 = .ok (.iconst 1, 1) := by decide +kernel
theorem dX12_isPocket_35 : decode cX12_isPocket 35 = .ok (.goto 4, 3) := by decide +kernel
theorem dX12_isPocket_38 : decode cX12_isPocket 38 = .ok (.iconst 0, 1) := by decide +kernel
theorem dX12_isPocket_39 : decode cX12_isPocket 39 = .ok (.ireturn, 1) := by decide +kernel
theorem dX12_letter_0 : decode cX12_letter 0 = .ok (.iload_n 1, 1) := by decide +kernel
theorem dX12_letter_1 : decode cX12_letter 1 = .ok (.i2l, 1) := by decide +kernel
theorem dX12_letter_2 : decode cX12_letter 2 = .ok (.lconst 1, 1) := by decide +kernel
theorem dX12_letter_3 : decode cX12_letter 3 = .ok (.ldc2_w 47, 3) := by decide +kernel
theorem dX12_letter_6 : decode cX12_letter 6 = .ok (.invokestatic 49, 3) := by decide +kernel
theorem dX12_letter_9 : decode cX12_letter 9 = .ok (.ifCond .ne 6, 3) := by decide +kernel
theorem dX12_letter_12 : decode cX12_letter 12 = .ok (.bipush (-102), 2) := by decide +kernel
theorem dX12_letter_14 : decode cX12_letter 14 = .ok (.ireturn, 1) := by decide +kernel
theorem dX12_letter_15 : decode cX12_letter 15 = .ok (.aload_n 0, 1) := by decide +kernel
theorem dX12_letter_16 : decode cX12_letter 16 = .ok (.getfield 53, 3) := by decide +kernel
theorem dX12_letter_19 : decode cX12_letter 19 = .ok (.bipush 34, 2) := by decide +kernel
theorem dX12_letter_21 : decode cX12_letter 21 = .ok (.if_icmp .ne 6, 3) := by decide +kernel
theorem dX12_letter_24 : decode cX12_letter 24 = .ok (.bipush (-104), 2) := by decide +kernel
theorem dX12_letter_26 : decode cX12_letter 26 = .ok (.ireturn, 1) := by decide +kernel
theorem dX12_letter_27 : decode cX12_letter 27 = .ok (.aload_n 0, 1) := by decide +kernel
theorem dX12_letter_28 : decode cX12_letter 28 = .ok (.getfield 7, 3) := by decide +kernel
theorem dX12_letter_31 : decode cX12_letter 31 = .ok (.aload_n 0, 1) := by decide +kernel
theorem dX12_letter_32 : decode cX12_letter 32 = .ok (.getfield 53, 3) := by decide +kernel
theorem dX12_letter_35 : decode cX12_letter 35 = .ok (.iload_n 1, 1) := by decide +kernel
theorem dX12_letter_36 : decode cX12_letter 36 = .ok (.iastore, 1) := by decide +kernel
theorem dX12_letter_37 : decode cX12_letter 37 = .ok (.aload_n 0, 1) := by decide +kernel
theorem dX12_letter_38 : decode cX12_letter 38 = .ok (.dup, 1) := by decide +kernel
theorem dX12_letter_39 : decode cX12_letter 39 = .ok (.getfield 53, 3) := by decide +kernel
theorem dX12_letter_42 : decode cX12_letter 42 = .ok (.iconst 1, 1) := by decide +kernel
theorem dX12_letter_43 : decode cX12_letter 43 = .ok (.iadd, 1) := by decide +kernel
theorem dX12_letter_44 : decode cX12_letter 44 = .ok (.putfield 53, 3) := by decide +kernel
theorem dX12_letter_47 : decode cX12_letter 47 = .ok (.aload_n 0, 1) := by decide +kernel
theorem dX12_letter_48 : decode cX12_letter 48 = .ok (.getfield 53, 3) := by decide +kernel
theorem dX12_letter_51 : decode cX12_letter 51 = .ok (.ireturn, 1) := by decide +kernel
theorem dX12_blank_0 : decode cX12_blank 0 = .ok (.aload_n 0, 1) := by decide +kernel
theorem dX12_blank_1 : decode cX12_blank 1 = .ok (.getfield 53, 3) := by decide +kernel
theorem dX12_blank_4 : decode cX12_blank 4 = .ok (.istore_n 1, 1) := by decide +kernel
theorem dX12_blank_5 : decode cX12_blank 5 = .ok (.aload_n 0, 1) := by decide +kernel
theorem dX12_blank_6 : decode cX12_blank 6 = .ok (.iconst 0, 1) := by decide +kernel
theorem dX12_blank_7 : decode cX12_blank 7 = .ok (.putfield 53, 3) := by decide +kernel
theorem dX12_blank_10 : decode cX12_blank 10 = .ok (.iload_n 1, 1) := by decide +kernel
theorem dX12_blank_11 : decode cX12_blank 11 = .ok (.ireturn, 1) := by decide +kernel
theorem dX12_kindBy_0 : decode cX12_kindBy 0 = .ok (.iload_n 0, 1) := by decide +kernel
theorem dX12_kindBy_1 : decode cX12_kindBy 1 = .ok (.lookupswitch 61 #[(98, 51), (100, 57), (104, 53), (108, 55), (115, 59)], 51) := by decide +kernel
theorem dX12_kindBy_52 : decode cX12_kindBy 52 = .ok (.iconst 0, 1) := by decide +kernel
theorem dX12_kindBy_53 : decode cX12_kindBy 53 = .ok (.ireturn, 1) := by decide +kernel
theorem dX12_kindBy_54 : decode cX12_kindBy 54 = .ok (.iconst 1, 1) := by decide +kernel
theorem dX12_kindBy_55 : decode cX12_kindBy 55 = .ok (.ireturn, 1) := by decide +kernel
theorem dX12_kindBy_56 : decode cX12_kindBy 56 = .ok (.iconst 2, 1) := by decide +kernel
theorem dX12_kindBy_57 : decode cX12_kindBy 57 = .ok (.ireturn, 1) := by decide +kernel
theorem dX12_kindBy_58 : decode cX12_kindBy 58 = .ok (.iconst 3, 1) := by decide +kernel
theorem dX12_kindBy_59 : decode cX12_kindBy 59 = .ok (.ireturn, 1) := by decide +kernel
theorem dX12_kindBy_60 : decode cX12_kindBy 60 = .ok (.iconst 4, 1) := by decide +kernel
theorem dX12_kindBy_61 : decode cX12_kindBy 61 = .ok (.ireturn, 1) := by decide +kernel
theorem dX12_kindBy_62 : decode cX12_kindBy 62 = .ok (.iconst (-1), 1) := by decide +kernel
theorem dX12_kindBy_63 : decode cX12_kindBy 63 = .ok (.ireturn, 1) := by decide +kernel
theorem dX12_cellAt_0 : decode cX12_cellAt 0 = .ok (.bipush 9, 2) := by decide +kernel
theorem dX12_cellAt_2 : decode cX12_cellAt 2 = .ok (.aload_n 0, 1) := by decide +kernel
theorem dX12_cellAt_3 : decode cX12_cellAt 3 = .ok (.getfield 7, 3) := by decide +kernel
theorem dX12_cellAt_6 : decode cX12_cellAt 6 = .ok (.iload_n 1, 1) := by decide +kernel
theorem dX12_cellAt_7 : decode cX12_cellAt 7 = .ok (.iaload, 1) := by decide +kernel
theorem dX12_cellAt_8 : decode cX12_cellAt 8 = .ok (.bipush 48, 2) := by decide +kernel
theorem dX12_cellAt_10 : decode cX12_cellAt 10 = .ok (.isub, 1) := by decide +kernel
theorem dX12_cellAt_11 : decode cX12_cellAt 11 = .ok (.imul, 1) := by decide +kernel
theorem dX12_cellAt_12 : decode cX12_cellAt 12 = .ok (.aload_n 0, 1) := by decide +kernel
theorem dX12_cellAt_13 : decode cX12_cellAt 13 = .ok (.getfield 7, 3) := by decide +kernel
theorem dX12_cellAt_16 : decode cX12_cellAt 16 = .ok (.iload_n 1, 1) := by decide +kernel
theorem dX12_cellAt_17 : decode cX12_cellAt 17 = .ok (.iconst 1, 1) := by decide +kernel
theorem dX12_cellAt_18 : decode cX12_cellAt 18 = .ok (.iadd, 1) := by decide +kernel
theorem dX12_cellAt_19 : decode cX12_cellAt 19 = .ok (.iaload, 1) := by decide +kernel
theorem dX12_cellAt_20 : decode cX12_cellAt 20 = .ok (.iadd, 1) := by decide +kernel
theorem dX12_cellAt_21 : decode cX12_cellAt 21 = .ok (.bipush 48, 2) := by decide +kernel
theorem dX12_cellAt_23 : decode cX12_cellAt 23 = .ok (.isub, 1) := by decide +kernel
theorem dX12_cellAt_24 : decode cX12_cellAt 24 = .ok (.ireturn, 1) := by decide +kernel
theorem dX12_isToldAhead_0 : decode cX12_isToldAhead 0 = .ok (.iload_n 1, 1) := by decide +kernel
theorem dX12_isToldAhead_1 : decode cX12_isToldAhead 1 = .ok (.ifCond .le 20, 3) := by decide +kernel
theorem dX12_isToldAhead_4 : decode cX12_isToldAhead 4 = .ok (.aload_n 0, 1) := by decide +kernel
theorem dX12_isToldAhead_5 : decode cX12_isToldAhead 5 = .ok (.iconst 0, 1) := by decide +kernel
theorem dX12_isToldAhead_6 : decode cX12_isToldAhead 6 = .ok (.invokevirtual 56, 3) := by decide +kernel
theorem dX12_isToldAhead_9 : decode cX12_isToldAhead 9 = .ok (.aload_n 0, 1) := by decide +kernel
theorem dX12_isToldAhead_10 : decode cX12_isToldAhead 10 = .ok (.iload_n 1, 1) := by decide +kernel
theorem dX12_isToldAhead_11 : decode cX12_isToldAhead 11 = .ok (.invokevirtual 56, 3) := by decide +kernel
theorem dX12_isToldAhead_14 : decode cX12_isToldAhead 14 = .ok (.if_icmp .ne 7, 3) := by decide +kernel
theorem dX12_isToldAhead_17 : decode cX12_isToldAhead 17 = .ok (.iconst 1, 1) := by decide +kernel
theorem dX12_isToldAhead_18 : decode cX12_isToldAhead 18 = .ok (.goto 4, 3) := by decide +kernel
theorem dX12_isToldAhead_21 : decode cX12_isToldAhead 21 = .ok (.iconst 0, 1) := by decide +kernel
theorem dX12_isToldAhead_22 : decode cX12_isToldAhead 22 = .ok (.istore_n 2, 1) := by decide +kernel
theorem dX12_isToldAhead_23 : decode cX12_isToldAhead 23 = .ok (.iconst 5, 1) := by decide +kernel
theorem dX12_isToldAhead_24 : decode cX12_isToldAhead 24 = .ok (.istore_n 3, 1) := by decide +kernel
theorem dX12_isToldAhead_25 : decode cX12_isToldAhead 25 = .ok (.iload_n 3, 1) := by decide +kernel
theorem dX12_isToldAhead_26 : decode cX12_isToldAhead 26 = .ok (.iload_n 1, 1) := by decide +kernel
theorem dX12_isToldAhead_27 : decode cX12_isToldAhead 27 = .ok (.if_icmp .ge 32, 3) := by decide +kernel
theorem dX12_isToldAhead_30 : decode cX12_isToldAhead 30 = .ok (.iload_n 2, 1) := by decide +kernel
theorem dX12_isToldAhead_31 : decode cX12_isToldAhead 31 = .ok (.ifCond .ne 16, 3) := by decide +kernel
theorem dX12_isToldAhead_34 : decode cX12_isToldAhead 34 = .ok (.aload_n 0, 1) := by decide +kernel
theorem dX12_isToldAhead_35 : decode cX12_isToldAhead 35 = .ok (.iload_n 3, 1) := by decide +kernel
theorem dX12_isToldAhead_36 : decode cX12_isToldAhead 36 = .ok (.invokevirtual 56, 3) := by decide +kernel
theorem dX12_isToldAhead_39 : decode cX12_isToldAhead 39 = .ok (.aload_n 0, 1) := by decide +kernel
theorem dX12_isToldAhead_40 : decode cX12_isToldAhead 40 = .ok (.iload_n 1, 1) := by decide +kernel
theorem dX12_isToldAhead_41 : decode cX12_isToldAhead 41 = .ok (.invokevirtual 56, 3) := by decide +kernel
theorem dX12_isToldAhead_44 : decode cX12_isToldAhead 44 = .ok (.if_icmp .ne 7, 3) := by decide +kernel
theorem dX12_isToldAhead_47 : decode cX12_isToldAhead 47 = .ok (.iconst 1, 1) := by decide +kernel
theorem dX12_isToldAhead_48 : decode cX12_isToldAhead 48 = .ok (.goto 4, 3) := by decide +kernel
theorem dX12_isToldAhead_51 : decode cX12_isToldAhead 51 = .ok (.iconst 0, 1) := by decide +kernel
theorem dX12_isToldAhead_52 : decode cX12_isToldAhead 52 = .ok (.istore_n 2, 1) := by decide +kernel
theorem dX12_isToldAhead_53 : decode cX12_isToldAhead 53 = .ok (.iinc 3 5, 3) := by decide +kernel
theorem dX12_isToldAhead_56 : decode cX12_isToldAhead 56 = .ok (.goto (-31), 3) := by decide +kernel
theorem dX12_isToldAhead_59 : decode cX12_isToldAhead 59 = .ok (.iload_n 2, 1) := by decide +kernel
theorem dX12_isToldAhead_60 : decode cX12_isToldAhead 60 = .ok (.ireturn, 1) := by decide +kernel
theorem dX12_isColumn_0 : decode cX12_isColumn 0 = .ok (.aload_n 0, 1) := by decide +kernel
theorem dX12_isColumn_1 : decode cX12_isColumn 1 = .ok (.getfield 7, 3) := by decide +kernel
theorem dX12_isColumn_4 : decode cX12_isColumn 4 = .ok (.iload_n 1, 1) := by decide +kernel
theorem dX12_isColumn_5 : decode cX12_isColumn 5 = .ok (.iaload, 1) := by decide +kernel
theorem dX12_isColumn_6 : decode cX12_isColumn 6 = .ok (.i2l, 1) := by decide +kernel
theorem dX12_isColumn_7 : decode cX12_isColumn 7 = .ok (.ldc2_w 60, 3) := by decide +kernel
theorem dX12_isColumn_10 : decode cX12_isColumn 10 = .ok (.ldc2_w 62, 3) := by decide +kernel
theorem dX12_isColumn_13 : decode cX12_isColumn 13 = .ok (.invokestatic 49, 3) := by decide +kernel
theorem dX12_isColumn_16 : decode cX12_isColumn 16 = .ok (.ifCond .eq 30, 3) := by decide +kernel
theorem dX12_isColumn_19 : decode cX12_isColumn 19 = .ok (.aload_n 0, 1) := by decide +kernel
theorem dX12_isColumn_20 : decode cX12_isColumn 20 = .ok (.iload_n 1, 1) := by decide +kernel
theorem dX12_isColumn_21 : decode cX12_isColumn 21 = .ok (.iconst 1, 1) := by decide +kernel
theorem dX12_isColumn_22 : decode cX12_isColumn 22 = .ok (.isub, 1) := by decide +kernel
theorem dX12_isColumn_23 : decode cX12_isColumn 23 = .ok (.invokevirtual 56, 3) := by decide +kernel
theorem dX12_isColumn_26 : decode cX12_isColumn 26 = .ok (.invokestatic 64, 3) := by decide +kernel
theorem dX12_isColumn_29 : decode cX12_isColumn 29 = .ok (.ifCond .ne 17, 3) := by decide +kernel
theorem dX12_isColumn_32 : decode cX12_isColumn 32 = .ok (.aload_n 0, 1) := by decide +kernel
theorem dX12_isColumn_33 : decode cX12_isColumn 33 = .ok (.iload_n 1, 1) := by decide +kernel
theorem dX12_isColumn_34 : decode cX12_isColumn 34 = .ok (.iconst 1, 1) := by decide +kernel
theorem dX12_isColumn_35 : decode cX12_isColumn 35 = .ok (.isub, 1) := by decide +kernel
theorem dX12_isColumn_36 : decode cX12_isColumn 36 = .ok (.invokevirtual 68, 3) := by decide +kernel
theorem dX12_isColumn_39 : decode cX12_isColumn 39 = .ok (.ifCond .ne 7, 3) := by decide +kernel
theorem dX12_isColumn_42 : decode cX12_isColumn 42 = .ok (.iconst 1, 1) := by decide +kernel
theorem dX12_isColumn_43 : decode cX12_isColumn 43 = .ok (.goto 4, 3) := by decide +kernel
theorem dX12_isColumn_46 : decode cX12_isColumn 46 = .ok (.iconst 0, 1) := by decide +kernel
theorem dX12_isColumn_47 : decode cX12_isColumn 47 = .ok (.ireturn, 1) := by decide +kernel
theorem dX12_isGood_0 : decode cX12_isGood 0 = .ok (.aload_n 0, 1) := by decide +kernel
theorem dX12_isGood_1 : decode cX12_isGood 1 = .ok (.getfield 7, 3) := by decide +kernel
theorem dX12_isGood_4 : decode cX12_isGood 4 = .ok (.iload_n 1, 1) := by decide +kernel
theorem dX12_isGood_5 : decode cX12_isGood 5 = .ok (.iaload, 1) := by decide +kernel
theorem dX12_isGood_6 : decode cX12_isGood 6 = .ok (.istore_n 2, 1) := by decide +kernel
theorem dX12_isGood_7 : decode cX12_isGood 7 = .ok (.iload_n 1, 1) := by decide +kernel
theorem dX12_isGood_8 : decode cX12_isGood 8 = .ok (.iconst 3, 1) := by decide +kernel
theorem dX12_isGood_9 : decode cX12_isGood 9 = .ok (.if_icmp .ge 46, 3) := by decide +kernel
theorem dX12_isGood_12 : decode cX12_isGood 12 = .ok (.iload_n 1, 1) := by decide +kernel
theorem dX12_isGood_13 : decode cX12_isGood 13 = .ok (.ifCond .ne 17, 3) := by decide +kernel
theorem dX12_isGood_16 : decode cX12_isGood 16 = .ok (.iload_n 2, 1) := by decide +kernel
theorem dX12_isGood_17 : decode cX12_isGood 17 = .ok (.i2l, 1) := by decide +kernel
theorem dX12_isGood_18 : decode cX12_isGood 18 = .ok (.ldc2_w 60, 3) := by decide +kernel
theorem dX12_isGood_21 : decode cX12_isGood 21 = .ok (.ldc2_w 71, 3) := by decide +kernel
theorem dX12_isGood_24 : decode cX12_isGood 24 = .ok (.invokestatic 49, 3) := by decide +kernel
theorem dX12_isGood_27 : decode cX12_isGood 27 = .ok (.goto 27, 3) := by decide +kernel
theorem dX12_isGood_30 : decode cX12_isGood 30 = .ok (.iload_n 1, 1) := by decide +kernel
theorem dX12_isGood_31 : decode cX12_isGood 31 = .ok (.iconst 1, 1) := by decide +kernel
theorem dX12_isGood_32 : decode cX12_isGood 32 = .ok (.if_icmp .ne 11, 3) := by decide +kernel
theorem dX12_isGood_35 : decode cX12_isGood 35 = .ok (.aload_n 0, 1) := by decide +kernel
theorem dX12_isGood_36 : decode cX12_isGood 36 = .ok (.iconst 1, 1) := by decide +kernel
theorem dX12_isGood_37 : decode cX12_isGood 37 = .ok (.invokevirtual 73, 3) := by decide +kernel
theorem dX12_isGood_40 : decode cX12_isGood 40 = .ok (.goto 14, 3) := by decide +kernel
theorem dX12_isGood_43 : decode cX12_isGood 43 = .ok (.iload_n 2, 1) := by decide +kernel
theorem dX12_isGood_44 : decode cX12_isGood 44 = .ok (.bipush 59, 2) := by decide +kernel
theorem dX12_isGood_46 : decode cX12_isGood 46 = .ok (.if_icmp .ne 7, 3) := by decide +kernel
theorem dX12_isGood_49 : decode cX12_isGood 49 = .ok (.iconst 1, 1) := by decide +kernel
theorem dX12_isGood_50 : decode cX12_isGood 50 = .ok (.goto 4, 3) := by decide +kernel
theorem dX12_isGood_53 : decode cX12_isGood 53 = .ok (.iconst 0, 1) := by decide +kernel
theorem dX12_isGood_54 : decode cX12_isGood 54 = .ok (.ireturn, 1) := by decide +kernel
theorem dX12_isGood_55 : decode cX12_isGood 55 = .ok (.iload_n 1, 1) := by decide +kernel
theorem dX12_isGood_56 : decode cX12_isGood 56 = .ok (.iconst 3, 1) := by decide +kernel
theorem dX12_isGood_57 : decode cX12_isGood 57 = .ok (.isub, 1) := by decide +kernel
theorem dX12_isGood_58 : decode cX12_isGood 58 = .ok (.iconst 5, 1) := by decide +kernel
theorem dX12_isGood_59 : decode cX12_isGood 59 = .ok (.irem, 1) := by decide +kernel
theorem dX12_isGood_60 : decode cX12_isGood 60 = .ok (.tableswitch 76 0 3 #[32, 46, 58, 70], 32) := by decide +kernel
theorem dX12_isGood_92 : decode cX12_isGood 92 = .ok (.iload_n 2, 1) := by decide +kernel
theorem dX12_isGood_93 : decode cX12_isGood 93 = .ok (.invokestatic 76, 3) := by decide +kernel
theorem dX12_isGood_96 : decode cX12_isGood 96 = .ok (.iconst (-1), 1) := by decide +kernel
theorem dX12_isGood_97 : decode cX12_isGood 97 = .ok (.if_icmp .eq 7, 3) := by decide +kernel
theorem dX12_isGood_100 : decode cX12_isGood 100 = .ok (.iconst 1, 1) := by decide +kernel
theorem dX12_isGood_101 : decode cX12_isGood 101 = .ok (.goto 4, 3) := by decide +kernel
theorem dX12_isGood_104 : decode cX12_isGood 104 = .ok (.iconst 0, 1) := by decide +kernel
theorem dX12_isGood_105 : decode cX12_isGood 105 = .ok (.ireturn, 1) := by decide +kernel
theorem dX12_isGood_106 : decode cX12_isGood 106 = .ok (.iload_n 2, 1) := by decide +kernel
theorem dX12_isGood_107 : decode cX12_isGood 107 = .ok (.i2l, 1) := by decide +kernel
theorem dX12_isGood_108 : decode cX12_isGood 108 = .ok (.ldc2_w 79, 3) := by decide +kernel
theorem dX12_isGood_111 : decode cX12_isGood 111 = .ok (.ldc2_w 81, 3) := by decide +kernel
theorem dX12_isGood_114 : decode cX12_isGood 114 = .ok (.invokestatic 49, 3) := by decide +kernel
theorem dX12_isGood_117 : decode cX12_isGood 117 = .ok (.ireturn, 1) := by decide +kernel
theorem dX12_isGood_118 : decode cX12_isGood 118 = .ok (.iload_n 2, 1) := by decide +kernel
theorem dX12_isGood_119 : decode cX12_isGood 119 = .ok (.i2l, 1) := by decide +kernel
theorem dX12_isGood_120 : decode cX12_isGood 120 = .ok (.ldc2_w 60, 3) := by decide +kernel
theorem dX12_isGood_123 : decode cX12_isGood 123 = .ok (.ldc2_w 71, 3) := by decide +kernel
theorem dX12_isGood_126 : decode cX12_isGood 126 = .ok (.invokestatic 49, 3) := by decide +kernel
theorem dX12_isGood_129 : decode cX12_isGood 129 = .ok (.ireturn, 1) := by decide +kernel
theorem dX12_isGood_130 : decode cX12_isGood 130 = .ok (.aload_n 0, 1) := by decide +kernel
theorem dX12_isGood_131 : decode cX12_isGood 131 = .ok (.iload_n 1, 1) := by decide +kernel
theorem dX12_isGood_132 : decode cX12_isGood 132 = .ok (.invokevirtual 73, 3) := by decide +kernel
theorem dX12_isGood_135 : decode cX12_isGood 135 = .ok (.ireturn, 1) := by decide +kernel
theorem dX12_isGood_136 : decode cX12_isGood 136 = .ok (.iload_n 2, 1) := by decide +kernel
theorem dX12_isGood_137 : decode cX12_isGood 137 = .ok (.bipush 44, 2) := by decide +kernel
theorem dX12_isGood_139 : decode cX12_isGood 139 = .ok (.if_icmp .ne 13, 3) := by decide +kernel
theorem dX12_isGood_142 : decode cX12_isGood 142 = .ok (.iload_n 1, 1) := by decide +kernel
theorem dX12_isGood_143 : decode cX12_isGood 143 = .ok (.bipush 32, 2) := by decide +kernel
theorem dX12_isGood_145 : decode cX12_isGood 145 = .ok (.if_icmp .ge 7, 3) := by decide +kernel
theorem dX12_isGood_148 : decode cX12_isGood 148 = .ok (.iconst 1, 1) := by decide +kernel
theorem dX12_isGood_149 : decode cX12_isGood 149 = .ok (.goto 4, 3) := by decide +kernel
theorem dX12_isGood_152 : decode cX12_isGood 152 = .ok (.iconst 0, 1) := by decide +kernel
theorem dX12_isGood_153 : decode cX12_isGood 153 = .ok (.ireturn, 1) := by decide +kernel
theorem dX12_faultOf_0 : decode cX12_faultOf 0 = .ok (.iconst 0, 1) := by decide +kernel
theorem dX12_faultOf_1 : decode cX12_faultOf 1 = .ok (.istore_n 1, 1) := by decide +kernel
theorem dX12_faultOf_2 : decode cX12_faultOf 2 = .ok (.iload_n 1, 1) := by decide +kernel
theorem dX12_faultOf_3 : decode cX12_faultOf 3 = .ok (.aload_n 0, 1) := by decide +kernel
theorem dX12_faultOf_4 : decode cX12_faultOf 4 = .ok (.getfield 53, 3) := by decide +kernel
theorem dX12_faultOf_7 : decode cX12_faultOf 7 = .ok (.if_icmp .ge 17, 3) := by decide +kernel
theorem dX12_faultOf_10 : decode cX12_faultOf 10 = .ok (.aload_n 0, 1) := by decide +kernel
theorem dX12_faultOf_11 : decode cX12_faultOf 11 = .ok (.iload_n 1, 1) := by decide +kernel
theorem dX12_faultOf_12 : decode cX12_faultOf 12 = .ok (.invokevirtual 83, 3) := by decide +kernel
theorem dX12_faultOf_15 : decode cX12_faultOf 15 = .ok (.ifCond .eq 9, 3) := by decide +kernel
theorem dX12_faultOf_18 : decode cX12_faultOf 18 = .ok (.iinc 1 1, 3) := by decide +kernel
theorem dX12_faultOf_21 : decode cX12_faultOf 21 = .ok (.goto (-19), 3) := by decide +kernel
theorem dX12_faultOf_24 : decode cX12_faultOf 24 = .ok (.iload_n 1, 1) := by decide +kernel
theorem dX12_faultOf_25 : decode cX12_faultOf 25 = .ok (.ireturn, 1) := by decide +kernel
theorem dX12_fault_0 : decode cX12_fault 0 = .ok (.aload_n 0, 1) := by decide +kernel
theorem dX12_fault_1 : decode cX12_fault 1 = .ok (.invokevirtual 86, 3) := by decide +kernel
theorem dX12_fault_4 : decode cX12_fault 4 = .ok (.ireturn, 1) := by decide +kernel
