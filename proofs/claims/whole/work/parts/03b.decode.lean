theorem dX7_init_0 : decode cX7_init 0 = .ok (.aload_n 0, 1) := by decide +kernel
theorem dX7_init_1 : decode cX7_init 1 = .ok (.invokespecial 3, 3) := by decide +kernel
theorem dX7_init_4 : decode cX7_init 4 = .ok (.aload_n 0, 1) := by decide +kernel
theorem dX7_init_5 : decode cX7_init 5 = .ok (.new 9, 3) := by decide +kernel
theorem dX7_init_8 : decode cX7_init 8 = .ok (.dup, 1) := by decide +kernel
theorem dX7_init_9 : decode cX7_init 9 = .ok (.invokespecial 11, 3) := by decide +kernel
theorem dX7_init_12 : decode cX7_init 12 = .ok (.putfield 12, 3) := by decide +kernel
theorem dX7_init_15 : decode cX7_init 15 = .ok (.aload_n 0, 1) := by decide +kernel
theorem dX7_init_16 : decode cX7_init 16 = .ok (.bipush 6, 2) := by decide +kernel
theorem dX7_init_18 : decode cX7_init 18 = .ok (.anewarray 16, 3) := by decide +kernel
theorem dX7_init_21 : decode cX7_init 21 = .ok (.putfield 18, 3) := by decide +kernel
theorem dX7_init_24 : decode cX7_init 24 = .ok (.aload_n 0, 1) := by decide +kernel
theorem dX7_init_25 : decode cX7_init 25 = .ok (.new 16, 3) := by decide +kernel
theorem dX7_init_28 : decode cX7_init 28 = .ok (.dup, 1) := by decide +kernel
theorem dX7_init_29 : decode cX7_init 29 = .ok (.invokespecial 22, 3) := by decide +kernel
theorem dX7_init_32 : decode cX7_init 32 = .ok (.putfield 23, 3) := by decide +kernel
theorem dX7_init_35 : decode cX7_init 35 = .ok (.aload_n 0, 1) := by decide +kernel
theorem dX7_init_36 : decode cX7_init 36 = .ok (.new 27, 3) := by decide +kernel
theorem dX7_init_39 : decode cX7_init 39 = .ok (.dup, 1) := by decide +kernel
theorem dX7_init_40 : decode cX7_init 40 = .ok (.invokespecial 29, 3) := by decide +kernel
theorem dX7_init_43 : decode cX7_init 43 = .ok (.putfield 30, 3) := by decide +kernel
theorem dX7_init_46 : decode cX7_init 46 = .ok (.aload_n 0, 1) := by decide +kernel
theorem dX7_init_47 : decode cX7_init 47 = .ok (.new 34, 3) := by decide +kernel
theorem dX7_init_50 : decode cX7_init 50 = .ok (.dup, 1) := by decide +kernel
theorem dX7_init_51 : decode cX7_init 51 = .ok (.invokespecial 36, 3) := by decide +kernel
theorem dX7_init_54 : decode cX7_init 54 = .ok (.putfield 37, 3) := by decide +kernel
theorem dX7_init_57 : decode cX7_init 57 = .ok (.aload_n 0, 1) := by decide +kernel
theorem dX7_init_58 : decode cX7_init 58 = .ok (.new 41, 3) := by decide +kernel
theorem dX7_init_61 : decode cX7_init 61 = .ok (.dup, 1) := by decide +kernel
theorem dX7_init_62 : decode cX7_init 62 = .ok (.invokespecial 43, 3) := by decide +kernel
theorem dX7_init_65 : decode cX7_init 65 = .ok (.putfield 44, 3) := by decide +kernel
theorem dX7_init_68 : decode cX7_init 68 = .ok (.aload_n 0, 1) := by decide +kernel
theorem dX7_init_69 : decode cX7_init 69 = .ok (.new 48, 3) := by decide +kernel
theorem dX7_init_72 : decode cX7_init 72 = .ok (.dup, 1) := by decide +kernel
theorem dX7_init_73 : decode cX7_init 73 = .ok (.invokespecial 50, 3) := by decide +kernel
theorem dX7_init_76 : decode cX7_init 76 = .ok (.putfield 51, 3) := by decide +kernel
theorem dX7_init_79 : decode cX7_init 79 = .ok (.aload_n 0, 1) := by decide +kernel
theorem dX7_init_80 : decode cX7_init 80 = .ok (.new 55, 3) := by decide +kernel
theorem dX7_init_83 : decode cX7_init 83 = .ok (.dup, 1) := by decide +kernel
theorem dX7_init_84 : decode cX7_init 84 = .ok (.invokespecial 57, 3) := by decide +kernel
theorem dX7_init_87 : decode cX7_init 87 = .ok (.putfield 58, 3) := by decide +kernel
theorem dX7_init_90 : decode cX7_init 90 = .ok (.iconst 0, 1) := by decide +kernel
theorem dX7_init_91 : decode cX7_init 91 = .ok (.istore_n 1, 1) := by decide +kernel
theorem dX7_init_92 : decode cX7_init 92 = .ok (.iload_n 1, 1) := by decide +kernel
theorem dX7_init_93 : decode cX7_init 93 = .ok (.bipush 6, 2) := by decide +kernel
theorem dX7_init_95 : decode cX7_init 95 = .ok (.if_icmp .ge 22, 3) := by decide +kernel
theorem dX7_init_98 : decode cX7_init 98 = .ok (.aload_n 0, 1) := by decide +kernel
theorem dX7_init_99 : decode cX7_init 99 = .ok (.getfield 18, 3) := by decide +kernel
theorem dX7_init_102 : decode cX7_init 102 = .ok (.iload_n 1, 1) := by decide +kernel
theorem dX7_init_103 : decode cX7_init 103 = .ok (.new 16, 3) := by decide +kernel
theorem dX7_init_106 : decode cX7_init 106 = .ok (.dup, 1) := by decide +kernel
theorem dX7_init_107 : decode cX7_init 107 = .ok (.invokespecial 22, 3) := by decide +kernel
theorem dX7_init_110 : decode cX7_init 110 = .ok (.aastore, 1) := by decide +kernel
theorem dX7_init_111 : decode cX7_init 111 = .ok (.iinc 1 1, 3) := by decide +kernel
theorem dX7_init_114 : decode cX7_init 114 = .ok (.goto (-22), 3) := by decide +kernel
theorem dX7_init_117 : decode cX7_init 117 = .ok (.return_, 1) := by decide +kernel
theorem dX7_places_0 : decode cX7_places 0 = .ok (.iload_n 1, 1) := by decide +kernel
theorem dX7_places_1 : decode cX7_places 1 = .ok (.iconst 2, 1) := by decide +kernel
theorem dX7_places_2 : decode cX7_places 2 = .ok (.if_icmp .lt 9, 3) := by decide +kernel
theorem dX7_places_5 : decode cX7_places 5 = .ok (.iload_n 1, 1) := by decide +kernel
theorem dX7_places_6 : decode cX7_places 6 = .ok (.bipush 12, 2) := by decide +kernel
theorem dX7_places_8 : decode cX7_places 8 = .ok (.if_icmp .le 7, 3) := by decide +kernel
theorem dX7_places_11 : decode cX7_places 11 = .ok (.sipush (-1002), 3) := by decide +kernel
theorem dX7_places_14 : decode cX7_places 14 = .ok (.ireturn, 1) := by decide +kernel
theorem dX7_places_15 : decode cX7_places 15 = .ok (.aload_n 0, 1) := by decide +kernel
theorem dX7_places_16 : decode cX7_places 16 = .ok (.getfield 12, 3) := by decide +kernel
theorem dX7_places_19 : decode cX7_places 19 = .ok (.iload_n 1, 1) := by decide +kernel
theorem dX7_places_20 : decode cX7_places 20 = .ok (.putfield 62, 3) := by decide +kernel
theorem dX7_places_23 : decode cX7_places 23 = .ok (.iconst 0, 1) := by decide +kernel
theorem dX7_places_24 : decode cX7_places 24 = .ok (.istore_n 2, 1) := by decide +kernel
theorem dX7_places_25 : decode cX7_places 25 = .ok (.iload_n 2, 1) := by decide +kernel
theorem dX7_places_26 : decode cX7_places 26 = .ok (.bipush 6, 2) := by decide +kernel
theorem dX7_places_28 : decode cX7_places 28 = .ok (.if_icmp .ge 18, 3) := by decide +kernel
theorem dX7_places_31 : decode cX7_places 31 = .ok (.aload_n 0, 1) := by decide +kernel
theorem dX7_places_32 : decode cX7_places 32 = .ok (.getfield 18, 3) := by decide +kernel
theorem dX7_places_35 : decode cX7_places 35 = .ok (.iload_n 2, 1) := by decide +kernel
theorem dX7_places_36 : decode cX7_places 36 = .ok (.aaload, 1) := by decide +kernel
theorem dX7_places_37 : decode cX7_places 37 = .ok (.invokevirtual 66, 3) := by decide +kernel
theorem dX7_places_40 : decode cX7_places 40 = .ok (.iinc 2 1, 3) := by decide +kernel
theorem dX7_places_43 : decode cX7_places 43 = .ok (.goto (-18), 3) := by decide +kernel
theorem dX7_places_46 : decode cX7_places 46 = .ok (.aload_n 0, 1) := by decide +kernel
theorem dX7_places_47 : decode cX7_places 47 = .ok (.getfield 30, 3) := by decide +kernel
theorem dX7_places_50 : decode cX7_places 50 = .ok (.invokevirtual 69, 3) := by decide +kernel
theorem dX7_places_53 : decode cX7_places 53 = .ok (.aload_n 0, 1) := by decide +kernel
theorem dX7_places_54 : decode cX7_places 54 = .ok (.getfield 51, 3) := by decide +kernel
theorem dX7_places_57 : decode cX7_places 57 = .ok (.invokevirtual 72, 3) := by decide +kernel
theorem dX7_places_60 : decode cX7_places 60 = .ok (.iload_n 1, 1) := by decide +kernel
theorem dX7_places_61 : decode cX7_places 61 = .ok (.ireturn, 1) := by decide +kernel
theorem dX7_island_0 : decode cX7_island 0 = .ok (.iload_n 1, 1) := by decide +kernel
theorem dX7_island_1 : decode cX7_island 1 = .ok (.iconst 0, 1) := by decide +kernel
theorem dX7_island_2 : decode cX7_island 2 = .ok (.iconst 3, 1) := by decide +kernel
theorem dX7_island_3 : decode cX7_island 3 = .ok (.invokestatic 73, 3) := by decide +kernel
theorem dX7_island_6 : decode cX7_island 6 = .ok (.ifCond .eq 21, 3) := by decide +kernel
theorem dX7_island_9 : decode cX7_island 9 = .ok (.iload_n 2, 1) := by decide +kernel
theorem dX7_island_10 : decode cX7_island 10 = .ok (.iconst 0, 1) := by decide +kernel
theorem dX7_island_11 : decode cX7_island 11 = .ok (.iconst 4, 1) := by decide +kernel
theorem dX7_island_12 : decode cX7_island 12 = .ok (.invokestatic 73, 3) := by decide +kernel
theorem dX7_island_15 : decode cX7_island 15 = .ok (.ifCond .eq 12, 3) := by decide +kernel
theorem dX7_island_18 : decode cX7_island 18 = .ok (.iload_n 3, 1) := by decide +kernel
theorem dX7_island_19 : decode cX7_island 19 = .ok (.iconst 0, 1) := by decide +kernel
theorem dX7_island_20 : decode cX7_island 20 = .ok (.iconst 4, 1) := by decide +kernel
theorem dX7_island_21 : decode cX7_island 21 = .ok (.invokestatic 73, 3) := by decide +kernel
theorem dX7_island_24 : decode cX7_island 24 = .ok (.ifCond .ne 7, 3) := by decide +kernel
theorem dX7_island_27 : decode cX7_island 27 = .ok (.sipush (-1002), 3) := by decide +kernel
theorem dX7_island_30 : decode cX7_island 30 = .ok (.ireturn, 1) := by decide +kernel
theorem dX7_island_31 : decode cX7_island 31 = .ok (.aload_n 0, 1) := by decide +kernel
theorem dX7_island_32 : decode cX7_island 32 = .ok (.getfield 12, 3) := by decide +kernel
theorem dX7_island_35 : decode cX7_island 35 = .ok (.iload_n 1, 1) := by decide +kernel
theorem dX7_island_36 : decode cX7_island 36 = .ok (.putfield 77, 3) := by decide +kernel
theorem dX7_island_39 : decode cX7_island 39 = .ok (.aload_n 0, 1) := by decide +kernel
theorem dX7_island_40 : decode cX7_island 40 = .ok (.getfield 12, 3) := by decide +kernel
theorem dX7_island_43 : decode cX7_island 43 = .ok (.iload_n 2, 1) := by decide +kernel
theorem dX7_island_44 : decode cX7_island 44 = .ok (.putfield 80, 3) := by decide +kernel
theorem dX7_island_47 : decode cX7_island 47 = .ok (.aload_n 0, 1) := by decide +kernel
theorem dX7_island_48 : decode cX7_island 48 = .ok (.getfield 12, 3) := by decide +kernel
theorem dX7_island_51 : decode cX7_island 51 = .ok (.iload_n 3, 1) := by decide +kernel
theorem dX7_island_52 : decode cX7_island 52 = .ok (.putfield 83, 3) := by decide +kernel
theorem dX7_island_55 : decode cX7_island 55 = .ok (.aload_n 0, 1) := by decide +kernel
theorem dX7_island_56 : decode cX7_island 56 = .ok (.getfield 51, 3) := by decide +kernel
theorem dX7_island_59 : decode cX7_island 59 = .ok (.invokevirtual 72, 3) := by decide +kernel
theorem dX7_island_62 : decode cX7_island 62 = .ok (.iconst 1, 1) := by decide +kernel
theorem dX7_island_63 : decode cX7_island 63 = .ok (.ireturn, 1) := by decide +kernel
theorem dX7_is_0 : decode cX7_is 0 = .ok (.iload_n 1, 1) := by decide +kernel
theorem dX7_is_1 : decode cX7_is 1 = .ok (.tableswitch 63 0 3 #[31, 39, 47, 55], 31) := by decide +kernel
theorem dX7_is_32 : decode cX7_is 32 = .ok (.aload_n 0, 1) := by decide +kernel
theorem dX7_is_33 : decode cX7_is 33 = .ok (.getfield 12, 3) := by decide +kernel
theorem dX7_is_36 : decode cX7_is 36 = .ok (.getfield 62, 3) := by decide +kernel
theorem dX7_is_39 : decode cX7_is 39 = .ok (.ireturn, 1) := by decide +kernel
theorem dX7_is_40 : decode cX7_is 40 = .ok (.aload_n 0, 1) := by decide +kernel
theorem dX7_is_41 : decode cX7_is 41 = .ok (.getfield 12, 3) := by decide +kernel
theorem dX7_is_44 : decode cX7_is 44 = .ok (.getfield 77, 3) := by decide +kernel
theorem dX7_is_47 : decode cX7_is 47 = .ok (.ireturn, 1) := by decide +kernel
theorem dX7_is_48 : decode cX7_is 48 = .ok (.aload_n 0, 1) := by decide +kernel
theorem dX7_is_49 : decode cX7_is 49 = .ok (.getfield 12, 3) := by decide +kernel
theorem dX7_is_52 : decode cX7_is 52 = .ok (.getfield 80, 3) := by decide +kernel
theorem dX7_is_55 : decode cX7_is 55 = .ok (.ireturn, 1) := by decide +kernel
theorem dX7_is_56 : decode cX7_is 56 = .ok (.aload_n 0, 1) := by decide +kernel
theorem dX7_is_57 : decode cX7_is 57 = .ok (.getfield 12, 3) := by decide +kernel
theorem dX7_is_60 : decode cX7_is 60 = .ok (.getfield 83, 3) := by decide +kernel
theorem dX7_is_63 : decode cX7_is 63 = .ok (.ireturn, 1) := by decide +kernel
theorem dX7_is_64 : decode cX7_is 64 = .ok (.sipush (-1002), 3) := by decide +kernel
theorem dX7_is_67 : decode cX7_is 67 = .ok (.ireturn, 1) := by decide +kernel
theorem dX7_turned_0 : decode cX7_turned 0 = .ok (.aload_n 0, 1) := by decide +kernel
theorem dX7_turned_1 : decode cX7_turned 1 = .ok (.getfield 12, 3) := by decide +kernel
theorem dX7_turned_4 : decode cX7_turned 4 = .ok (.iload_n 1, 1) := by decide +kernel
theorem dX7_turned_5 : decode cX7_turned 5 = .ok (.invokevirtual 86, 3) := by decide +kernel
theorem dX7_turned_8 : decode cX7_turned 8 = .ok (.ifCond .eq 14, 3) := by decide +kernel
theorem dX7_turned_11 : decode cX7_turned 11 = .ok (.aload_n 0, 1) := by decide +kernel
theorem dX7_turned_12 : decode cX7_turned 12 = .ok (.getfield 12, 3) := by decide +kernel
theorem dX7_turned_15 : decode cX7_turned 15 = .ok (.iload_n 1, 1) := by decide +kernel
theorem dX7_turned_16 : decode cX7_turned 16 = .ok (.invokevirtual 90, 3) := by decide +kernel
theorem dX7_turned_19 : decode cX7_turned 19 = .ok (.goto 6, 3) := by decide +kernel
theorem dX7_turned_22 : decode cX7_turned 22 = .ok (.sipush (-1002), 3) := by decide +kernel
theorem dX7_turned_25 : decode cX7_turned 25 = .ok (.ireturn, 1) := by decide +kernel
theorem dX7_may_0 : decode cX7_may 0 = .ok (.aload_n 0, 1) := by decide +kernel
theorem dX7_may_1 : decode cX7_may 1 = .ok (.getfield 12, 3) := by decide +kernel
theorem dX7_may_4 : decode cX7_may 4 = .ok (.iload_n 1, 1) := by decide +kernel
theorem dX7_may_5 : decode cX7_may 5 = .ok (.invokevirtual 86, 3) := by decide +kernel
theorem dX7_may_8 : decode cX7_may 8 = .ok (.ifCond .eq 15, 3) := by decide +kernel
theorem dX7_may_11 : decode cX7_may 11 = .ok (.aload_n 0, 1) := by decide +kernel
theorem dX7_may_12 : decode cX7_may 12 = .ok (.getfield 12, 3) := by decide +kernel
theorem dX7_may_15 : decode cX7_may 15 = .ok (.iload_n 2, 1) := by decide +kernel
theorem dX7_may_16 : decode cX7_may 16 = .ok (.iload_n 3, 1) := by decide +kernel
theorem dX7_may_17 : decode cX7_may 17 = .ok (.invokevirtual 94, 3) := by decide +kernel
theorem dX7_may_20 : decode cX7_may 20 = .ok (.ifCond .ne 7, 3) := by decide +kernel
theorem dX7_may_23 : decode cX7_may 23 = .ok (.sipush (-1002), 3) := by decide +kernel
theorem dX7_may_26 : decode cX7_may 26 = .ok (.ireturn, 1) := by decide +kernel
theorem dX7_may_27 : decode cX7_may 27 = .ok (.aload_n 0, 1) := by decide +kernel
theorem dX7_may_28 : decode cX7_may 28 = .ok (.getfield 12, 3) := by decide +kernel
theorem dX7_may_31 : decode cX7_may 31 = .ok (.iload_n 1, 1) := by decide +kernel
theorem dX7_may_32 : decode cX7_may 32 = .ok (.iload_n 2, 1) := by decide +kernel
theorem dX7_may_33 : decode cX7_may 33 = .ok (.iload_n 3, 1) := by decide +kernel
theorem dX7_may_34 : decode cX7_may 34 = .ok (.invokevirtual 98, 3) := by decide +kernel
theorem dX7_may_37 : decode cX7_may 37 = .ok (.ifCond .eq 7, 3) := by decide +kernel
theorem dX7_may_40 : decode cX7_may 40 = .ok (.iconst 1, 1) := by decide +kernel
theorem dX7_may_41 : decode cX7_may 41 = .ok (.goto 4, 3) := by decide +kernel
theorem dX7_may_44 : decode cX7_may 44 = .ok (.iconst 0, 1) := by decide +kernel
theorem dX7_may_45 : decode cX7_may 45 = .ok (.ireturn, 1) := by decide +kernel
theorem dX7_between_0 : decode cX7_between 0 = .ok (.aload_n 0, 1) := by decide +kernel
theorem dX7_between_1 : decode cX7_between 1 = .ok (.getfield 12, 3) := by decide +kernel
theorem dX7_between_4 : decode cX7_between 4 = .ok (.iload_n 1, 1) := by decide +kernel
theorem dX7_between_5 : decode cX7_between 5 = .ok (.invokevirtual 86, 3) := by decide +kernel
theorem dX7_between_8 : decode cX7_between 8 = .ok (.ifCond .eq 23, 3) := by decide +kernel
theorem dX7_between_11 : decode cX7_between 11 = .ok (.aload_n 0, 1) := by decide +kernel
theorem dX7_between_12 : decode cX7_between 12 = .ok (.getfield 12, 3) := by decide +kernel
theorem dX7_between_15 : decode cX7_between 15 = .ok (.iload_n 2, 1) := by decide +kernel
theorem dX7_between_16 : decode cX7_between 16 = .ok (.invokevirtual 86, 3) := by decide +kernel
theorem dX7_between_19 : decode cX7_between 19 = .ok (.ifCond .eq 12, 3) := by decide +kernel
theorem dX7_between_22 : decode cX7_between 22 = .ok (.iload_n 3, 1) := by decide +kernel
theorem dX7_between_23 : decode cX7_between 23 = .ok (.iconst 0, 1) := by decide +kernel
theorem dX7_between_24 : decode cX7_between 24 = .ok (.iconst 1, 1) := by decide +kernel
theorem dX7_between_25 : decode cX7_between 25 = .ok (.invokestatic 73, 3) := by decide +kernel
theorem dX7_between_28 : decode cX7_between 28 = .ok (.ifCond .ne 7, 3) := by decide +kernel
theorem dX7_between_31 : decode cX7_between 31 = .ok (.sipush (-1002), 3) := by decide +kernel
theorem dX7_between_34 : decode cX7_between 34 = .ok (.ireturn, 1) := by decide +kernel
theorem dX7_between_35 : decode cX7_between 35 = .ok (.iload_n 3, 1) := by decide +kernel
theorem dX7_between_36 : decode cX7_between 36 = .ok (.ifCond .ne 15, 3) := by decide +kernel
theorem dX7_between_39 : decode cX7_between 39 = .ok (.aload_n 0, 1) := by decide +kernel
theorem dX7_between_40 : decode cX7_between 40 = .ok (.getfield 12, 3) := by decide +kernel
theorem dX7_between_43 : decode cX7_between 43 = .ok (.iload_n 1, 1) := by decide +kernel
theorem dX7_between_44 : decode cX7_between 44 = .ok (.iload_n 2, 1) := by decide +kernel
theorem dX7_between_45 : decode cX7_between 45 = .ok (.invokevirtual 101, 3) := by decide +kernel
theorem dX7_between_48 : decode cX7_between 48 = .ok (.goto 12, 3) := by decide +kernel
theorem dX7_between_51 : decode cX7_between 51 = .ok (.aload_n 0, 1) := by decide +kernel
theorem dX7_between_52 : decode cX7_between 52 = .ok (.getfield 12, 3) := by decide +kernel
theorem dX7_between_55 : decode cX7_between 55 = .ok (.iload_n 1, 1) := by decide +kernel
theorem dX7_between_56 : decode cX7_between 56 = .ok (.iload_n 2, 1) := by decide +kernel
theorem dX7_between_57 : decode cX7_between 57 = .ok (.invokevirtual 105, 3) := by decide +kernel
theorem dX7_between_60 : decode cX7_between 60 = .ok (.ireturn, 1) := by decide +kernel
theorem dX7_fills_0 : decode cX7_fills 0 = .ok (.aload_n 0, 1) := by decide +kernel
theorem dX7_fills_1 : decode cX7_fills 1 = .ok (.getfield 12, 3) := by decide +kernel
theorem dX7_fills_4 : decode cX7_fills 4 = .ok (.iload_n 1, 1) := by decide +kernel
theorem dX7_fills_5 : decode cX7_fills 5 = .ok (.invokevirtual 86, 3) := by decide +kernel
theorem dX7_fills_8 : decode cX7_fills 8 = .ok (.ifCond .eq 14, 3) := by decide +kernel
theorem dX7_fills_11 : decode cX7_fills 11 = .ok (.aload_n 0, 1) := by decide +kernel
theorem dX7_fills_12 : decode cX7_fills 12 = .ok (.getfield 12, 3) := by decide +kernel
theorem dX7_fills_15 : decode cX7_fills 15 = .ok (.iload_n 1, 1) := by decide +kernel
theorem dX7_fills_16 : decode cX7_fills 16 = .ok (.invokevirtual 108, 3) := by decide +kernel
theorem dX7_fills_19 : decode cX7_fills 19 = .ok (.goto 6, 3) := by decide +kernel
theorem dX7_fills_22 : decode cX7_fills 22 = .ok (.sipush (-1002), 3) := by decide +kernel
theorem dX7_fills_25 : decode cX7_fills 25 = .ok (.ireturn, 1) := by decide +kernel
theorem dX7_add_0 : decode cX7_add 0 = .ok (.iload_n 1, 1) := by decide +kernel
theorem dX7_add_1 : decode cX7_add 1 = .ok (.invokestatic 111, 3) := by decide +kernel
theorem dX7_add_4 : decode cX7_add 4 = .ok (.ifCond .ne 7, 3) := by decide +kernel
theorem dX7_add_7 : decode cX7_add 7 = .ok (.sipush (-1001), 3) := by decide +kernel
theorem dX7_add_10 : decode cX7_add 10 = .ok (.ireturn, 1) := by decide +kernel
theorem dX7_add_11 : decode cX7_add 11 = .ok (.aload_n 0, 1) := by decide +kernel
theorem dX7_add_12 : decode cX7_add 12 = .ok (.getfield 12, 3) := by decide +kernel
theorem dX7_add_15 : decode cX7_add 15 = .ok (.iload_n 2, 1) := by decide +kernel
theorem dX7_add_16 : decode cX7_add 16 = .ok (.invokevirtual 86, 3) := by decide +kernel
theorem dX7_add_19 : decode cX7_add 19 = .ok (.ifCond .ne 7, 3) := by decide +kernel
theorem dX7_add_22 : decode cX7_add 22 = .ok (.sipush (-1002), 3) := by decide +kernel
theorem dX7_add_25 : decode cX7_add 25 = .ok (.ireturn, 1) := by decide +kernel
theorem dX7_add_26 : decode cX7_add 26 = .ok (.aload_n 0, 1) := by decide +kernel
theorem dX7_add_27 : decode cX7_add 27 = .ok (.getfield 18, 3) := by decide +kernel
theorem dX7_add_30 : decode cX7_add 30 = .ok (.iload_n 1, 1) := by decide +kernel
theorem dX7_add_31 : decode cX7_add 31 = .ok (.aaload, 1) := by decide +kernel
theorem dX7_add_32 : decode cX7_add 32 = .ok (.iload_n 2, 1) := by decide +kernel
theorem dX7_add_33 : decode cX7_add 33 = .ok (.invokevirtual 114, 3) := by decide +kernel
theorem dX7_add_36 : decode cX7_add 36 = .ok (.ifCond .eq 7, 3) := by decide +kernel
theorem dX7_add_39 : decode cX7_add 39 = .ok (.sipush (-1003), 3) := by decide +kernel
theorem dX7_add_42 : decode cX7_add 42 = .ok (.ireturn, 1) := by decide +kernel
theorem dX7_add_43 : decode cX7_add 43 = .ok (.aload_n 0, 1) := by decide +kernel
theorem dX7_add_44 : decode cX7_add 44 = .ok (.getfield 18, 3) := by decide +kernel
theorem dX7_add_47 : decode cX7_add 47 = .ok (.iload_n 1, 1) := by decide +kernel
theorem dX7_add_48 : decode cX7_add 48 = .ok (.aaload, 1) := by decide +kernel
theorem dX7_add_49 : decode cX7_add 49 = .ok (.iload_n 2, 1) := by decide +kernel
theorem dX7_add_50 : decode cX7_add 50 = .ok (.invokevirtual 117, 3) := by decide +kernel
theorem dX7_add_53 : decode cX7_add 53 = .ok (.ifCond .eq 15, 3) := by decide +kernel
theorem dX7_add_56 : decode cX7_add 56 = .ok (.aload_n 0, 1) := by decide +kernel
theorem dX7_add_57 : decode cX7_add 57 = .ok (.getfield 18, 3) := by decide +kernel
theorem dX7_add_60 : decode cX7_add 60 = .ok (.iload_n 1, 1) := by decide +kernel
theorem dX7_add_61 : decode cX7_add 61 = .ok (.aaload, 1) := by decide +kernel
theorem dX7_add_62 : decode cX7_add 62 = .ok (.getfield 120, 3) := by decide +kernel
theorem dX7_add_65 : decode cX7_add 65 = .ok (.goto 6, 3) := by decide +kernel
theorem dX7_add_68 : decode cX7_add 68 = .ok (.sipush (-1004), 3) := by decide +kernel
theorem dX7_add_71 : decode cX7_add 71 = .ok (.ireturn, 1) := by decide +kernel
theorem dX7_drop_0 : decode cX7_drop 0 = .ok (.aload_n 0, 1) := by decide +kernel
theorem dX7_drop_1 : decode cX7_drop 1 = .ok (.iload_n 1, 1) := by decide +kernel
theorem dX7_drop_2 : decode cX7_drop 2 = .ok (.iload_n 2, 1) := by decide +kernel
theorem dX7_drop_3 : decode cX7_drop 3 = .ok (.invokevirtual 123, 3) := by decide +kernel
theorem dX7_drop_6 : decode cX7_drop 6 = .ok (.ifCond .ne 7, 3) := by decide +kernel
theorem dX7_drop_9 : decode cX7_drop 9 = .ok (.sipush (-1001), 3) := by decide +kernel
theorem dX7_drop_12 : decode cX7_drop 12 = .ok (.ireturn, 1) := by decide +kernel
theorem dX7_drop_13 : decode cX7_drop 13 = .ok (.aload_n 0, 1) := by decide +kernel
theorem dX7_drop_14 : decode cX7_drop 14 = .ok (.getfield 18, 3) := by decide +kernel
theorem dX7_drop_17 : decode cX7_drop 17 = .ok (.iload_n 1, 1) := by decide +kernel
theorem dX7_drop_18 : decode cX7_drop 18 = .ok (.aaload, 1) := by decide +kernel
theorem dX7_drop_19 : decode cX7_drop 19 = .ok (.iload_n 2, 1) := by decide +kernel
theorem dX7_drop_20 : decode cX7_drop 20 = .ok (.invokevirtual 126, 3) := by decide +kernel
theorem dX7_drop_23 : decode cX7_drop 23 = .ok (.aload_n 0, 1) := by decide +kernel
theorem dX7_drop_24 : decode cX7_drop 24 = .ok (.getfield 18, 3) := by decide +kernel
theorem dX7_drop_27 : decode cX7_drop 27 = .ok (.iload_n 1, 1) := by decide +kernel
theorem dX7_drop_28 : decode cX7_drop 28 = .ok (.aaload, 1) := by decide +kernel
theorem dX7_drop_29 : decode cX7_drop 29 = .ok (.getfield 120, 3) := by decide +kernel
theorem dX7_drop_32 : decode cX7_drop 32 = .ok (.ireturn, 1) := by decide +kernel
theorem dX7_clear_0 : decode cX7_clear 0 = .ok (.iload_n 1, 1) := by decide +kernel
theorem dX7_clear_1 : decode cX7_clear 1 = .ok (.invokestatic 111, 3) := by decide +kernel
theorem dX7_clear_4 : decode cX7_clear 4 = .ok (.ifCond .ne 7, 3) := by decide +kernel
theorem dX7_clear_7 : decode cX7_clear 7 = .ok (.sipush (-1001), 3) := by decide +kernel
theorem dX7_clear_10 : decode cX7_clear 10 = .ok (.ireturn, 1) := by decide +kernel
theorem dX7_clear_11 : decode cX7_clear 11 = .ok (.aload_n 0, 1) := by decide +kernel
theorem dX7_clear_12 : decode cX7_clear 12 = .ok (.getfield 18, 3) := by decide +kernel
theorem dX7_clear_15 : decode cX7_clear 15 = .ok (.iload_n 1, 1) := by decide +kernel
theorem dX7_clear_16 : decode cX7_clear 16 = .ok (.aaload, 1) := by decide +kernel
theorem dX7_clear_17 : decode cX7_clear 17 = .ok (.getfield 120, 3) := by decide +kernel
theorem dX7_clear_20 : decode cX7_clear 20 = .ok (.istore_n 2, 1) := by decide +kernel
theorem dX7_clear_21 : decode cX7_clear 21 = .ok (.aload_n 0, 1) := by decide +kernel
theorem dX7_clear_22 : decode cX7_clear 22 = .ok (.getfield 18, 3) := by decide +kernel
theorem dX7_clear_25 : decode cX7_clear 25 = .ok (.iload_n 1, 1) := by decide +kernel
theorem dX7_clear_26 : decode cX7_clear 26 = .ok (.aaload, 1) := by decide +kernel
theorem dX7_clear_27 : decode cX7_clear 27 = .ok (.invokevirtual 66, 3) := by decide +kernel
theorem dX7_clear_30 : decode cX7_clear 30 = .ok (.iload_n 2, 1) := by decide +kernel
theorem dX7_clear_31 : decode cX7_clear 31 = .ok (.ireturn, 1) := by decide +kernel
theorem dX7_mark_0 : decode cX7_mark 0 = .ok (.iload_n 1, 1) := by decide +kernel
theorem dX7_mark_1 : decode cX7_mark 1 = .ok (.invokestatic 111, 3) := by decide +kernel
theorem dX7_mark_4 : decode cX7_mark 4 = .ok (.ifCond .ne 7, 3) := by decide +kernel
theorem dX7_mark_7 : decode cX7_mark 7 = .ok (.sipush (-1001), 3) := by decide +kernel
theorem dX7_mark_10 : decode cX7_mark 10 = .ok (.ireturn, 1) := by decide +kernel
theorem dX7_mark_11 : decode cX7_mark 11 = .ok (.iload_n 2, 1) := by decide +kernel
theorem dX7_mark_12 : decode cX7_mark 12 = .ok (.iconst (-1), 1) := by decide +kernel
theorem dX7_mark_13 : decode cX7_mark 13 = .ok (.if_icmp .ne 13, 3) := by decide +kernel
theorem dX7_mark_16 : decode cX7_mark 16 = .ok (.aload_n 0, 1) := by decide +kernel
theorem dX7_mark_17 : decode cX7_mark 17 = .ok (.getfield 18, 3) := by decide +kernel
theorem dX7_mark_20 : decode cX7_mark 20 = .ok (.iload_n 1, 1) := by decide +kernel
theorem dX7_mark_21 : decode cX7_mark 21 = .ok (.aaload, 1) := by decide +kernel
theorem dX7_mark_22 : decode cX7_mark 22 = .ok (.getfield 120, 3) := by decide +kernel
theorem dX7_mark_25 : decode cX7_mark 25 = .ok (.ireturn, 1) := by decide +kernel
theorem dX7_mark_26 : decode cX7_mark 26 = .ok (.aload_n 0, 1) := by decide +kernel
theorem dX7_mark_27 : decode cX7_mark 27 = .ok (.iload_n 1, 1) := by decide +kernel
theorem dX7_mark_28 : decode cX7_mark 28 = .ok (.iload_n 2, 1) := by decide +kernel
theorem dX7_mark_29 : decode cX7_mark 29 = .ok (.invokevirtual 123, 3) := by decide +kernel
theorem dX7_mark_32 : decode cX7_mark 32 = .ok (.ifCond .eq 17, 3) := by decide +kernel
theorem dX7_mark_35 : decode cX7_mark 35 = .ok (.aload_n 0, 1) := by decide +kernel
theorem dX7_mark_36 : decode cX7_mark 36 = .ok (.getfield 18, 3) := by decide +kernel
theorem dX7_mark_39 : decode cX7_mark 39 = .ok (.iload_n 1, 1) := by decide +kernel
theorem dX7_mark_40 : decode cX7_mark 40 = .ok (.aaload, 1) := by decide +kernel
theorem dX7_mark_41 : decode cX7_mark 41 = .ok (.getfield 130, 3) := by decide +kernel
theorem dX7_mark_44 : decode cX7_mark 44 = .ok (.iload_n 2, 1) := by decide +kernel
theorem dX7_mark_45 : decode cX7_mark 45 = .ok (.iaload, 1) := by decide +kernel
theorem dX7_mark_46 : decode cX7_mark 46 = .ok (.goto 6, 3) := by decide +kernel
theorem dX7_mark_49 : decode cX7_mark 49 = .ok (.sipush (-1001), 3) := by decide +kernel
theorem dX7_mark_52 : decode cX7_mark 52 = .ok (.ireturn, 1) := by decide +kernel
theorem dX7_good_0 : decode cX7_good 0 = .ok (.iload_n 1, 1) := by decide +kernel
theorem dX7_good_1 : decode cX7_good 1 = .ok (.invokestatic 111, 3) := by decide +kernel
theorem dX7_good_4 : decode cX7_good 4 = .ok (.ifCond .ne 7, 3) := by decide +kernel
theorem dX7_good_7 : decode cX7_good 7 = .ok (.sipush (-1001), 3) := by decide +kernel
theorem dX7_good_10 : decode cX7_good 10 = .ok (.ireturn, 1) := by decide +kernel
theorem dX7_good_11 : decode cX7_good 11 = .ok (.iload_n 2, 1) := by decide +kernel
theorem dX7_good_12 : decode cX7_good 12 = .ok (.iconst 0, 1) := by decide +kernel
theorem dX7_good_13 : decode cX7_good 13 = .ok (.iconst 4, 1) := by decide +kernel
theorem dX7_good_14 : decode cX7_good 14 = .ok (.invokestatic 73, 3) := by decide +kernel
theorem dX7_good_17 : decode cX7_good 17 = .ok (.ifCond .ne 7, 3) := by decide +kernel
theorem dX7_good_20 : decode cX7_good 20 = .ok (.sipush (-1002), 3) := by decide +kernel
theorem dX7_good_23 : decode cX7_good 23 = .ok (.ireturn, 1) := by decide +kernel
theorem dX7_good_24 : decode cX7_good 24 = .ok (.aload_n 0, 1) := by decide +kernel
theorem dX7_good_25 : decode cX7_good 25 = .ok (.getfield 18, 3) := by decide +kernel
theorem dX7_good_28 : decode cX7_good 28 = .ok (.iload_n 1, 1) := by decide +kernel
theorem dX7_good_29 : decode cX7_good 29 = .ok (.aaload, 1) := by decide +kernel
theorem dX7_good_30 : decode cX7_good 30 = .ok (.astore_n 3, 1) := by decide +kernel
theorem dX7_good_31 : decode cX7_good 31 = .ok (.iconst 0, 1) := by decide +kernel
theorem dX7_good_32 : decode cX7_good 32 = .ok (.istore 4, 2) := by decide +kernel
theorem dX7_good_34 : decode cX7_good 34 = .ok (.iload 4, 2) := by decide +kernel
theorem dX7_good_36 : decode cX7_good 36 = .ok (.aload_n 3, 1) := by decide +kernel
theorem dX7_good_37 : decode cX7_good 37 = .ok (.getfield 120, 3) := by decide +kernel
theorem dX7_good_40 : decode cX7_good 40 = .ok (.if_icmp .ge 44, 3) := by decide +kernel
theorem dX7_good_43 : decode cX7_good 43 = .ok (.aload_n 0, 1) := by decide +kernel
theorem dX7_good_44 : decode cX7_good 44 = .ok (.aload_n 3, 1) := by decide +kernel
theorem dX7_good_45 : decode cX7_good 45 = .ok (.aload_n 3, 1) := by decide +kernel
theorem dX7_good_46 : decode cX7_good 46 = .ok (.getfield 130, 3) := by decide +kernel
theorem dX7_good_49 : decode cX7_good 49 = .ok (.iload 4, 2) := by decide +kernel
theorem dX7_good_51 : decode cX7_good 51 = .ok (.iaload, 1) := by decide +kernel
theorem dX7_good_52 : decode cX7_good 52 = .ok (.iload 4, 2) := by decide +kernel
theorem dX7_good_54 : decode cX7_good 54 = .ok (.iconst 1, 1) := by decide +kernel
theorem dX7_good_55 : decode cX7_good 55 = .ok (.iadd, 1) := by decide +kernel
theorem dX7_good_56 : decode cX7_good 56 = .ok (.invokevirtual 134, 3) := by decide +kernel
theorem dX7_good_59 : decode cX7_good 59 = .ok (.istore 5, 2) := by decide +kernel
theorem dX7_good_61 : decode cX7_good 61 = .ok (.iload 5, 2) := by decide +kernel
theorem dX7_good_63 : decode cX7_good 63 = .ok (.iconst (-1), 1) := by decide +kernel
theorem dX7_good_64 : decode cX7_good 64 = .ok (.if_icmp .eq 14, 3) := by decide +kernel
theorem dX7_good_67 : decode cX7_good 67 = .ok (.aload_n 0, 1) := by decide +kernel
theorem dX7_good_68 : decode cX7_good 68 = .ok (.aload_n 3, 1) := by decide +kernel
theorem dX7_good_69 : decode cX7_good 69 = .ok (.iload 4, 2) := by decide +kernel
theorem dX7_good_71 : decode cX7_good 71 = .ok (.iload 5, 2) := by decide +kernel
theorem dX7_good_73 : decode cX7_good 73 = .ok (.iload_n 2, 1) := by decide +kernel
theorem dX7_good_74 : decode cX7_good 74 = .ok (.invokevirtual 138, 3) := by decide +kernel
theorem dX7_good_77 : decode cX7_good 77 = .ok (.ireturn, 1) := by decide +kernel
theorem dX7_good_78 : decode cX7_good 78 = .ok (.iinc 4 1, 3) := by decide +kernel
theorem dX7_good_81 : decode cX7_good 81 = .ok (.goto (-47), 3) := by decide +kernel
theorem dX7_good_84 : decode cX7_good 84 = .ok (.iload_n 2, 1) := by decide +kernel
theorem dX7_good_85 : decode cX7_good 85 = .ok (.ifCond .ne 7, 3) := by decide +kernel
theorem dX7_good_88 : decode cX7_good 88 = .ok (.iconst 1, 1) := by decide +kernel
theorem dX7_good_89 : decode cX7_good 89 = .ok (.goto 4, 3) := by decide +kernel
theorem dX7_good_92 : decode cX7_good 92 = .ok (.iconst (-1), 1) := by decide +kernel
theorem dX7_good_93 : decode cX7_good 93 = .ok (.ireturn, 1) := by decide +kernel
theorem dX7_build_0 : decode cX7_build 0 = .ok (.iload_n 1, 1) := by decide +kernel
theorem dX7_build_1 : decode cX7_build 1 = .ok (.invokestatic 111, 3) := by decide +kernel
theorem dX7_build_4 : decode cX7_build 4 = .ok (.ifCond .ne 7, 3) := by decide +kernel
theorem dX7_build_7 : decode cX7_build 7 = .ok (.sipush (-1001), 3) := by decide +kernel
theorem dX7_build_10 : decode cX7_build 10 = .ok (.ireturn, 1) := by decide +kernel
theorem dX7_build_11 : decode cX7_build 11 = .ok (.iload_n 2, 1) := by decide +kernel
theorem dX7_build_12 : decode cX7_build 12 = .ok (.iconst 0, 1) := by decide +kernel
theorem dX7_build_13 : decode cX7_build 13 = .ok (.sipush 4095, 3) := by decide +kernel
theorem dX7_build_16 : decode cX7_build 16 = .ok (.invokestatic 73, 3) := by decide +kernel
theorem dX7_build_19 : decode cX7_build 19 = .ok (.ifCond .eq 13, 3) := by decide +kernel
theorem dX7_build_22 : decode cX7_build 22 = .ok (.iload_n 3, 1) := by decide +kernel
theorem dX7_build_23 : decode cX7_build 23 = .ok (.iconst 0, 1) := by decide +kernel
theorem dX7_build_24 : decode cX7_build 24 = .ok (.bipush 64, 2) := by decide +kernel
theorem dX7_build_26 : decode cX7_build 26 = .ok (.invokestatic 73, 3) := by decide +kernel
theorem dX7_build_29 : decode cX7_build 29 = .ok (.ifCond .ne 7, 3) := by decide +kernel
theorem dX7_build_32 : decode cX7_build 32 = .ok (.sipush (-1002), 3) := by decide +kernel
theorem dX7_build_35 : decode cX7_build 35 = .ok (.ireturn, 1) := by decide +kernel
theorem dX7_build_36 : decode cX7_build 36 = .ok (.aload_n 0, 1) := by decide +kernel
theorem dX7_build_37 : decode cX7_build 37 = .ok (.getfield 18, 3) := by decide +kernel
theorem dX7_build_40 : decode cX7_build 40 = .ok (.iload_n 1, 1) := by decide +kernel
theorem dX7_build_41 : decode cX7_build 41 = .ok (.aaload, 1) := by decide +kernel
theorem dX7_build_42 : decode cX7_build 42 = .ok (.astore 4, 2) := by decide +kernel
theorem dX7_build_44 : decode cX7_build 44 = .ok (.aload_n 0, 1) := by decide +kernel
theorem dX7_build_45 : decode cX7_build 45 = .ok (.getfield 12, 3) := by decide +kernel
theorem dX7_build_48 : decode cX7_build 48 = .ok (.invokevirtual 142, 3) := by decide +kernel
theorem dX7_build_51 : decode cX7_build 51 = .ok (.istore 5, 2) := by decide +kernel
theorem dX7_build_53 : decode cX7_build 53 = .ok (.iconst 0, 1) := by decide +kernel
theorem dX7_build_54 : decode cX7_build 54 = .ok (.istore 6, 2) := by decide +kernel
theorem dX7_build_56 : decode cX7_build 56 = .ok (.iload 6, 2) := by decide +kernel
theorem dX7_build_58 : decode cX7_build 58 = .ok (.iload 5, 2) := by decide +kernel
theorem dX7_build_60 : decode cX7_build 60 = .ok (.if_icmp .gt 54, 3) := by decide +kernel
theorem dX7_build_63 : decode cX7_build 63 = .ok (.aload 4, 2) := by decide +kernel
theorem dX7_build_65 : decode cX7_build 65 = .ok (.getfield 120, 3) := by decide +kernel
theorem dX7_build_68 : decode cX7_build 68 = .ok (.iload_n 3, 1) := by decide +kernel
theorem dX7_build_69 : decode cX7_build 69 = .ok (.if_icmp .ge 45, 3) := by decide +kernel
theorem dX7_build_72 : decode cX7_build 72 = .ok (.iload 6, 2) := by decide +kernel
theorem dX7_build_74 : decode cX7_build 74 = .ok (.iconst 2, 1) := by decide +kernel
theorem dX7_build_75 : decode cX7_build 75 = .ok (.iload_n 2, 1) := by decide +kernel
theorem dX7_build_76 : decode cX7_build 76 = .ok (.imul, 1) := by decide +kernel
theorem dX7_build_77 : decode cX7_build 77 = .ok (.iconst 1, 1) := by decide +kernel
theorem dX7_build_78 : decode cX7_build 78 = .ok (.iadd, 1) := by decide +kernel
theorem dX7_build_79 : decode cX7_build 79 = .ok (.imul, 1) := by decide +kernel
theorem dX7_build_80 : decode cX7_build 80 = .ok (.iload_n 2, 1) := by decide +kernel
theorem dX7_build_81 : decode cX7_build 81 = .ok (.iadd, 1) := by decide +kernel
theorem dX7_build_82 : decode cX7_build 82 = .ok (.iload 5, 2) := by decide +kernel
theorem dX7_build_84 : decode cX7_build 84 = .ok (.iand, 1) := by decide +kernel
theorem dX7_build_85 : decode cX7_build 85 = .ok (.istore 7, 2) := by decide +kernel
theorem dX7_build_87 : decode cX7_build 87 = .ok (.aload_n 0, 1) := by decide +kernel
theorem dX7_build_88 : decode cX7_build 88 = .ok (.aload 4, 2) := by decide +kernel
theorem dX7_build_90 : decode cX7_build 90 = .ok (.iload 7, 2) := by decide +kernel
theorem dX7_build_92 : decode cX7_build 92 = .ok (.iconst 0, 1) := by decide +kernel
theorem dX7_build_93 : decode cX7_build 93 = .ok (.invokevirtual 134, 3) := by decide +kernel
theorem dX7_build_96 : decode cX7_build 96 = .ok (.iconst (-1), 1) := by decide +kernel
theorem dX7_build_97 : decode cX7_build 97 = .ok (.if_icmp .ne 11, 3) := by decide +kernel
theorem dX7_build_100 : decode cX7_build 100 = .ok (.aload 4, 2) := by decide +kernel
theorem dX7_build_102 : decode cX7_build 102 = .ok (.iload 7, 2) := by decide +kernel
theorem dX7_build_104 : decode cX7_build 104 = .ok (.invokevirtual 117, 3) := by decide +kernel
theorem dX7_build_107 : decode cX7_build 107 = .ok (.pop, 1) := by decide +kernel
theorem dX7_build_108 : decode cX7_build 108 = .ok (.iinc 6 1, 3) := by decide +kernel
theorem dX7_build_111 : decode cX7_build 111 = .ok (.goto (-55), 3) := by decide +kernel
theorem dX7_build_114 : decode cX7_build 114 = .ok (.aload 4, 2) := by decide +kernel
theorem dX7_build_116 : decode cX7_build 116 = .ok (.getfield 120, 3) := by decide +kernel
theorem dX7_build_119 : decode cX7_build 119 = .ok (.ireturn, 1) := by decide +kernel
theorem dX7_most_0 : decode cX7_most 0 = .ok (.iload_n 1, 1) := by decide +kernel
theorem dX7_most_1 : decode cX7_most 1 = .ok (.iconst (-1), 1) := by decide +kernel
theorem dX7_most_2 : decode cX7_most 2 = .ok (.iconst 5, 1) := by decide +kernel
theorem dX7_most_3 : decode cX7_most 3 = .ok (.invokestatic 73, 3) := by decide +kernel
theorem dX7_most_6 : decode cX7_most 6 = .ok (.ifCond .ne 7, 3) := by decide +kernel
theorem dX7_most_9 : decode cX7_most 9 = .ok (.sipush (-1002), 3) := by decide +kernel
theorem dX7_most_12 : decode cX7_most 12 = .ok (.ireturn, 1) := by decide +kernel
theorem dX7_most_13 : decode cX7_most 13 = .ok (.aload_n 0, 1) := by decide +kernel
theorem dX7_most_14 : decode cX7_most 14 = .ok (.getfield 12, 3) := by decide +kernel
theorem dX7_most_17 : decode cX7_most 17 = .ok (.getfield 62, 3) := by decide +kernel
theorem dX7_most_20 : decode cX7_most 20 = .ok (.iconst 5, 1) := by decide +kernel
theorem dX7_most_21 : decode cX7_most 21 = .ok (.if_icmp .le 7, 3) := by decide +kernel
theorem dX7_most_24 : decode cX7_most 24 = .ok (.sipush (-1005), 3) := by decide +kernel
theorem dX7_most_27 : decode cX7_most 27 = .ok (.ireturn, 1) := by decide +kernel
theorem dX7_most_28 : decode cX7_most 28 = .ok (.aload_n 0, 1) := by decide +kernel
theorem dX7_most_29 : decode cX7_most 29 = .ok (.getfield 51, 3) := by decide +kernel
theorem dX7_most_32 : decode cX7_most 32 = .ok (.aload_n 0, 1) := by decide +kernel
theorem dX7_most_33 : decode cX7_most 33 = .ok (.getfield 12, 3) := by decide +kernel
theorem dX7_most_36 : decode cX7_most 36 = .ok (.iload_n 1, 1) := by decide +kernel
theorem dX7_most_37 : decode cX7_most 37 = .ok (.invokevirtual 146, 3) := by decide +kernel
theorem dX7_most_40 : decode cX7_most 40 = .ok (.iload_n 2, 1) := by decide +kernel
theorem dX7_most_41 : decode cX7_most 41 = .ok (.iconst (-1), 1) := by decide +kernel
theorem dX7_most_42 : decode cX7_most 42 = .ok (.if_icmp .ne 11, 3) := by decide +kernel
theorem dX7_most_45 : decode cX7_most 45 = .ok (.aload_n 0, 1) := by decide +kernel
theorem dX7_most_46 : decode cX7_most 46 = .ok (.getfield 51, 3) := by decide +kernel
theorem dX7_most_49 : decode cX7_most 49 = .ok (.getfield 150, 3) := by decide +kernel
theorem dX7_most_52 : decode cX7_most 52 = .ok (.ireturn, 1) := by decide +kernel
theorem dX7_most_53 : decode cX7_most 53 = .ok (.iload_n 2, 1) := by decide +kernel
theorem dX7_most_54 : decode cX7_most 54 = .ok (.iconst 0, 1) := by decide +kernel
theorem dX7_most_55 : decode cX7_most 55 = .ok (.aload_n 0, 1) := by decide +kernel
theorem dX7_most_56 : decode cX7_most 56 = .ok (.getfield 51, 3) := by decide +kernel
theorem dX7_most_59 : decode cX7_most 59 = .ok (.getfield 150, 3) := by decide +kernel
theorem dX7_most_62 : decode cX7_most 62 = .ok (.iconst 1, 1) := by decide +kernel
theorem dX7_most_63 : decode cX7_most 63 = .ok (.isub, 1) := by decide +kernel
theorem dX7_most_64 : decode cX7_most 64 = .ok (.invokestatic 73, 3) := by decide +kernel
theorem dX7_most_67 : decode cX7_most 67 = .ok (.ifCond .eq 15, 3) := by decide +kernel
theorem dX7_most_70 : decode cX7_most 70 = .ok (.aload_n 0, 1) := by decide +kernel
theorem dX7_most_71 : decode cX7_most 71 = .ok (.getfield 51, 3) := by decide +kernel
theorem dX7_most_74 : decode cX7_most 74 = .ok (.getfield 151, 3) := by decide +kernel
theorem dX7_most_77 : decode cX7_most 77 = .ok (.iload_n 2, 1) := by decide +kernel
theorem dX7_most_78 : decode cX7_most 78 = .ok (.iaload, 1) := by decide +kernel
theorem dX7_most_79 : decode cX7_most 79 = .ok (.goto 4, 3) := by decide +kernel
theorem dX7_most_82 : decode cX7_most 82 = .ok (.iconst (-1), 1) := by decide +kernel
theorem dX7_most_83 : decode cX7_most 83 = .ok (.ireturn, 1) := by decide +kernel
theorem dX7_bound_0 : decode cX7_bound 0 = .ok (.aload_n 0, 1) := by decide +kernel
theorem dX7_bound_1 : decode cX7_bound 1 = .ok (.getfield 12, 3) := by decide +kernel
theorem dX7_bound_4 : decode cX7_bound 4 = .ok (.invokevirtual 154, 3) := by decide +kernel
theorem dX7_bound_7 : decode cX7_bound 7 = .ok (.istore_n 1, 1) := by decide +kernel
theorem dX7_bound_8 : decode cX7_bound 8 = .ok (.iload_n 1, 1) := by decide +kernel
theorem dX7_bound_9 : decode cX7_bound 9 = .ok (.ifCond .le 15, 3) := by decide +kernel
theorem dX7_bound_12 : decode cX7_bound 12 = .ok (.aload_n 0, 1) := by decide +kernel
theorem dX7_bound_13 : decode cX7_bound 13 = .ok (.getfield 12, 3) := by decide +kernel
theorem dX7_bound_16 : decode cX7_bound 16 = .ok (.invokevirtual 157, 3) := by decide +kernel
theorem dX7_bound_19 : decode cX7_bound 19 = .ok (.iload_n 1, 1) := by decide +kernel
theorem dX7_bound_20 : decode cX7_bound 20 = .ok (.idiv, 1) := by decide +kernel
theorem dX7_bound_21 : decode cX7_bound 21 = .ok (.goto 4, 3) := by decide +kernel
theorem dX7_bound_24 : decode cX7_bound 24 = .ok (.iconst 0, 1) := by decide +kernel
theorem dX7_bound_25 : decode cX7_bound 25 = .ok (.ireturn, 1) := by decide +kernel
theorem dX7_lay_0 : decode cX7_lay 0 = .ok (.iload_n 1, 1) := by decide +kernel
theorem dX7_lay_1 : decode cX7_lay 1 = .ok (.invokestatic 111, 3) := by decide +kernel
theorem dX7_lay_4 : decode cX7_lay 4 = .ok (.ifCond .eq 17, 3) := by decide +kernel
theorem dX7_lay_7 : decode cX7_lay 7 = .ok (.iload_n 2, 1) := by decide +kernel
theorem dX7_lay_8 : decode cX7_lay 8 = .ok (.invokestatic 111, 3) := by decide +kernel
theorem dX7_lay_11 : decode cX7_lay 11 = .ok (.ifCond .eq 10, 3) := by decide +kernel
theorem dX7_lay_14 : decode cX7_lay 14 = .ok (.iload_n 3, 1) := by decide +kernel
theorem dX7_lay_15 : decode cX7_lay 15 = .ok (.invokestatic 111, 3) := by decide +kernel
theorem dX7_lay_18 : decode cX7_lay 18 = .ok (.ifCond .ne 7, 3) := by decide +kernel
theorem dX7_lay_21 : decode cX7_lay 21 = .ok (.sipush (-1001), 3) := by decide +kernel
theorem dX7_lay_24 : decode cX7_lay 24 = .ok (.ireturn, 1) := by decide +kernel
theorem dX7_lay_25 : decode cX7_lay 25 = .ok (.iload 4, 2) := by decide +kernel
theorem dX7_lay_27 : decode cX7_lay 27 = .ok (.iconst 1, 1) := by decide +kernel
theorem dX7_lay_28 : decode cX7_lay 28 = .ok (.aload_n 0, 1) := by decide +kernel
theorem dX7_lay_29 : decode cX7_lay 29 = .ok (.getfield 12, 3) := by decide +kernel
theorem dX7_lay_32 : decode cX7_lay 32 = .ok (.getfield 62, 3) := by decide +kernel
theorem dX7_lay_35 : decode cX7_lay 35 = .ok (.iconst 1, 1) := by decide +kernel
theorem dX7_lay_36 : decode cX7_lay 36 = .ok (.isub, 1) := by decide +kernel
theorem dX7_lay_37 : decode cX7_lay 37 = .ok (.invokestatic 73, 3) := by decide +kernel
theorem dX7_lay_40 : decode cX7_lay 40 = .ok (.ifCond .ne 7, 3) := by decide +kernel
theorem dX7_lay_43 : decode cX7_lay 43 = .ok (.sipush (-1002), 3) := by decide +kernel
theorem dX7_lay_46 : decode cX7_lay 46 = .ok (.ireturn, 1) := by decide +kernel
theorem dX7_lay_47 : decode cX7_lay 47 = .ok (.aload_n 0, 1) := by decide +kernel
theorem dX7_lay_48 : decode cX7_lay 48 = .ok (.getfield 23, 3) := by decide +kernel
theorem dX7_lay_51 : decode cX7_lay 51 = .ok (.invokevirtual 66, 3) := by decide +kernel
theorem dX7_lay_54 : decode cX7_lay 54 = .ok (.iconst 0, 1) := by decide +kernel
theorem dX7_lay_55 : decode cX7_lay 55 = .ok (.istore 5, 2) := by decide +kernel
theorem dX7_lay_57 : decode cX7_lay 57 = .ok (.iload 5, 2) := by decide +kernel
theorem dX7_lay_59 : decode cX7_lay 59 = .ok (.aload_n 0, 1) := by decide +kernel
theorem dX7_lay_60 : decode cX7_lay 60 = .ok (.getfield 18, 3) := by decide +kernel
theorem dX7_lay_63 : decode cX7_lay 63 = .ok (.iload_n 2, 1) := by decide +kernel
theorem dX7_lay_64 : decode cX7_lay 64 = .ok (.aaload, 1) := by decide +kernel
theorem dX7_lay_65 : decode cX7_lay 65 = .ok (.getfield 120, 3) := by decide +kernel
theorem dX7_lay_68 : decode cX7_lay 68 = .ok (.if_icmp .ge 97, 3) := by decide +kernel
theorem dX7_lay_71 : decode cX7_lay 71 = .ok (.aload_n 0, 1) := by decide +kernel
theorem dX7_lay_72 : decode cX7_lay 72 = .ok (.getfield 18, 3) := by decide +kernel
theorem dX7_lay_75 : decode cX7_lay 75 = .ok (.iload_n 2, 1) := by decide +kernel
theorem dX7_lay_76 : decode cX7_lay 76 = .ok (.aaload, 1) := by decide +kernel
theorem dX7_lay_77 : decode cX7_lay 77 = .ok (.getfield 130, 3) := by decide +kernel
theorem dX7_lay_80 : decode cX7_lay 80 = .ok (.iload 5, 2) := by decide +kernel
theorem dX7_lay_82 : decode cX7_lay 82 = .ok (.iaload, 1) := by decide +kernel
theorem dX7_lay_83 : decode cX7_lay 83 = .ok (.iconst 1, 1) := by decide +kernel
theorem dX7_lay_84 : decode cX7_lay 84 = .ok (.iload 4, 2) := by decide +kernel
theorem dX7_lay_86 : decode cX7_lay 86 = .ok (.ishl, 1) := by decide +kernel
theorem dX7_lay_87 : decode cX7_lay 87 = .ok (.iconst 1, 1) := by decide +kernel
theorem dX7_lay_88 : decode cX7_lay 88 = .ok (.isub, 1) := by decide +kernel
theorem dX7_lay_89 : decode cX7_lay 89 = .ok (.iand, 1) := by decide +kernel
theorem dX7_lay_90 : decode cX7_lay 90 = .ok (.istore 6, 2) := by decide +kernel
theorem dX7_lay_92 : decode cX7_lay 92 = .ok (.iconst 0, 1) := by decide +kernel
theorem dX7_lay_93 : decode cX7_lay 93 = .ok (.istore 7, 2) := by decide +kernel
theorem dX7_lay_95 : decode cX7_lay 95 = .ok (.iload 7, 2) := by decide +kernel
theorem dX7_lay_97 : decode cX7_lay 97 = .ok (.aload_n 0, 1) := by decide +kernel
theorem dX7_lay_98 : decode cX7_lay 98 = .ok (.getfield 18, 3) := by decide +kernel
theorem dX7_lay_101 : decode cX7_lay 101 = .ok (.iload_n 3, 1) := by decide +kernel
theorem dX7_lay_102 : decode cX7_lay 102 = .ok (.aaload, 1) := by decide +kernel
theorem dX7_lay_103 : decode cX7_lay 103 = .ok (.getfield 120, 3) := by decide +kernel
theorem dX7_lay_106 : decode cX7_lay 106 = .ok (.if_icmp .ge 53, 3) := by decide +kernel
theorem dX7_lay_109 : decode cX7_lay 109 = .ok (.aload_n 0, 1) := by decide +kernel
theorem dX7_lay_110 : decode cX7_lay 110 = .ok (.getfield 18, 3) := by decide +kernel
theorem dX7_lay_113 : decode cX7_lay 113 = .ok (.iload_n 3, 1) := by decide +kernel
theorem dX7_lay_114 : decode cX7_lay 114 = .ok (.aaload, 1) := by decide +kernel
theorem dX7_lay_115 : decode cX7_lay 115 = .ok (.getfield 130, 3) := by decide +kernel
theorem dX7_lay_118 : decode cX7_lay 118 = .ok (.iload 7, 2) := by decide +kernel
theorem dX7_lay_120 : decode cX7_lay 120 = .ok (.iaload, 1) := by decide +kernel
theorem dX7_lay_121 : decode cX7_lay 121 = .ok (.iload 4, 2) := by decide +kernel
theorem dX7_lay_123 : decode cX7_lay 123 = .ok (.ishl, 1) := by decide +kernel
theorem dX7_lay_124 : decode cX7_lay 124 = .ok (.aload_n 0, 1) := by decide +kernel
theorem dX7_lay_125 : decode cX7_lay 125 = .ok (.getfield 12, 3) := by decide +kernel
theorem dX7_lay_128 : decode cX7_lay 128 = .ok (.invokevirtual 142, 3) := by decide +kernel
theorem dX7_lay_131 : decode cX7_lay 131 = .ok (.iand, 1) := by decide +kernel
theorem dX7_lay_132 : decode cX7_lay 132 = .ok (.istore 8, 2) := by decide +kernel
theorem dX7_lay_134 : decode cX7_lay 134 = .ok (.aload_n 0, 1) := by decide +kernel
theorem dX7_lay_135 : decode cX7_lay 135 = .ok (.getfield 23, 3) := by decide +kernel
theorem dX7_lay_138 : decode cX7_lay 138 = .ok (.iload 6, 2) := by decide +kernel
theorem dX7_lay_140 : decode cX7_lay 140 = .ok (.iload 8, 2) := by decide +kernel
theorem dX7_lay_142 : decode cX7_lay 142 = .ok (.ior, 1) := by decide +kernel
theorem dX7_lay_143 : decode cX7_lay 143 = .ok (.invokevirtual 160, 3) := by decide +kernel
theorem dX7_lay_146 : decode cX7_lay 146 = .ok (.ifCond .ne 7, 3) := by decide +kernel
theorem dX7_lay_149 : decode cX7_lay 149 = .ok (.sipush (-1004), 3) := by decide +kernel
theorem dX7_lay_152 : decode cX7_lay 152 = .ok (.ireturn, 1) := by decide +kernel
theorem dX7_lay_153 : decode cX7_lay 153 = .ok (.iinc 7 1, 3) := by decide +kernel
theorem dX7_lay_156 : decode cX7_lay 156 = .ok (.goto (-61), 3) := by decide +kernel
theorem dX7_lay_159 : decode cX7_lay 159 = .ok (.iinc 5 1, 3) := by decide +kernel
theorem dX7_lay_162 : decode cX7_lay 162 = .ok (.goto (-105), 3) := by decide +kernel
theorem dX7_lay_165 : decode cX7_lay 165 = .ok (.aload_n 0, 1) := by decide +kernel
theorem dX7_lay_166 : decode cX7_lay 166 = .ok (.iload_n 1, 1) := by decide +kernel
theorem dX7_lay_167 : decode cX7_lay 167 = .ok (.invokevirtual 163, 3) := by decide +kernel
theorem dX7_lay_170 : decode cX7_lay 170 = .ok (.ireturn, 1) := by decide +kernel
theorem dX7_join_0 : decode cX7_join 0 = .ok (.iload_n 1, 1) := by decide +kernel
theorem dX7_join_1 : decode cX7_join 1 = .ok (.invokestatic 111, 3) := by decide +kernel
theorem dX7_join_4 : decode cX7_join 4 = .ok (.ifCond .eq 17, 3) := by decide +kernel
theorem dX7_join_7 : decode cX7_join 7 = .ok (.iload_n 2, 1) := by decide +kernel
theorem dX7_join_8 : decode cX7_join 8 = .ok (.invokestatic 111, 3) := by decide +kernel
theorem dX7_join_11 : decode cX7_join 11 = .ok (.ifCond .eq 10, 3) := by decide +kernel
theorem dX7_join_14 : decode cX7_join 14 = .ok (.iload_n 3, 1) := by decide +kernel
theorem dX7_join_15 : decode cX7_join 15 = .ok (.invokestatic 111, 3) := by decide +kernel
theorem dX7_join_18 : decode cX7_join 18 = .ok (.ifCond .ne 7, 3) := by decide +kernel
theorem dX7_join_21 : decode cX7_join 21 = .ok (.sipush (-1001), 3) := by decide +kernel
theorem dX7_join_24 : decode cX7_join 24 = .ok (.ireturn, 1) := by decide +kernel
theorem dX7_join_25 : decode cX7_join 25 = .ok (.aload_n 0, 1) := by decide +kernel
theorem dX7_join_26 : decode cX7_join 26 = .ok (.getfield 23, 3) := by decide +kernel
theorem dX7_join_29 : decode cX7_join 29 = .ok (.aload_n 0, 1) := by decide +kernel
theorem dX7_join_30 : decode cX7_join 30 = .ok (.getfield 18, 3) := by decide +kernel
theorem dX7_join_33 : decode cX7_join 33 = .ok (.iload_n 2, 1) := by decide +kernel
theorem dX7_join_34 : decode cX7_join 34 = .ok (.aaload, 1) := by decide +kernel
theorem dX7_join_35 : decode cX7_join 35 = .ok (.invokevirtual 166, 3) := by decide +kernel
theorem dX7_join_38 : decode cX7_join 38 = .ok (.iconst 0, 1) := by decide +kernel
theorem dX7_join_39 : decode cX7_join 39 = .ok (.istore 4, 2) := by decide +kernel
theorem dX7_join_41 : decode cX7_join 41 = .ok (.iload 4, 2) := by decide +kernel
theorem dX7_join_43 : decode cX7_join 43 = .ok (.aload_n 0, 1) := by decide +kernel
theorem dX7_join_44 : decode cX7_join 44 = .ok (.getfield 18, 3) := by decide +kernel
theorem dX7_join_47 : decode cX7_join 47 = .ok (.iload_n 3, 1) := by decide +kernel
theorem dX7_join_48 : decode cX7_join 48 = .ok (.aaload, 1) := by decide +kernel
theorem dX7_join_49 : decode cX7_join 49 = .ok (.getfield 120, 3) := by decide +kernel
theorem dX7_join_52 : decode cX7_join 52 = .ok (.if_icmp .ge 35, 3) := by decide +kernel
theorem dX7_join_55 : decode cX7_join 55 = .ok (.aload_n 0, 1) := by decide +kernel
theorem dX7_join_56 : decode cX7_join 56 = .ok (.getfield 23, 3) := by decide +kernel
theorem dX7_join_59 : decode cX7_join 59 = .ok (.aload_n 0, 1) := by decide +kernel
theorem dX7_join_60 : decode cX7_join 60 = .ok (.getfield 18, 3) := by decide +kernel
theorem dX7_join_63 : decode cX7_join 63 = .ok (.iload_n 3, 1) := by decide +kernel
theorem dX7_join_64 : decode cX7_join 64 = .ok (.aaload, 1) := by decide +kernel
theorem dX7_join_65 : decode cX7_join 65 = .ok (.getfield 130, 3) := by decide +kernel
theorem dX7_join_68 : decode cX7_join 68 = .ok (.iload 4, 2) := by decide +kernel
theorem dX7_join_70 : decode cX7_join 70 = .ok (.iaload, 1) := by decide +kernel
theorem dX7_join_71 : decode cX7_join 71 = .ok (.invokevirtual 160, 3) := by decide +kernel
theorem dX7_join_74 : decode cX7_join 74 = .ok (.ifCond .ne 7, 3) := by decide +kernel
theorem dX7_join_77 : decode cX7_join 77 = .ok (.sipush (-1004), 3) := by decide +kernel
theorem dX7_join_80 : decode cX7_join 80 = .ok (.ireturn, 1) := by decide +kernel
theorem dX7_join_81 : decode cX7_join 81 = .ok (.iinc 4 1, 3) := by decide +kernel
theorem dX7_join_84 : decode cX7_join 84 = .ok (.goto (-43), 3) := by decide +kernel
theorem dX7_join_87 : decode cX7_join 87 = .ok (.aload_n 0, 1) := by decide +kernel
theorem dX7_join_88 : decode cX7_join 88 = .ok (.iload_n 1, 1) := by decide +kernel
theorem dX7_join_89 : decode cX7_join 89 = .ok (.invokevirtual 163, 3) := by decide +kernel
theorem dX7_join_92 : decode cX7_join 92 = .ok (.ireturn, 1) := by decide +kernel
theorem dX7_shorten_0 : decode cX7_shorten 0 = .ok (.iload_n 1, 1) := by decide +kernel
theorem dX7_shorten_1 : decode cX7_shorten 1 = .ok (.invokestatic 111, 3) := by decide +kernel
theorem dX7_shorten_4 : decode cX7_shorten 4 = .ok (.ifCond .eq 10, 3) := by decide +kernel
theorem dX7_shorten_7 : decode cX7_shorten 7 = .ok (.iload_n 2, 1) := by decide +kernel
theorem dX7_shorten_8 : decode cX7_shorten 8 = .ok (.invokestatic 111, 3) := by decide +kernel
theorem dX7_shorten_11 : decode cX7_shorten 11 = .ok (.ifCond .ne 7, 3) := by decide +kernel
theorem dX7_shorten_14 : decode cX7_shorten 14 = .ok (.sipush (-1001), 3) := by decide +kernel
theorem dX7_shorten_17 : decode cX7_shorten 17 = .ok (.ireturn, 1) := by decide +kernel
theorem dX7_shorten_18 : decode cX7_shorten 18 = .ok (.aload_n 0, 1) := by decide +kernel
theorem dX7_shorten_19 : decode cX7_shorten 19 = .ok (.iload_n 3, 1) := by decide +kernel
theorem dX7_shorten_20 : decode cX7_shorten 20 = .ok (.invokevirtual 170, 3) := by decide +kernel
theorem dX7_shorten_23 : decode cX7_shorten 23 = .ok (.ifCond .ne 7, 3) := by decide +kernel
theorem dX7_shorten_26 : decode cX7_shorten 26 = .ok (.sipush (-1002), 3) := by decide +kernel
theorem dX7_shorten_29 : decode cX7_shorten 29 = .ok (.ireturn, 1) := by decide +kernel
theorem dX7_shorten_30 : decode cX7_shorten 30 = .ok (.iconst 1, 1) := by decide +kernel
theorem dX7_shorten_31 : decode cX7_shorten 31 = .ok (.iload_n 3, 1) := by decide +kernel
theorem dX7_shorten_32 : decode cX7_shorten 32 = .ok (.ishl, 1) := by decide +kernel
theorem dX7_shorten_33 : decode cX7_shorten 33 = .ok (.iconst 1, 1) := by decide +kernel
theorem dX7_shorten_34 : decode cX7_shorten 34 = .ok (.isub, 1) := by decide +kernel
theorem dX7_shorten_35 : decode cX7_shorten 35 = .ok (.istore 4, 2) := by decide +kernel
theorem dX7_shorten_37 : decode cX7_shorten 37 = .ok (.aload_n 0, 1) := by decide +kernel
theorem dX7_shorten_38 : decode cX7_shorten 38 = .ok (.getfield 23, 3) := by decide +kernel
theorem dX7_shorten_41 : decode cX7_shorten 41 = .ok (.invokevirtual 66, 3) := by decide +kernel
theorem dX7_shorten_44 : decode cX7_shorten 44 = .ok (.iconst 0, 1) := by decide +kernel
theorem dX7_shorten_45 : decode cX7_shorten 45 = .ok (.istore 5, 2) := by decide +kernel
theorem dX7_shorten_47 : decode cX7_shorten 47 = .ok (.iload 5, 2) := by decide +kernel
theorem dX7_shorten_49 : decode cX7_shorten 49 = .ok (.aload_n 0, 1) := by decide +kernel
theorem dX7_shorten_50 : decode cX7_shorten 50 = .ok (.getfield 18, 3) := by decide +kernel
theorem dX7_shorten_53 : decode cX7_shorten 53 = .ok (.iload_n 2, 1) := by decide +kernel
theorem dX7_shorten_54 : decode cX7_shorten 54 = .ok (.aaload, 1) := by decide +kernel
theorem dX7_shorten_55 : decode cX7_shorten 55 = .ok (.getfield 120, 3) := by decide +kernel
theorem dX7_shorten_58 : decode cX7_shorten 58 = .ok (.if_icmp .ge 46, 3) := by decide +kernel
theorem dX7_shorten_61 : decode cX7_shorten 61 = .ok (.aload_n 0, 1) := by decide +kernel
theorem dX7_shorten_62 : decode cX7_shorten 62 = .ok (.getfield 18, 3) := by decide +kernel
theorem dX7_shorten_65 : decode cX7_shorten 65 = .ok (.iload_n 2, 1) := by decide +kernel
theorem dX7_shorten_66 : decode cX7_shorten 66 = .ok (.aaload, 1) := by decide +kernel
theorem dX7_shorten_67 : decode cX7_shorten 67 = .ok (.getfield 130, 3) := by decide +kernel
theorem dX7_shorten_70 : decode cX7_shorten 70 = .ok (.iload 5, 2) := by decide +kernel
theorem dX7_shorten_72 : decode cX7_shorten 72 = .ok (.iaload, 1) := by decide +kernel
theorem dX7_shorten_73 : decode cX7_shorten 73 = .ok (.istore 6, 2) := by decide +kernel
theorem dX7_shorten_75 : decode cX7_shorten 75 = .ok (.aload_n 0, 1) := by decide +kernel
theorem dX7_shorten_76 : decode cX7_shorten 76 = .ok (.getfield 23, 3) := by decide +kernel
theorem dX7_shorten_79 : decode cX7_shorten 79 = .ok (.iload 6, 2) := by decide +kernel
theorem dX7_shorten_81 : decode cX7_shorten 81 = .ok (.iload 4, 2) := by decide +kernel
theorem dX7_shorten_83 : decode cX7_shorten 83 = .ok (.iand, 1) := by decide +kernel
theorem dX7_shorten_84 : decode cX7_shorten 84 = .ok (.iload 6, 2) := by decide +kernel
theorem dX7_shorten_86 : decode cX7_shorten 86 = .ok (.iconst 1, 1) := by decide +kernel
theorem dX7_shorten_87 : decode cX7_shorten 87 = .ok (.ishr, 1) := by decide +kernel
theorem dX7_shorten_88 : decode cX7_shorten 88 = .ok (.iload 4, 2) := by decide +kernel
theorem dX7_shorten_90 : decode cX7_shorten 90 = .ok (.iconst (-1), 1) := by decide +kernel
theorem dX7_shorten_91 : decode cX7_shorten 91 = .ok (.ixor, 1) := by decide +kernel
theorem dX7_shorten_92 : decode cX7_shorten 92 = .ok (.iand, 1) := by decide +kernel
theorem dX7_shorten_93 : decode cX7_shorten 93 = .ok (.ior, 1) := by decide +kernel
theorem dX7_shorten_94 : decode cX7_shorten 94 = .ok (.invokevirtual 160, 3) := by decide +kernel
theorem dX7_shorten_97 : decode cX7_shorten 97 = .ok (.pop, 1) := by decide +kernel
theorem dX7_shorten_98 : decode cX7_shorten 98 = .ok (.iinc 5 1, 3) := by decide +kernel
theorem dX7_shorten_101 : decode cX7_shorten 101 = .ok (.goto (-54), 3) := by decide +kernel
theorem dX7_shorten_104 : decode cX7_shorten 104 = .ok (.aload_n 0, 1) := by decide +kernel
theorem dX7_shorten_105 : decode cX7_shorten 105 = .ok (.iload_n 1, 1) := by decide +kernel
theorem dX7_shorten_106 : decode cX7_shorten 106 = .ok (.invokevirtual 163, 3) := by decide +kernel
theorem dX7_shorten_109 : decode cX7_shorten 109 = .ok (.ireturn, 1) := by decide +kernel
theorem dX7_turn_0 : decode cX7_turn 0 = .ok (.iload_n 1, 1) := by decide +kernel
theorem dX7_turn_1 : decode cX7_turn 1 = .ok (.invokestatic 111, 3) := by decide +kernel
theorem dX7_turn_4 : decode cX7_turn 4 = .ok (.ifCond .eq 10, 3) := by decide +kernel
theorem dX7_turn_7 : decode cX7_turn 7 = .ok (.iload_n 2, 1) := by decide +kernel
theorem dX7_turn_8 : decode cX7_turn 8 = .ok (.invokestatic 111, 3) := by decide +kernel
theorem dX7_turn_11 : decode cX7_turn 11 = .ok (.ifCond .ne 7, 3) := by decide +kernel
theorem dX7_turn_14 : decode cX7_turn 14 = .ok (.sipush (-1001), 3) := by decide +kernel
theorem dX7_turn_17 : decode cX7_turn 17 = .ok (.ireturn, 1) := by decide +kernel
theorem dX7_turn_18 : decode cX7_turn 18 = .ok (.aload_n 0, 1) := by decide +kernel
theorem dX7_turn_19 : decode cX7_turn 19 = .ok (.getfield 23, 3) := by decide +kernel
theorem dX7_turn_22 : decode cX7_turn 22 = .ok (.invokevirtual 66, 3) := by decide +kernel
theorem dX7_turn_25 : decode cX7_turn 25 = .ok (.iconst 0, 1) := by decide +kernel
theorem dX7_turn_26 : decode cX7_turn 26 = .ok (.istore_n 3, 1) := by decide +kernel
theorem dX7_turn_27 : decode cX7_turn 27 = .ok (.iload_n 3, 1) := by decide +kernel
theorem dX7_turn_28 : decode cX7_turn 28 = .ok (.aload_n 0, 1) := by decide +kernel
theorem dX7_turn_29 : decode cX7_turn 29 = .ok (.getfield 18, 3) := by decide +kernel
theorem dX7_turn_32 : decode cX7_turn 32 = .ok (.iload_n 2, 1) := by decide +kernel
theorem dX7_turn_33 : decode cX7_turn 33 = .ok (.aaload, 1) := by decide +kernel
theorem dX7_turn_34 : decode cX7_turn 34 = .ok (.getfield 120, 3) := by decide +kernel
theorem dX7_turn_37 : decode cX7_turn 37 = .ok (.if_icmp .ge 35, 3) := by decide +kernel
theorem dX7_turn_40 : decode cX7_turn 40 = .ok (.aload_n 0, 1) := by decide +kernel
theorem dX7_turn_41 : decode cX7_turn 41 = .ok (.getfield 23, 3) := by decide +kernel
theorem dX7_turn_44 : decode cX7_turn 44 = .ok (.aload_n 0, 1) := by decide +kernel
theorem dX7_turn_45 : decode cX7_turn 45 = .ok (.getfield 12, 3) := by decide +kernel
theorem dX7_turn_48 : decode cX7_turn 48 = .ok (.aload_n 0, 1) := by decide +kernel
theorem dX7_turn_49 : decode cX7_turn 49 = .ok (.getfield 18, 3) := by decide +kernel
theorem dX7_turn_52 : decode cX7_turn 52 = .ok (.iload_n 2, 1) := by decide +kernel
theorem dX7_turn_53 : decode cX7_turn 53 = .ok (.aaload, 1) := by decide +kernel
theorem dX7_turn_54 : decode cX7_turn 54 = .ok (.getfield 130, 3) := by decide +kernel
theorem dX7_turn_57 : decode cX7_turn 57 = .ok (.iload_n 3, 1) := by decide +kernel
theorem dX7_turn_58 : decode cX7_turn 58 = .ok (.iaload, 1) := by decide +kernel
theorem dX7_turn_59 : decode cX7_turn 59 = .ok (.invokevirtual 90, 3) := by decide +kernel
theorem dX7_turn_62 : decode cX7_turn 62 = .ok (.invokevirtual 160, 3) := by decide +kernel
theorem dX7_turn_65 : decode cX7_turn 65 = .ok (.pop, 1) := by decide +kernel
theorem dX7_turn_66 : decode cX7_turn 66 = .ok (.iinc 3 1, 3) := by decide +kernel
theorem dX7_turn_69 : decode cX7_turn 69 = .ok (.goto (-42), 3) := by decide +kernel
theorem dX7_turn_72 : decode cX7_turn 72 = .ok (.aload_n 0, 1) := by decide +kernel
theorem dX7_turn_73 : decode cX7_turn 73 = .ok (.iload_n 1, 1) := by decide +kernel
theorem dX7_turn_74 : decode cX7_turn 74 = .ok (.invokevirtual 163, 3) := by decide +kernel
theorem dX7_turn_77 : decode cX7_turn 77 = .ok (.ireturn, 1) := by decide +kernel
theorem dX7_even_0 : decode cX7_even 0 = .ok (.iload_n 1, 1) := by decide +kernel
theorem dX7_even_1 : decode cX7_even 1 = .ok (.invokestatic 111, 3) := by decide +kernel
theorem dX7_even_4 : decode cX7_even 4 = .ok (.ifCond .eq 10, 3) := by decide +kernel
theorem dX7_even_7 : decode cX7_even 7 = .ok (.iload_n 2, 1) := by decide +kernel
theorem dX7_even_8 : decode cX7_even 8 = .ok (.invokestatic 111, 3) := by decide +kernel
theorem dX7_even_11 : decode cX7_even 11 = .ok (.ifCond .ne 7, 3) := by decide +kernel
theorem dX7_even_14 : decode cX7_even 14 = .ok (.sipush (-1001), 3) := by decide +kernel
theorem dX7_even_17 : decode cX7_even 17 = .ok (.ireturn, 1) := by decide +kernel
theorem dX7_even_18 : decode cX7_even 18 = .ok (.aload_n 0, 1) := by decide +kernel
theorem dX7_even_19 : decode cX7_even 19 = .ok (.iload_n 3, 1) := by decide +kernel
theorem dX7_even_20 : decode cX7_even 20 = .ok (.invokevirtual 170, 3) := by decide +kernel
theorem dX7_even_23 : decode cX7_even 23 = .ok (.ifCond .ne 7, 3) := by decide +kernel
theorem dX7_even_26 : decode cX7_even 26 = .ok (.sipush (-1002), 3) := by decide +kernel
theorem dX7_even_29 : decode cX7_even 29 = .ok (.ireturn, 1) := by decide +kernel
theorem dX7_even_30 : decode cX7_even 30 = .ok (.aload_n 0, 1) := by decide +kernel
theorem dX7_even_31 : decode cX7_even 31 = .ok (.getfield 23, 3) := by decide +kernel
theorem dX7_even_34 : decode cX7_even 34 = .ok (.invokevirtual 66, 3) := by decide +kernel
theorem dX7_even_37 : decode cX7_even 37 = .ok (.iconst 0, 1) := by decide +kernel
theorem dX7_even_38 : decode cX7_even 38 = .ok (.istore 4, 2) := by decide +kernel
theorem dX7_even_40 : decode cX7_even 40 = .ok (.iload 4, 2) := by decide +kernel
theorem dX7_even_42 : decode cX7_even 42 = .ok (.aload_n 0, 1) := by decide +kernel
theorem dX7_even_43 : decode cX7_even 43 = .ok (.getfield 18, 3) := by decide +kernel
theorem dX7_even_46 : decode cX7_even 46 = .ok (.iload_n 2, 1) := by decide +kernel
theorem dX7_even_47 : decode cX7_even 47 = .ok (.aaload, 1) := by decide +kernel
theorem dX7_even_48 : decode cX7_even 48 = .ok (.getfield 120, 3) := by decide +kernel
theorem dX7_even_51 : decode cX7_even 51 = .ok (.if_icmp .ge 49, 3) := by decide +kernel
theorem dX7_even_54 : decode cX7_even 54 = .ok (.aload_n 0, 1) := by decide +kernel
theorem dX7_even_55 : decode cX7_even 55 = .ok (.getfield 18, 3) := by decide +kernel
theorem dX7_even_58 : decode cX7_even 58 = .ok (.iload_n 2, 1) := by decide +kernel
theorem dX7_even_59 : decode cX7_even 59 = .ok (.aaload, 1) := by decide +kernel
theorem dX7_even_60 : decode cX7_even 60 = .ok (.getfield 130, 3) := by decide +kernel
theorem dX7_even_63 : decode cX7_even 63 = .ok (.iload 4, 2) := by decide +kernel
theorem dX7_even_65 : decode cX7_even 65 = .ok (.iaload, 1) := by decide +kernel
theorem dX7_even_66 : decode cX7_even 66 = .ok (.iconst 1, 1) := by decide +kernel
theorem dX7_even_67 : decode cX7_even 67 = .ok (.iload_n 3, 1) := by decide +kernel
theorem dX7_even_68 : decode cX7_even 68 = .ok (.ishl, 1) := by decide +kernel
theorem dX7_even_69 : decode cX7_even 69 = .ok (.iconst (-1), 1) := by decide +kernel
theorem dX7_even_70 : decode cX7_even 70 = .ok (.ixor, 1) := by decide +kernel
theorem dX7_even_71 : decode cX7_even 71 = .ok (.iand, 1) := by decide +kernel
theorem dX7_even_72 : decode cX7_even 72 = .ok (.istore 5, 2) := by decide +kernel
theorem dX7_even_74 : decode cX7_even 74 = .ok (.aload_n 0, 1) := by decide +kernel
theorem dX7_even_75 : decode cX7_even 75 = .ok (.getfield 23, 3) := by decide +kernel
theorem dX7_even_78 : decode cX7_even 78 = .ok (.iload 5, 2) := by decide +kernel
theorem dX7_even_80 : decode cX7_even 80 = .ok (.iload 5, 2) := by decide +kernel
theorem dX7_even_82 : decode cX7_even 82 = .ok (.invokestatic 173, 3) := by decide +kernel
theorem dX7_even_85 : decode cX7_even 85 = .ok (.iconst 1, 1) := by decide +kernel
theorem dX7_even_86 : decode cX7_even 86 = .ok (.iand, 1) := by decide +kernel
theorem dX7_even_87 : decode cX7_even 87 = .ok (.iload_n 3, 1) := by decide +kernel
theorem dX7_even_88 : decode cX7_even 88 = .ok (.ishl, 1) := by decide +kernel
theorem dX7_even_89 : decode cX7_even 89 = .ok (.ior, 1) := by decide +kernel
theorem dX7_even_90 : decode cX7_even 90 = .ok (.invokevirtual 160, 3) := by decide +kernel
theorem dX7_even_93 : decode cX7_even 93 = .ok (.pop, 1) := by decide +kernel
theorem dX7_even_94 : decode cX7_even 94 = .ok (.iinc 4 1, 3) := by decide +kernel
theorem dX7_even_97 : decode cX7_even 97 = .ok (.goto (-57), 3) := by decide +kernel
theorem dX7_even_100 : decode cX7_even 100 = .ok (.aload_n 0, 1) := by decide +kernel
theorem dX7_even_101 : decode cX7_even 101 = .ok (.iload_n 1, 1) := by decide +kernel
theorem dX7_even_102 : decode cX7_even 102 = .ok (.invokevirtual 163, 3) := by decide +kernel
theorem dX7_even_105 : decode cX7_even 105 = .ok (.ireturn, 1) := by decide +kernel
theorem dX7_feed_0 : decode cX7_feed 0 = .ok (.iload_n 1, 1) := by decide +kernel
theorem dX7_feed_1 : decode cX7_feed 1 = .ok (.iconst 1, 1) := by decide +kernel
theorem dX7_feed_2 : decode cX7_feed 2 = .ok (.bipush 8, 2) := by decide +kernel
theorem dX7_feed_4 : decode cX7_feed 4 = .ok (.invokestatic 73, 3) := by decide +kernel
theorem dX7_feed_7 : decode cX7_feed 7 = .ok (.ifCond .ne 7, 3) := by decide +kernel
theorem dX7_feed_10 : decode cX7_feed 10 = .ok (.sipush (-1002), 3) := by decide +kernel
theorem dX7_feed_13 : decode cX7_feed 13 = .ok (.ireturn, 1) := by decide +kernel
theorem dX7_feed_14 : decode cX7_feed 14 = .ok (.aload_n 0, 1) := by decide +kernel
theorem dX7_feed_15 : decode cX7_feed 15 = .ok (.getfield 37, 3) := by decide +kernel
theorem dX7_feed_18 : decode cX7_feed 18 = .ok (.iload_n 1, 1) := by decide +kernel
theorem dX7_feed_19 : decode cX7_feed 19 = .ok (.lload_n 2, 1) := by decide +kernel
theorem dX7_feed_20 : decode cX7_feed 20 = .ok (.invokevirtual 178, 3) := by decide +kernel
theorem dX7_feed_23 : decode cX7_feed 23 = .ok (.ifCond .eq 13, 3) := by decide +kernel
theorem dX7_feed_26 : decode cX7_feed 26 = .ok (.aload_n 0, 1) := by decide +kernel
theorem dX7_feed_27 : decode cX7_feed 27 = .ok (.getfield 37, 3) := by decide +kernel
theorem dX7_feed_30 : decode cX7_feed 30 = .ok (.getfield 182, 3) := by decide +kernel
theorem dX7_feed_33 : decode cX7_feed 33 = .ok (.goto 6, 3) := by decide +kernel
theorem dX7_feed_36 : decode cX7_feed 36 = .ok (.sipush (-1004), 3) := by decide +kernel
theorem dX7_feed_39 : decode cX7_feed 39 = .ok (.ireturn, 1) := by decide +kernel
theorem dX7_read_0 : decode cX7_read 0 = .ok (.iload_n 1, 1) := by decide +kernel
theorem dX7_read_1 : decode cX7_read 1 = .ok (.invokestatic 111, 3) := by decide +kernel
theorem dX7_read_4 : decode cX7_read 4 = .ok (.ifCond .ne 7, 3) := by decide +kernel
theorem dX7_read_7 : decode cX7_read 7 = .ok (.sipush (-1001), 3) := by decide +kernel
theorem dX7_read_10 : decode cX7_read 10 = .ok (.ireturn, 1) := by decide +kernel
theorem dX7_read_11 : decode cX7_read 11 = .ok (.aload_n 0, 1) := by decide +kernel
theorem dX7_read_12 : decode cX7_read 12 = .ok (.getfield 44, 3) := by decide +kernel
theorem dX7_read_15 : decode cX7_read 15 = .ok (.aload_n 0, 1) := by decide +kernel
theorem dX7_read_16 : decode cX7_read 16 = .ok (.getfield 37, 3) := by decide +kernel
theorem dX7_read_19 : decode cX7_read 19 = .ok (.invokevirtual 185, 3) := by decide +kernel
theorem dX7_read_22 : decode cX7_read 22 = .ok (.aload_n 0, 1) := by decide +kernel
theorem dX7_read_23 : decode cX7_read 23 = .ok (.getfield 37, 3) := by decide +kernel
theorem dX7_read_26 : decode cX7_read 26 = .ok (.iconst 0, 1) := by decide +kernel
theorem dX7_read_27 : decode cX7_read 27 = .ok (.putfield 182, 3) := by decide +kernel
theorem dX7_read_30 : decode cX7_read 30 = .ok (.aload_n 0, 1) := by decide +kernel
theorem dX7_read_31 : decode cX7_read 31 = .ok (.getfield 44, 3) := by decide +kernel
theorem dX7_read_34 : decode cX7_read 34 = .ok (.getfield 189, 3) := by decide +kernel
theorem dX7_read_37 : decode cX7_read 37 = .ok (.ifCond .eq 14, 3) := by decide +kernel
theorem dX7_read_40 : decode cX7_read 40 = .ok (.bipush (-10), 2) := by decide +kernel
theorem dX7_read_42 : decode cX7_read 42 = .ok (.aload_n 0, 1) := by decide +kernel
theorem dX7_read_43 : decode cX7_read 43 = .ok (.getfield 44, 3) := by decide +kernel
theorem dX7_read_46 : decode cX7_read 46 = .ok (.getfield 189, 3) := by decide +kernel
theorem dX7_read_49 : decode cX7_read 49 = .ok (.isub, 1) := by decide +kernel
theorem dX7_read_50 : decode cX7_read 50 = .ok (.ireturn, 1) := by decide +kernel
theorem dX7_read_51 : decode cX7_read 51 = .ok (.aload_n 0, 1) := by decide +kernel
theorem dX7_read_52 : decode cX7_read 52 = .ok (.getfield 23, 3) := by decide +kernel
theorem dX7_read_55 : decode cX7_read 55 = .ok (.invokevirtual 66, 3) := by decide +kernel
theorem dX7_read_58 : decode cX7_read 58 = .ok (.iconst 0, 1) := by decide +kernel
theorem dX7_read_59 : decode cX7_read 59 = .ok (.istore_n 2, 1) := by decide +kernel
theorem dX7_read_60 : decode cX7_read 60 = .ok (.iload_n 2, 1) := by decide +kernel
theorem dX7_read_61 : decode cX7_read 61 = .ok (.aload_n 0, 1) := by decide +kernel
theorem dX7_read_62 : decode cX7_read 62 = .ok (.getfield 12, 3) := by decide +kernel
theorem dX7_read_65 : decode cX7_read 65 = .ok (.invokevirtual 142, 3) := by decide +kernel
theorem dX7_read_68 : decode cX7_read 68 = .ok (.if_icmp .gt 43, 3) := by decide +kernel
theorem dX7_read_71 : decode cX7_read 71 = .ok (.aload_n 0, 1) := by decide +kernel
theorem dX7_read_72 : decode cX7_read 72 = .ok (.getfield 44, 3) := by decide +kernel
theorem dX7_read_75 : decode cX7_read 75 = .ok (.iload_n 2, 1) := by decide +kernel
theorem dX7_read_76 : decode cX7_read 76 = .ok (.aload_n 0, 1) := by decide +kernel
theorem dX7_read_77 : decode cX7_read 77 = .ok (.getfield 12, 3) := by decide +kernel
theorem dX7_read_80 : decode cX7_read 80 = .ok (.aload_n 0, 1) := by decide +kernel
theorem dX7_read_81 : decode cX7_read 81 = .ok (.getfield 18, 3) := by decide +kernel
theorem dX7_read_84 : decode cX7_read 84 = .ok (.invokevirtual 192, 3) := by decide +kernel
theorem dX7_read_87 : decode cX7_read 87 = .ok (.ifCond .eq 18, 3) := by decide +kernel
theorem dX7_read_90 : decode cX7_read 90 = .ok (.aload_n 0, 1) := by decide +kernel
theorem dX7_read_91 : decode cX7_read 91 = .ok (.getfield 23, 3) := by decide +kernel
theorem dX7_read_94 : decode cX7_read 94 = .ok (.iload_n 2, 1) := by decide +kernel
theorem dX7_read_95 : decode cX7_read 95 = .ok (.invokevirtual 117, 3) := by decide +kernel
theorem dX7_read_98 : decode cX7_read 98 = .ok (.ifCond .ne 7, 3) := by decide +kernel
theorem dX7_read_101 : decode cX7_read 101 = .ok (.sipush (-1005), 3) := by decide +kernel
theorem dX7_read_104 : decode cX7_read 104 = .ok (.ireturn, 1) := by decide +kernel
theorem dX7_read_105 : decode cX7_read 105 = .ok (.iinc 2 1, 3) := by decide +kernel
theorem dX7_read_108 : decode cX7_read 108 = .ok (.goto (-48), 3) := by decide +kernel
theorem dX7_read_111 : decode cX7_read 111 = .ok (.aload_n 0, 1) := by decide +kernel
theorem dX7_read_112 : decode cX7_read 112 = .ok (.iload_n 1, 1) := by decide +kernel
theorem dX7_read_113 : decode cX7_read 113 = .ok (.invokevirtual 163, 3) := by decide +kernel
theorem dX7_read_116 : decode cX7_read 116 = .ok (.ireturn, 1) := by decide +kernel
theorem dX7_fault_0 : decode cX7_fault 0 = .ok (.aload_n 0, 1) := by decide +kernel
theorem dX7_fault_1 : decode cX7_fault 1 = .ok (.getfield 44, 3) := by decide +kernel
theorem dX7_fault_4 : decode cX7_fault 4 = .ok (.getfield 196, 3) := by decide +kernel
theorem dX7_fault_7 : decode cX7_fault 7 = .ok (.ireturn, 1) := by decide +kernel
theorem dX7_count_0 : decode cX7_count 0 = .ok (.iload_n 1, 1) := by decide +kernel
theorem dX7_count_1 : decode cX7_count 1 = .ok (.tableswitch 48 0 2 #[27, 32, 40], 27) := by decide +kernel
theorem dX7_count_28 : decode cX7_count 28 = .ok (.aload_n 0, 1) := by decide +kernel
theorem dX7_count_29 : decode cX7_count 29 = .ok (.invokevirtual 199, 3) := by decide +kernel
theorem dX7_count_32 : decode cX7_count 32 = .ok (.ireturn, 1) := by decide +kernel
theorem dX7_count_33 : decode cX7_count 33 = .ok (.aload_n 0, 1) := by decide +kernel
theorem dX7_count_34 : decode cX7_count 34 = .ok (.getfield 37, 3) := by decide +kernel
theorem dX7_count_37 : decode cX7_count 37 = .ok (.getfield 182, 3) := by decide +kernel
theorem dX7_count_40 : decode cX7_count 40 = .ok (.ireturn, 1) := by decide +kernel
theorem dX7_count_41 : decode cX7_count 41 = .ok (.aload_n 0, 1) := by decide +kernel
theorem dX7_count_42 : decode cX7_count 42 = .ok (.getfield 30, 3) := by decide +kernel
theorem dX7_count_45 : decode cX7_count 45 = .ok (.invokevirtual 202, 3) := by decide +kernel
theorem dX7_count_48 : decode cX7_count 48 = .ok (.ireturn, 1) := by decide +kernel
theorem dX7_count_49 : decode cX7_count 49 = .ok (.sipush (-1002), 3) := by decide +kernel
theorem dX7_count_52 : decode cX7_count 52 = .ok (.ireturn, 1) := by decide +kernel
theorem dX7_owner_0 : decode cX7_owner 0 = .ok (.iload_n 1, 1) := by decide +kernel
theorem dX7_owner_1 : decode cX7_owner 1 = .ok (.invokestatic 111, 3) := by decide +kernel
theorem dX7_owner_4 : decode cX7_owner 4 = .ok (.ifCond .ne 7, 3) := by decide +kernel
theorem dX7_owner_7 : decode cX7_owner 7 = .ok (.sipush (-1001), 3) := by decide +kernel
theorem dX7_owner_10 : decode cX7_owner 10 = .ok (.ireturn, 1) := by decide +kernel
theorem dX7_owner_11 : decode cX7_owner 11 = .ok (.aload_n 0, 1) := by decide +kernel
theorem dX7_owner_12 : decode cX7_owner 12 = .ok (.getfield 12, 3) := by decide +kernel
theorem dX7_owner_15 : decode cX7_owner 15 = .ok (.iload_n 2, 1) := by decide +kernel
theorem dX7_owner_16 : decode cX7_owner 16 = .ok (.iload_n 3, 1) := by decide +kernel
theorem dX7_owner_17 : decode cX7_owner 17 = .ok (.invokevirtual 94, 3) := by decide +kernel
theorem dX7_owner_20 : decode cX7_owner 20 = .ok (.ifCond .ne 7, 3) := by decide +kernel
theorem dX7_owner_23 : decode cX7_owner 23 = .ok (.sipush (-1002), 3) := by decide +kernel
theorem dX7_owner_26 : decode cX7_owner 26 = .ok (.ireturn, 1) := by decide +kernel
theorem dX7_owner_27 : decode cX7_owner 27 = .ok (.aload_n 0, 1) := by decide +kernel
theorem dX7_owner_28 : decode cX7_owner 28 = .ok (.getfield 18, 3) := by decide +kernel
theorem dX7_owner_31 : decode cX7_owner 31 = .ok (.iload_n 1, 1) := by decide +kernel
theorem dX7_owner_32 : decode cX7_owner 32 = .ok (.aaload, 1) := by decide +kernel
theorem dX7_owner_33 : decode cX7_owner 33 = .ok (.astore 5, 2) := by decide +kernel
theorem dX7_owner_35 : decode cX7_owner 35 = .ok (.iconst 0, 1) := by decide +kernel
theorem dX7_owner_36 : decode cX7_owner 36 = .ok (.istore 6, 2) := by decide +kernel
theorem dX7_owner_38 : decode cX7_owner 38 = .ok (.iconst 0, 1) := by decide +kernel
theorem dX7_owner_39 : decode cX7_owner 39 = .ok (.istore 7, 2) := by decide +kernel
theorem dX7_owner_41 : decode cX7_owner 41 = .ok (.iload 7, 2) := by decide +kernel
theorem dX7_owner_43 : decode cX7_owner 43 = .ok (.aload 5, 2) := by decide +kernel
theorem dX7_owner_45 : decode cX7_owner 45 = .ok (.getfield 120, 3) := by decide +kernel
theorem dX7_owner_48 : decode cX7_owner 48 = .ok (.if_icmp .ge 42, 3) := by decide +kernel
theorem dX7_owner_51 : decode cX7_owner 51 = .ok (.aload_n 0, 1) := by decide +kernel
theorem dX7_owner_52 : decode cX7_owner 52 = .ok (.getfield 12, 3) := by decide +kernel
theorem dX7_owner_55 : decode cX7_owner 55 = .ok (.aload 5, 2) := by decide +kernel
theorem dX7_owner_57 : decode cX7_owner 57 = .ok (.getfield 130, 3) := by decide +kernel
theorem dX7_owner_60 : decode cX7_owner 60 = .ok (.iload 7, 2) := by decide +kernel
theorem dX7_owner_62 : decode cX7_owner 62 = .ok (.iaload, 1) := by decide +kernel
theorem dX7_owner_63 : decode cX7_owner 63 = .ok (.iload_n 2, 1) := by decide +kernel
theorem dX7_owner_64 : decode cX7_owner 64 = .ok (.iload_n 3, 1) := by decide +kernel
theorem dX7_owner_65 : decode cX7_owner 65 = .ok (.invokevirtual 98, 3) := by decide +kernel
theorem dX7_owner_68 : decode cX7_owner 68 = .ok (.ifCond .eq 16, 3) := by decide +kernel
theorem dX7_owner_71 : decode cX7_owner 71 = .ok (.iload 6, 2) := by decide +kernel
theorem dX7_owner_73 : decode cX7_owner 73 = .ok (.iload 4, 2) := by decide +kernel
theorem dX7_owner_75 : decode cX7_owner 75 = .ok (.if_icmp .ne 6, 3) := by decide +kernel
theorem dX7_owner_78 : decode cX7_owner 78 = .ok (.iload 7, 2) := by decide +kernel
theorem dX7_owner_80 : decode cX7_owner 80 = .ok (.ireturn, 1) := by decide +kernel
theorem dX7_owner_81 : decode cX7_owner 81 = .ok (.iinc 6 1, 3) := by decide +kernel
theorem dX7_owner_84 : decode cX7_owner 84 = .ok (.iinc 7 1, 3) := by decide +kernel
theorem dX7_owner_87 : decode cX7_owner 87 = .ok (.goto (-46), 3) := by decide +kernel
theorem dX7_owner_90 : decode cX7_owner 90 = .ok (.iload 4, 2) := by decide +kernel
theorem dX7_owner_92 : decode cX7_owner 92 = .ok (.iconst (-1), 1) := by decide +kernel
theorem dX7_owner_93 : decode cX7_owner 93 = .ok (.if_icmp .ne 8, 3) := by decide +kernel
theorem dX7_owner_96 : decode cX7_owner 96 = .ok (.iload 6, 2) := by decide +kernel
theorem dX7_owner_98 : decode cX7_owner 98 = .ok (.goto 4, 3) := by decide +kernel
theorem dX7_owner_101 : decode cX7_owner 101 = .ok (.iconst (-1), 1) := by decide +kernel
theorem dX7_owner_102 : decode cX7_owner 102 = .ok (.ireturn, 1) := by decide +kernel
theorem dX7_look_0 : decode cX7_look 0 = .ok (.aload_n 0, 1) := by decide +kernel
theorem dX7_look_1 : decode cX7_look 1 = .ok (.iload_n 1, 1) := by decide +kernel
theorem dX7_look_2 : decode cX7_look 2 = .ok (.invokevirtual 170, 3) := by decide +kernel
theorem dX7_look_5 : decode cX7_look 5 = .ok (.ifCond .eq 13, 3) := by decide +kernel
theorem dX7_look_8 : decode cX7_look 8 = .ok (.iload_n 2, 1) := by decide +kernel
theorem dX7_look_9 : decode cX7_look 9 = .ok (.iconst (-1), 1) := by decide +kernel
theorem dX7_look_10 : decode cX7_look 10 = .ok (.bipush 9, 2) := by decide +kernel
theorem dX7_look_12 : decode cX7_look 12 = .ok (.invokestatic 73, 3) := by decide +kernel
theorem dX7_look_15 : decode cX7_look 15 = .ok (.ifCond .ne 7, 3) := by decide +kernel
theorem dX7_look_18 : decode cX7_look 18 = .ok (.sipush (-1002), 3) := by decide +kernel
theorem dX7_look_21 : decode cX7_look 21 = .ok (.ireturn, 1) := by decide +kernel
theorem dX7_look_22 : decode cX7_look 22 = .ok (.aload_n 0, 1) := by decide +kernel
theorem dX7_look_23 : decode cX7_look 23 = .ok (.getfield 30, 3) := by decide +kernel
theorem dX7_look_26 : decode cX7_look 26 = .ok (.getfield 205, 3) := by decide +kernel
theorem dX7_look_29 : decode cX7_look 29 = .ok (.iload_n 1, 1) := by decide +kernel
theorem dX7_look_30 : decode cX7_look 30 = .ok (.iaload, 1) := by decide +kernel
theorem dX7_look_31 : decode cX7_look 31 = .ok (.istore_n 3, 1) := by decide +kernel
theorem dX7_look_32 : decode cX7_look 32 = .ok (.aload_n 0, 1) := by decide +kernel
theorem dX7_look_33 : decode cX7_look 33 = .ok (.getfield 30, 3) := by decide +kernel
theorem dX7_look_36 : decode cX7_look 36 = .ok (.getfield 205, 3) := by decide +kernel
theorem dX7_look_39 : decode cX7_look 39 = .ok (.iload_n 1, 1) := by decide +kernel
theorem dX7_look_40 : decode cX7_look 40 = .ok (.iload_n 2, 1) := by decide +kernel
theorem dX7_look_41 : decode cX7_look 41 = .ok (.iastore, 1) := by decide +kernel
theorem dX7_look_42 : decode cX7_look 42 = .ok (.iload_n 3, 1) := by decide +kernel
theorem dX7_look_43 : decode cX7_look 43 = .ok (.ireturn, 1) := by decide +kernel
theorem dX7_chance_0 : decode cX7_chance 0 = .ok (.aload_n 0, 1) := by decide +kernel
theorem dX7_chance_1 : decode cX7_chance 1 = .ok (.iload_n 1, 1) := by decide +kernel
theorem dX7_chance_2 : decode cX7_chance 2 = .ok (.iload_n 2, 1) := by decide +kernel
theorem dX7_chance_3 : decode cX7_chance 3 = .ok (.invokevirtual 123, 3) := by decide +kernel
theorem dX7_chance_6 : decode cX7_chance 6 = .ok (.ifCond .eq 24, 3) := by decide +kernel
theorem dX7_chance_9 : decode cX7_chance 9 = .ok (.aload_n 0, 1) := by decide +kernel
theorem dX7_chance_10 : decode cX7_chance 10 = .ok (.getfield 30, 3) := by decide +kernel
theorem dX7_chance_13 : decode cX7_chance 13 = .ok (.aload_n 0, 1) := by decide +kernel
theorem dX7_chance_14 : decode cX7_chance 14 = .ok (.getfield 18, 3) := by decide +kernel
theorem dX7_chance_17 : decode cX7_chance 17 = .ok (.iload_n 1, 1) := by decide +kernel
theorem dX7_chance_18 : decode cX7_chance 18 = .ok (.aaload, 1) := by decide +kernel
theorem dX7_chance_19 : decode cX7_chance 19 = .ok (.getfield 130, 3) := by decide +kernel
theorem dX7_chance_22 : decode cX7_chance 22 = .ok (.iload_n 2, 1) := by decide +kernel
theorem dX7_chance_23 : decode cX7_chance 23 = .ok (.iaload, 1) := by decide +kernel
theorem dX7_chance_24 : decode cX7_chance 24 = .ok (.invokevirtual 208, 3) := by decide +kernel
theorem dX7_chance_27 : decode cX7_chance 27 = .ok (.goto 6, 3) := by decide +kernel
theorem dX7_chance_30 : decode cX7_chance 30 = .ok (.ldc2_w 212, 3) := by decide +kernel
theorem dX7_chance_33 : decode cX7_chance 33 = .ok (.lreturn, 1) := by decide +kernel
theorem dX7_likely_0 : decode cX7_likely 0 = .ok (.iload_n 1, 1) := by decide +kernel
theorem dX7_likely_1 : decode cX7_likely 1 = .ok (.invokestatic 111, 3) := by decide +kernel
theorem dX7_likely_4 : decode cX7_likely 4 = .ok (.ifCond .ne 7, 3) := by decide +kernel
theorem dX7_likely_7 : decode cX7_likely 7 = .ok (.sipush (-1001), 3) := by decide +kernel
theorem dX7_likely_10 : decode cX7_likely 10 = .ok (.ireturn, 1) := by decide +kernel
theorem dX7_likely_11 : decode cX7_likely 11 = .ok (.aload_n 0, 1) := by decide +kernel
theorem dX7_likely_12 : decode cX7_likely 12 = .ok (.getfield 30, 3) := by decide +kernel
theorem dX7_likely_15 : decode cX7_likely 15 = .ok (.aload_n 0, 1) := by decide +kernel
theorem dX7_likely_16 : decode cX7_likely 16 = .ok (.getfield 18, 3) := by decide +kernel
theorem dX7_likely_19 : decode cX7_likely 19 = .ok (.iload_n 1, 1) := by decide +kernel
theorem dX7_likely_20 : decode cX7_likely 20 = .ok (.aaload, 1) := by decide +kernel
theorem dX7_likely_21 : decode cX7_likely 21 = .ok (.invokevirtual 214, 3) := by decide +kernel
theorem dX7_likely_24 : decode cX7_likely 24 = .ok (.iload_n 2, 1) := by decide +kernel
theorem dX7_likely_25 : decode cX7_likely 25 = .ok (.iconst (-1), 1) := by decide +kernel
theorem dX7_likely_26 : decode cX7_likely 26 = .ok (.if_icmp .ne 13, 3) := by decide +kernel
theorem dX7_likely_29 : decode cX7_likely 29 = .ok (.aload_n 0, 1) := by decide +kernel
theorem dX7_likely_30 : decode cX7_likely 30 = .ok (.getfield 30, 3) := by decide +kernel
theorem dX7_likely_33 : decode cX7_likely 33 = .ok (.invokevirtual 217, 3) := by decide +kernel
theorem dX7_likely_36 : decode cX7_likely 36 = .ok (.goto 11, 3) := by decide +kernel
theorem dX7_likely_39 : decode cX7_likely 39 = .ok (.aload_n 0, 1) := by decide +kernel
theorem dX7_likely_40 : decode cX7_likely 40 = .ok (.getfield 30, 3) := by decide +kernel
theorem dX7_likely_43 : decode cX7_likely 43 = .ok (.iload_n 2, 1) := by decide +kernel
theorem dX7_likely_44 : decode cX7_likely 44 = .ok (.invokevirtual 220, 3) := by decide +kernel
theorem dX7_likely_47 : decode cX7_likely 47 = .ok (.ireturn, 1) := by decide +kernel
theorem dX7_heap_0 : decode cX7_heap 0 = .ok (.iload_n 1, 1) := by decide +kernel
theorem dX7_heap_1 : decode cX7_heap 1 = .ok (.invokestatic 111, 3) := by decide +kernel
theorem dX7_heap_4 : decode cX7_heap 4 = .ok (.ifCond .ne 7, 3) := by decide +kernel
theorem dX7_heap_7 : decode cX7_heap 7 = .ok (.sipush (-1001), 3) := by decide +kernel
theorem dX7_heap_10 : decode cX7_heap 10 = .ok (.ireturn, 1) := by decide +kernel
theorem dX7_heap_11 : decode cX7_heap 11 = .ok (.aload_n 0, 1) := by decide +kernel
theorem dX7_heap_12 : decode cX7_heap 12 = .ok (.getfield 12, 3) := by decide +kernel
theorem dX7_heap_15 : decode cX7_heap 15 = .ok (.iload_n 2, 1) := by decide +kernel
theorem dX7_heap_16 : decode cX7_heap 16 = .ok (.invokevirtual 86, 3) := by decide +kernel
theorem dX7_heap_19 : decode cX7_heap 19 = .ok (.ifCond .eq 22, 3) := by decide +kernel
theorem dX7_heap_22 : decode cX7_heap 22 = .ok (.iload_n 3, 1) := by decide +kernel
theorem dX7_heap_23 : decode cX7_heap 23 = .ok (.iconst 1, 1) := by decide +kernel
theorem dX7_heap_24 : decode cX7_heap 24 = .ok (.iconst 3, 1) := by decide +kernel
theorem dX7_heap_25 : decode cX7_heap 25 = .ok (.invokestatic 73, 3) := by decide +kernel
theorem dX7_heap_28 : decode cX7_heap 28 = .ok (.ifCond .eq 13, 3) := by decide +kernel
theorem dX7_heap_31 : decode cX7_heap 31 = .ok (.iload 4, 2) := by decide +kernel
theorem dX7_heap_33 : decode cX7_heap 33 = .ok (.iconst (-1), 1) := by decide +kernel
theorem dX7_heap_34 : decode cX7_heap 34 = .ok (.iconst 3, 1) := by decide +kernel
theorem dX7_heap_35 : decode cX7_heap 35 = .ok (.invokestatic 73, 3) := by decide +kernel
theorem dX7_heap_38 : decode cX7_heap 38 = .ok (.ifCond .ne 7, 3) := by decide +kernel
theorem dX7_heap_41 : decode cX7_heap 41 = .ok (.sipush (-1002), 3) := by decide +kernel
theorem dX7_heap_44 : decode cX7_heap 44 = .ok (.ireturn, 1) := by decide +kernel
theorem dX7_heap_45 : decode cX7_heap 45 = .ok (.aload_n 0, 1) := by decide +kernel
theorem dX7_heap_46 : decode cX7_heap 46 = .ok (.getfield 18, 3) := by decide +kernel
theorem dX7_heap_49 : decode cX7_heap 49 = .ok (.iload_n 1, 1) := by decide +kernel
theorem dX7_heap_50 : decode cX7_heap 50 = .ok (.aaload, 1) := by decide +kernel
theorem dX7_heap_51 : decode cX7_heap 51 = .ok (.astore 5, 2) := by decide +kernel
theorem dX7_heap_53 : decode cX7_heap 53 = .ok (.aload_n 0, 1) := by decide +kernel
theorem dX7_heap_54 : decode cX7_heap 54 = .ok (.getfield 58, 3) := by decide +kernel
theorem dX7_heap_57 : decode cX7_heap 57 = .ok (.iload_n 2, 1) := by decide +kernel
theorem dX7_heap_58 : decode cX7_heap 58 = .ok (.invokevirtual 223, 3) := by decide +kernel
theorem dX7_heap_61 : decode cX7_heap 61 = .ok (.iconst 0, 1) := by decide +kernel
theorem dX7_heap_62 : decode cX7_heap 62 = .ok (.istore 6, 2) := by decide +kernel
theorem dX7_heap_64 : decode cX7_heap 64 = .ok (.iload 6, 2) := by decide +kernel
theorem dX7_heap_66 : decode cX7_heap 66 = .ok (.aload 5, 2) := by decide +kernel
theorem dX7_heap_68 : decode cX7_heap 68 = .ok (.getfield 120, 3) := by decide +kernel
theorem dX7_heap_71 : decode cX7_heap 71 = .ok (.if_icmp .ge 41, 3) := by decide +kernel
theorem dX7_heap_74 : decode cX7_heap 74 = .ok (.aload 5, 2) := by decide +kernel
theorem dX7_heap_76 : decode cX7_heap 76 = .ok (.getfield 130, 3) := by decide +kernel
theorem dX7_heap_79 : decode cX7_heap 79 = .ok (.iload 6, 2) := by decide +kernel
theorem dX7_heap_81 : decode cX7_heap 81 = .ok (.iaload, 1) := by decide +kernel
theorem dX7_heap_82 : decode cX7_heap 82 = .ok (.iload_n 2, 1) := by decide +kernel
theorem dX7_heap_83 : decode cX7_heap 83 = .ok (.iconst (-1), 1) := by decide +kernel
theorem dX7_heap_84 : decode cX7_heap 84 = .ok (.ixor, 1) := by decide +kernel
theorem dX7_heap_85 : decode cX7_heap 85 = .ok (.iand, 1) := by decide +kernel
theorem dX7_heap_86 : decode cX7_heap 86 = .ok (.ifCond .ne 20, 3) := by decide +kernel
theorem dX7_heap_89 : decode cX7_heap 89 = .ok (.aload_n 0, 1) := by decide +kernel
theorem dX7_heap_90 : decode cX7_heap 90 = .ok (.getfield 58, 3) := by decide +kernel
theorem dX7_heap_93 : decode cX7_heap 93 = .ok (.iload 6, 2) := by decide +kernel
theorem dX7_heap_95 : decode cX7_heap 95 = .ok (.aload 5, 2) := by decide +kernel
theorem dX7_heap_97 : decode cX7_heap 97 = .ok (.getfield 130, 3) := by decide +kernel
theorem dX7_heap_100 : decode cX7_heap 100 = .ok (.iload 6, 2) := by decide +kernel
theorem dX7_heap_102 : decode cX7_heap 102 = .ok (.iaload, 1) := by decide +kernel
theorem dX7_heap_103 : decode cX7_heap 103 = .ok (.invokevirtual 226, 3) := by decide +kernel
theorem dX7_heap_106 : decode cX7_heap 106 = .ok (.iinc 6 1, 3) := by decide +kernel
theorem dX7_heap_109 : decode cX7_heap 109 = .ok (.goto (-45), 3) := by decide +kernel
theorem dX7_heap_112 : decode cX7_heap 112 = .ok (.aload_n 0, 1) := by decide +kernel
theorem dX7_heap_113 : decode cX7_heap 113 = .ok (.getfield 58, 3) := by decide +kernel
theorem dX7_heap_116 : decode cX7_heap 116 = .ok (.iload_n 3, 1) := by decide +kernel
theorem dX7_heap_117 : decode cX7_heap 117 = .ok (.invokevirtual 230, 3) := by decide +kernel
theorem dX7_heap_120 : decode cX7_heap 120 = .ok (.iload 4, 2) := by decide +kernel
theorem dX7_heap_122 : decode cX7_heap 122 = .ok (.iconst (-1), 1) := by decide +kernel
theorem dX7_heap_123 : decode cX7_heap 123 = .ok (.if_icmp .ne 11, 3) := by decide +kernel
theorem dX7_heap_126 : decode cX7_heap 126 = .ok (.aload_n 0, 1) := by decide +kernel
theorem dX7_heap_127 : decode cX7_heap 127 = .ok (.getfield 58, 3) := by decide +kernel
theorem dX7_heap_130 : decode cX7_heap 130 = .ok (.getfield 233, 3) := by decide +kernel
theorem dX7_heap_133 : decode cX7_heap 133 = .ok (.ireturn, 1) := by decide +kernel
theorem dX7_heap_134 : decode cX7_heap 134 = .ok (.iload 4, 2) := by decide +kernel
theorem dX7_heap_136 : decode cX7_heap 136 = .ok (.ifCond .ne 13, 3) := by decide +kernel
theorem dX7_heap_139 : decode cX7_heap 139 = .ok (.aload_n 0, 1) := by decide +kernel
theorem dX7_heap_140 : decode cX7_heap 140 = .ok (.getfield 58, 3) := by decide +kernel
theorem dX7_heap_143 : decode cX7_heap 143 = .ok (.getfield 236, 3) := by decide +kernel
theorem dX7_heap_146 : decode cX7_heap 146 = .ok (.goto 14, 3) := by decide +kernel
theorem dX7_heap_149 : decode cX7_heap 149 = .ok (.aload_n 0, 1) := by decide +kernel
theorem dX7_heap_150 : decode cX7_heap 150 = .ok (.getfield 58, 3) := by decide +kernel
theorem dX7_heap_153 : decode cX7_heap 153 = .ok (.iload 4, 2) := by decide +kernel
theorem dX7_heap_155 : decode cX7_heap 155 = .ok (.iconst 1, 1) := by decide +kernel
theorem dX7_heap_156 : decode cX7_heap 156 = .ok (.isub, 1) := by decide +kernel
theorem dX7_heap_157 : decode cX7_heap 157 = .ok (.invokevirtual 239, 3) := by decide +kernel
theorem dX7_heap_160 : decode cX7_heap 160 = .ok (.ireturn, 1) := by decide +kernel
theorem dX7_make_0 : decode cX7_make 0 = .ok (.aload_n 0, 1) := by decide +kernel
theorem dX7_make_1 : decode cX7_make 1 = .ok (.iload_n 1, 1) := by decide +kernel
theorem dX7_make_2 : decode cX7_make 2 = .ok (.iload_n 2, 1) := by decide +kernel
theorem dX7_make_3 : decode cX7_make 3 = .ok (.invokevirtual 123, 3) := by decide +kernel
theorem dX7_make_6 : decode cX7_make 6 = .ok (.ifCond .eq 22, 3) := by decide +kernel
theorem dX7_make_9 : decode cX7_make 9 = .ok (.aload_n 0, 1) := by decide +kernel
theorem dX7_make_10 : decode cX7_make 10 = .ok (.iload_n 1, 1) := by decide +kernel
theorem dX7_make_11 : decode cX7_make 11 = .ok (.iload_n 3, 1) := by decide +kernel
theorem dX7_make_12 : decode cX7_make 12 = .ok (.invokevirtual 242, 3) := by decide +kernel
theorem dX7_make_15 : decode cX7_make 15 = .ok (.ifCond .eq 13, 3) := by decide +kernel
theorem dX7_make_18 : decode cX7_make 18 = .ok (.aload_n 0, 1) := by decide +kernel
theorem dX7_make_19 : decode cX7_make 19 = .ok (.iload_n 1, 1) := by decide +kernel
theorem dX7_make_20 : decode cX7_make 20 = .ok (.iload 4, 2) := by decide +kernel
theorem dX7_make_22 : decode cX7_make 22 = .ok (.invokevirtual 242, 3) := by decide +kernel
theorem dX7_make_25 : decode cX7_make 25 = .ok (.ifCond .ne 7, 3) := by decide +kernel
theorem dX7_make_28 : decode cX7_make 28 = .ok (.sipush (-1001), 3) := by decide +kernel
theorem dX7_make_31 : decode cX7_make 31 = .ok (.ireturn, 1) := by decide +kernel
theorem dX7_make_32 : decode cX7_make 32 = .ok (.aload_n 0, 1) := by decide +kernel
theorem dX7_make_33 : decode cX7_make 33 = .ok (.getfield 12, 3) := by decide +kernel
theorem dX7_make_36 : decode cX7_make 36 = .ok (.iload 5, 2) := by decide +kernel
theorem dX7_make_38 : decode cX7_make 38 = .ok (.invokevirtual 86, 3) := by decide +kernel
theorem dX7_make_41 : decode cX7_make 41 = .ok (.ifCond .ne 7, 3) := by decide +kernel
theorem dX7_make_44 : decode cX7_make 44 = .ok (.sipush (-1002), 3) := by decide +kernel
theorem dX7_make_47 : decode cX7_make 47 = .ok (.ireturn, 1) := by decide +kernel
theorem dX7_make_48 : decode cX7_make 48 = .ok (.aload_n 0, 1) := by decide +kernel
theorem dX7_make_49 : decode cX7_make 49 = .ok (.getfield 18, 3) := by decide +kernel
theorem dX7_make_52 : decode cX7_make 52 = .ok (.iload_n 1, 1) := by decide +kernel
theorem dX7_make_53 : decode cX7_make 53 = .ok (.aaload, 1) := by decide +kernel
theorem dX7_make_54 : decode cX7_make 54 = .ok (.getfield 130, 3) := by decide +kernel
theorem dX7_make_57 : decode cX7_make 57 = .ok (.astore 6, 2) := by decide +kernel
theorem dX7_make_59 : decode cX7_make 59 = .ok (.iload_n 3, 1) := by decide +kernel
theorem dX7_make_60 : decode cX7_make 60 = .ok (.iconst (-1), 1) := by decide +kernel
theorem dX7_make_61 : decode cX7_make 61 = .ok (.if_icmp .ne 7, 3) := by decide +kernel
theorem dX7_make_64 : decode cX7_make 64 = .ok (.iload_n 2, 1) := by decide +kernel
theorem dX7_make_65 : decode cX7_make 65 = .ok (.goto 4, 3) := by decide +kernel
theorem dX7_make_68 : decode cX7_make 68 = .ok (.iload_n 3, 1) := by decide +kernel
theorem dX7_make_69 : decode cX7_make 69 = .ok (.istore 7, 2) := by decide +kernel
theorem dX7_make_71 : decode cX7_make 71 = .ok (.iload 4, 2) := by decide +kernel
theorem dX7_make_73 : decode cX7_make 73 = .ok (.iconst (-1), 1) := by decide +kernel
theorem dX7_make_74 : decode cX7_make 74 = .ok (.if_icmp .ne 7, 3) := by decide +kernel
theorem dX7_make_77 : decode cX7_make 77 = .ok (.iload_n 2, 1) := by decide +kernel
theorem dX7_make_78 : decode cX7_make 78 = .ok (.goto 5, 3) := by decide +kernel
theorem dX7_make_81 : decode cX7_make 81 = .ok (.iload 4, 2) := by decide +kernel
theorem dX7_make_83 : decode cX7_make 83 = .ok (.istore 8, 2) := by decide +kernel
theorem dX7_make_85 : decode cX7_make 85 = .ok (.aload_n 0, 1) := by decide +kernel
theorem dX7_make_86 : decode cX7_make 86 = .ok (.getfield 12, 3) := by decide +kernel
theorem dX7_make_89 : decode cX7_make 89 = .ok (.aload 6, 2) := by decide +kernel
theorem dX7_make_91 : decode cX7_make 91 = .ok (.iload_n 2, 1) := by decide +kernel
theorem dX7_make_92 : decode cX7_make 92 = .ok (.iaload, 1) := by decide +kernel
theorem dX7_make_93 : decode cX7_make 93 = .ok (.iload 5, 2) := by decide +kernel
theorem dX7_make_95 : decode cX7_make 95 = .ok (.invokevirtual 245, 3) := by decide +kernel
theorem dX7_make_98 : decode cX7_make 98 = .ok (.aload_n 0, 1) := by decide +kernel
theorem dX7_make_99 : decode cX7_make 99 = .ok (.getfield 12, 3) := by decide +kernel
theorem dX7_make_102 : decode cX7_make 102 = .ok (.aload 6, 2) := by decide +kernel
theorem dX7_make_104 : decode cX7_make 104 = .ok (.iload 7, 2) := by decide +kernel
theorem dX7_make_106 : decode cX7_make 106 = .ok (.iaload, 1) := by decide +kernel
theorem dX7_make_107 : decode cX7_make 107 = .ok (.iload 5, 2) := by decide +kernel
theorem dX7_make_109 : decode cX7_make 109 = .ok (.invokevirtual 245, 3) := by decide +kernel
theorem dX7_make_112 : decode cX7_make 112 = .ok (.ior, 1) := by decide +kernel
theorem dX7_make_113 : decode cX7_make 113 = .ok (.aload_n 0, 1) := by decide +kernel
theorem dX7_make_114 : decode cX7_make 114 = .ok (.getfield 12, 3) := by decide +kernel
theorem dX7_make_117 : decode cX7_make 117 = .ok (.aload 6, 2) := by decide +kernel
theorem dX7_make_119 : decode cX7_make 119 = .ok (.iload 8, 2) := by decide +kernel
theorem dX7_make_121 : decode cX7_make 121 = .ok (.iaload, 1) := by decide +kernel
theorem dX7_make_122 : decode cX7_make 122 = .ok (.iload 5, 2) := by decide +kernel
theorem dX7_make_124 : decode cX7_make 124 = .ok (.invokevirtual 245, 3) := by decide +kernel
theorem dX7_make_127 : decode cX7_make 127 = .ok (.ior, 1) := by decide +kernel
theorem dX7_make_128 : decode cX7_make 128 = .ok (.istore 9, 2) := by decide +kernel
theorem dX7_make_130 : decode cX7_make 130 = .ok (.iload 9, 2) := by decide +kernel
theorem dX7_make_132 : decode cX7_make 132 = .ok (.aload_n 0, 1) := by decide +kernel
theorem dX7_make_133 : decode cX7_make 133 = .ok (.getfield 12, 3) := by decide +kernel
theorem dX7_make_136 : decode cX7_make 136 = .ok (.invokevirtual 142, 3) := by decide +kernel
theorem dX7_make_139 : decode cX7_make 139 = .ok (.if_icmp .ne 7, 3) := by decide +kernel
theorem dX7_make_142 : decode cX7_make 142 = .ok (.iconst 1, 1) := by decide +kernel
theorem dX7_make_143 : decode cX7_make 143 = .ok (.goto 4, 3) := by decide +kernel
theorem dX7_make_146 : decode cX7_make 146 = .ok (.iconst 0, 1) := by decide +kernel
theorem dX7_make_147 : decode cX7_make 147 = .ok (.ireturn, 1) := by decide +kernel
theorem dX7_trace_0 : decode cX7_trace 0 = .ok (.iload_n 1, 1) := by decide +kernel
theorem dX7_trace_1 : decode cX7_trace 1 = .ok (.invokestatic 111, 3) := by decide +kernel
theorem dX7_trace_4 : decode cX7_trace 4 = .ok (.ifCond .ne 7, 3) := by decide +kernel
theorem dX7_trace_7 : decode cX7_trace 7 = .ok (.sipush (-1001), 3) := by decide +kernel
theorem dX7_trace_10 : decode cX7_trace 10 = .ok (.ireturn, 1) := by decide +kernel
theorem dX7_trace_11 : decode cX7_trace 11 = .ok (.aload_n 0, 1) := by decide +kernel
theorem dX7_trace_12 : decode cX7_trace 12 = .ok (.getfield 12, 3) := by decide +kernel
theorem dX7_trace_15 : decode cX7_trace 15 = .ok (.iload_n 2, 1) := by decide +kernel
theorem dX7_trace_16 : decode cX7_trace 16 = .ok (.invokevirtual 86, 3) := by decide +kernel
theorem dX7_trace_19 : decode cX7_trace 19 = .ok (.ifCond .eq 22, 3) := by decide +kernel
theorem dX7_trace_22 : decode cX7_trace 22 = .ok (.iload_n 3, 1) := by decide +kernel
theorem dX7_trace_23 : decode cX7_trace 23 = .ok (.iconst 1, 1) := by decide +kernel
theorem dX7_trace_24 : decode cX7_trace 24 = .ok (.iconst 3, 1) := by decide +kernel
theorem dX7_trace_25 : decode cX7_trace 25 = .ok (.invokestatic 73, 3) := by decide +kernel
theorem dX7_trace_28 : decode cX7_trace 28 = .ok (.ifCond .eq 13, 3) := by decide +kernel
theorem dX7_trace_31 : decode cX7_trace 31 = .ok (.iload 4, 2) := by decide +kernel
theorem dX7_trace_33 : decode cX7_trace 33 = .ok (.iconst 0, 1) := by decide +kernel
theorem dX7_trace_34 : decode cX7_trace 34 = .ok (.iconst 2, 1) := by decide +kernel
theorem dX7_trace_35 : decode cX7_trace 35 = .ok (.invokestatic 73, 3) := by decide +kernel
theorem dX7_trace_38 : decode cX7_trace 38 = .ok (.ifCond .ne 7, 3) := by decide +kernel
theorem dX7_trace_41 : decode cX7_trace 41 = .ok (.sipush (-1002), 3) := by decide +kernel
theorem dX7_trace_44 : decode cX7_trace 44 = .ok (.ireturn, 1) := by decide +kernel
theorem dX7_trace_45 : decode cX7_trace 45 = .ok (.aload_n 0, 1) := by decide +kernel
theorem dX7_trace_46 : decode cX7_trace 46 = .ok (.iload_n 1, 1) := by decide +kernel
theorem dX7_trace_47 : decode cX7_trace 47 = .ok (.iload_n 2, 1) := by decide +kernel
theorem dX7_trace_48 : decode cX7_trace 48 = .ok (.iload_n 3, 1) := by decide +kernel
theorem dX7_trace_49 : decode cX7_trace 49 = .ok (.invokevirtual 248, 3) := by decide +kernel
theorem dX7_trace_52 : decode cX7_trace 52 = .ok (.iload 4, 2) := by decide +kernel
theorem dX7_trace_54 : decode cX7_trace 54 = .ok (.lookupswitch 42 #[(0, 26), (1, 34)], 26) := by decide +kernel
theorem dX7_trace_80 : decode cX7_trace 80 = .ok (.aload_n 0, 1) := by decide +kernel
theorem dX7_trace_81 : decode cX7_trace 81 = .ok (.getfield 58, 3) := by decide +kernel
theorem dX7_trace_84 : decode cX7_trace 84 = .ok (.getfield 233, 3) := by decide +kernel
theorem dX7_trace_87 : decode cX7_trace 87 = .ok (.ireturn, 1) := by decide +kernel
theorem dX7_trace_88 : decode cX7_trace 88 = .ok (.aload_n 0, 1) := by decide +kernel
theorem dX7_trace_89 : decode cX7_trace 89 = .ok (.getfield 58, 3) := by decide +kernel
theorem dX7_trace_92 : decode cX7_trace 92 = .ok (.getfield 236, 3) := by decide +kernel
theorem dX7_trace_95 : decode cX7_trace 95 = .ok (.ireturn, 1) := by decide +kernel
theorem dX7_trace_96 : decode cX7_trace 96 = .ok (.aload_n 0, 1) := by decide +kernel
theorem dX7_trace_97 : decode cX7_trace 97 = .ok (.getfield 58, 3) := by decide +kernel
theorem dX7_trace_100 : decode cX7_trace 100 = .ok (.getfield 233, 3) := by decide +kernel
theorem dX7_trace_103 : decode cX7_trace 103 = .ok (.ifCond .ne 7, 3) := by decide +kernel
theorem dX7_trace_106 : decode cX7_trace 106 = .ok (.iconst (-1), 1) := by decide +kernel
theorem dX7_trace_107 : decode cX7_trace 107 = .ok (.goto 13, 3) := by decide +kernel
theorem dX7_trace_110 : decode cX7_trace 110 = .ok (.aload_n 0, 1) := by decide +kernel
theorem dX7_trace_111 : decode cX7_trace 111 = .ok (.getfield 58, 3) := by decide +kernel
theorem dX7_trace_114 : decode cX7_trace 114 = .ok (.getfield 252, 3) := by decide +kernel
theorem dX7_trace_117 : decode cX7_trace 117 = .ok (.invokestatic 256, 3) := by decide +kernel
theorem dX7_trace_120 : decode cX7_trace 120 = .ok (.ireturn, 1) := by decide +kernel
theorem dX7_inAll_0 : decode cX7_inAll 0 = .ok (.iload_n 1, 1) := by decide +kernel
theorem dX7_inAll_1 : decode cX7_inAll 1 = .ok (.invokestatic 111, 3) := by decide +kernel
theorem dX7_inAll_4 : decode cX7_inAll 4 = .ok (.ifCond .ne 7, 3) := by decide +kernel
theorem dX7_inAll_7 : decode cX7_inAll 7 = .ok (.sipush (-1001), 3) := by decide +kernel
theorem dX7_inAll_10 : decode cX7_inAll 10 = .ok (.ireturn, 1) := by decide +kernel
theorem dX7_inAll_11 : decode cX7_inAll 11 = .ok (.aload_n 0, 1) := by decide +kernel
theorem dX7_inAll_12 : decode cX7_inAll 12 = .ok (.getfield 12, 3) := by decide +kernel
theorem dX7_inAll_15 : decode cX7_inAll 15 = .ok (.iload_n 2, 1) := by decide +kernel
theorem dX7_inAll_16 : decode cX7_inAll 16 = .ok (.invokevirtual 86, 3) := by decide +kernel
theorem dX7_inAll_19 : decode cX7_inAll 19 = .ok (.ifCond .eq 12, 3) := by decide +kernel
theorem dX7_inAll_22 : decode cX7_inAll 22 = .ok (.iload_n 3, 1) := by decide +kernel
theorem dX7_inAll_23 : decode cX7_inAll 23 = .ok (.iconst 1, 1) := by decide +kernel
theorem dX7_inAll_24 : decode cX7_inAll 24 = .ok (.iconst 3, 1) := by decide +kernel
theorem dX7_inAll_25 : decode cX7_inAll 25 = .ok (.invokestatic 73, 3) := by decide +kernel
theorem dX7_inAll_28 : decode cX7_inAll 28 = .ok (.ifCond .ne 7, 3) := by decide +kernel
theorem dX7_inAll_31 : decode cX7_inAll 31 = .ok (.sipush (-1002), 3) := by decide +kernel
theorem dX7_inAll_34 : decode cX7_inAll 34 = .ok (.ireturn, 1) := by decide +kernel
theorem dX7_inAll_35 : decode cX7_inAll 35 = .ok (.aload_n 0, 1) := by decide +kernel
theorem dX7_inAll_36 : decode cX7_inAll 36 = .ok (.iload_n 1, 1) := by decide +kernel
theorem dX7_inAll_37 : decode cX7_inAll 37 = .ok (.iload_n 2, 1) := by decide +kernel
theorem dX7_inAll_38 : decode cX7_inAll 38 = .ok (.iload_n 3, 1) := by decide +kernel
theorem dX7_inAll_39 : decode cX7_inAll 39 = .ok (.invokevirtual 248, 3) := by decide +kernel
theorem dX7_inAll_42 : decode cX7_inAll 42 = .ok (.aload_n 0, 1) := by decide +kernel
theorem dX7_inAll_43 : decode cX7_inAll 43 = .ok (.getfield 58, 3) := by decide +kernel
theorem dX7_inAll_46 : decode cX7_inAll 46 = .ok (.getfield 233, 3) := by decide +kernel
theorem dX7_inAll_49 : decode cX7_inAll 49 = .ok (.ifCond .ne 7, 3) := by decide +kernel
theorem dX7_inAll_52 : decode cX7_inAll 52 = .ok (.iconst (-1), 1) := by decide +kernel
theorem dX7_inAll_53 : decode cX7_inAll 53 = .ok (.goto 12, 3) := by decide +kernel
theorem dX7_inAll_56 : decode cX7_inAll 56 = .ok (.aload_n 0, 1) := by decide +kernel
theorem dX7_inAll_57 : decode cX7_inAll 57 = .ok (.getfield 58, 3) := by decide +kernel
theorem dX7_inAll_60 : decode cX7_inAll 60 = .ok (.iload 4, 2) := by decide +kernel
theorem dX7_inAll_62 : decode cX7_inAll 62 = .ok (.invokevirtual 261, 3) := by decide +kernel
theorem dX7_inAll_65 : decode cX7_inAll 65 = .ok (.ireturn, 1) := by decide +kernel
theorem dX7_framed_0 : decode cX7_framed 0 = .ok (.iload_n 1, 1) := by decide +kernel
theorem dX7_framed_1 : decode cX7_framed 1 = .ok (.invokestatic 111, 3) := by decide +kernel
theorem dX7_framed_4 : decode cX7_framed 4 = .ok (.ifCond .ne 7, 3) := by decide +kernel
theorem dX7_framed_7 : decode cX7_framed 7 = .ok (.sipush (-1001), 3) := by decide +kernel
theorem dX7_framed_10 : decode cX7_framed 10 = .ok (.ireturn, 1) := by decide +kernel
theorem dX7_framed_11 : decode cX7_framed 11 = .ok (.iload_n 2, 1) := by decide +kernel
theorem dX7_framed_12 : decode cX7_framed 12 = .ok (.iconst 1, 1) := by decide +kernel
theorem dX7_framed_13 : decode cX7_framed 13 = .ok (.iconst 3, 1) := by decide +kernel
theorem dX7_framed_14 : decode cX7_framed 14 = .ok (.invokestatic 73, 3) := by decide +kernel
theorem dX7_framed_17 : decode cX7_framed 17 = .ok (.ifCond .ne 7, 3) := by decide +kernel
theorem dX7_framed_20 : decode cX7_framed 20 = .ok (.sipush (-1002), 3) := by decide +kernel
theorem dX7_framed_23 : decode cX7_framed 23 = .ok (.ireturn, 1) := by decide +kernel
theorem dX7_framed_24 : decode cX7_framed 24 = .ok (.iconst 0, 1) := by decide +kernel
theorem dX7_framed_25 : decode cX7_framed 25 = .ok (.istore_n 3, 1) := by decide +kernel
theorem dX7_framed_26 : decode cX7_framed 26 = .ok (.iconst 0, 1) := by decide +kernel
theorem dX7_framed_27 : decode cX7_framed 27 = .ok (.istore 4, 2) := by decide +kernel
theorem dX7_framed_29 : decode cX7_framed 29 = .ok (.iload 4, 2) := by decide +kernel
theorem dX7_framed_31 : decode cX7_framed 31 = .ok (.aload_n 0, 1) := by decide +kernel
theorem dX7_framed_32 : decode cX7_framed 32 = .ok (.getfield 18, 3) := by decide +kernel
theorem dX7_framed_35 : decode cX7_framed 35 = .ok (.iload_n 1, 1) := by decide +kernel
theorem dX7_framed_36 : decode cX7_framed 36 = .ok (.aaload, 1) := by decide +kernel
theorem dX7_framed_37 : decode cX7_framed 37 = .ok (.getfield 120, 3) := by decide +kernel
theorem dX7_framed_40 : decode cX7_framed 40 = .ok (.if_icmp .ge 42, 3) := by decide +kernel
theorem dX7_framed_43 : decode cX7_framed 43 = .ok (.aload_n 0, 1) := by decide +kernel
theorem dX7_framed_44 : decode cX7_framed 44 = .ok (.iload_n 1, 1) := by decide +kernel
theorem dX7_framed_45 : decode cX7_framed 45 = .ok (.aload_n 0, 1) := by decide +kernel
theorem dX7_framed_46 : decode cX7_framed 46 = .ok (.getfield 18, 3) := by decide +kernel
theorem dX7_framed_49 : decode cX7_framed 49 = .ok (.iload_n 1, 1) := by decide +kernel
theorem dX7_framed_50 : decode cX7_framed 50 = .ok (.aaload, 1) := by decide +kernel
theorem dX7_framed_51 : decode cX7_framed 51 = .ok (.getfield 130, 3) := by decide +kernel
theorem dX7_framed_54 : decode cX7_framed 54 = .ok (.iload 4, 2) := by decide +kernel
theorem dX7_framed_56 : decode cX7_framed 56 = .ok (.iaload, 1) := by decide +kernel
theorem dX7_framed_57 : decode cX7_framed 57 = .ok (.iload 4, 2) := by decide +kernel
theorem dX7_framed_59 : decode cX7_framed 59 = .ok (.invokevirtual 264, 3) := by decide +kernel
theorem dX7_framed_62 : decode cX7_framed 62 = .ok (.aload_n 0, 1) := by decide +kernel
theorem dX7_framed_63 : decode cX7_framed 63 = .ok (.getfield 58, 3) := by decide +kernel
theorem dX7_framed_66 : decode cX7_framed 66 = .ok (.iload_n 2, 1) := by decide +kernel
theorem dX7_framed_67 : decode cX7_framed 67 = .ok (.invokevirtual 267, 3) := by decide +kernel
theorem dX7_framed_70 : decode cX7_framed 70 = .ok (.ifCond .eq 6, 3) := by decide +kernel
theorem dX7_framed_73 : decode cX7_framed 73 = .ok (.iinc 3 1, 3) := by decide +kernel
theorem dX7_framed_76 : decode cX7_framed 76 = .ok (.iinc 4 1, 3) := by decide +kernel
theorem dX7_framed_79 : decode cX7_framed 79 = .ok (.goto (-50), 3) := by decide +kernel
theorem dX7_framed_82 : decode cX7_framed 82 = .ok (.iload_n 3, 1) := by decide +kernel
theorem dX7_framed_83 : decode cX7_framed 83 = .ok (.ireturn, 1) := by decide +kernel
theorem dX7_within_0 : decode cX7_within 0 = .ok (.iload_n 0, 1) := by decide +kernel
theorem dX7_within_1 : decode cX7_within 1 = .ok (.iload_n 1, 1) := by decide +kernel
theorem dX7_within_2 : decode cX7_within 2 = .ok (.if_icmp .lt 12, 3) := by decide +kernel
theorem dX7_within_5 : decode cX7_within 5 = .ok (.iload_n 0, 1) := by decide +kernel
theorem dX7_within_6 : decode cX7_within 6 = .ok (.iload_n 2, 1) := by decide +kernel
theorem dX7_within_7 : decode cX7_within 7 = .ok (.if_icmp .gt 7, 3) := by decide +kernel
theorem dX7_within_10 : decode cX7_within 10 = .ok (.iconst 1, 1) := by decide +kernel
theorem dX7_within_11 : decode cX7_within 11 = .ok (.goto 4, 3) := by decide +kernel
theorem dX7_within_14 : decode cX7_within 14 = .ok (.iconst 0, 1) := by decide +kernel
theorem dX7_within_15 : decode cX7_within 15 = .ok (.ireturn, 1) := by decide +kernel
theorem dX7_isList_0 : decode cX7_isList 0 = .ok (.iload_n 0, 1) := by decide +kernel
theorem dX7_isList_1 : decode cX7_isList 1 = .ok (.iconst 0, 1) := by decide +kernel
theorem dX7_isList_2 : decode cX7_isList 2 = .ok (.iconst 5, 1) := by decide +kernel
theorem dX7_isList_3 : decode cX7_isList 3 = .ok (.invokestatic 73, 3) := by decide +kernel
theorem dX7_isList_6 : decode cX7_isList 6 = .ok (.ireturn, 1) := by decide +kernel
theorem dX7_isMark_0 : decode cX7_isMark 0 = .ok (.iload_n 1, 1) := by decide +kernel
theorem dX7_isMark_1 : decode cX7_isMark 1 = .ok (.invokestatic 111, 3) := by decide +kernel
theorem dX7_isMark_4 : decode cX7_isMark 4 = .ok (.ifCond .eq 26, 3) := by decide +kernel
theorem dX7_isMark_7 : decode cX7_isMark 7 = .ok (.iload_n 2, 1) := by decide +kernel
theorem dX7_isMark_8 : decode cX7_isMark 8 = .ok (.iconst 0, 1) := by decide +kernel
theorem dX7_isMark_9 : decode cX7_isMark 9 = .ok (.aload_n 0, 1) := by decide +kernel
theorem dX7_isMark_10 : decode cX7_isMark 10 = .ok (.getfield 18, 3) := by decide +kernel
theorem dX7_isMark_13 : decode cX7_isMark 13 = .ok (.iload_n 1, 1) := by decide +kernel
theorem dX7_isMark_14 : decode cX7_isMark 14 = .ok (.aaload, 1) := by decide +kernel
theorem dX7_isMark_15 : decode cX7_isMark 15 = .ok (.getfield 120, 3) := by decide +kernel
theorem dX7_isMark_18 : decode cX7_isMark 18 = .ok (.iconst 1, 1) := by decide +kernel
theorem dX7_isMark_19 : decode cX7_isMark 19 = .ok (.isub, 1) := by decide +kernel
theorem dX7_isMark_20 : decode cX7_isMark 20 = .ok (.invokestatic 73, 3) := by decide +kernel
theorem dX7_isMark_23 : decode cX7_isMark 23 = .ok (.ifCond .eq 7, 3) := by decide +kernel
theorem dX7_isMark_26 : decode cX7_isMark 26 = .ok (.iconst 1, 1) := by decide +kernel
theorem dX7_isMark_27 : decode cX7_isMark 27 = .ok (.goto 4, 3) := by decide +kernel
theorem dX7_isMark_30 : decode cX7_isMark 30 = .ok (.iconst 0, 1) := by decide +kernel
theorem dX7_isMark_31 : decode cX7_isMark 31 = .ok (.ireturn, 1) := by decide +kernel
theorem dX7_isMarkOrNone_0 : decode cX7_isMarkOrNone 0 = .ok (.iload_n 2, 1) := by decide +kernel
theorem dX7_isMarkOrNone_1 : decode cX7_isMarkOrNone 1 = .ok (.iconst (-1), 1) := by decide +kernel
theorem dX7_isMarkOrNone_2 : decode cX7_isMarkOrNone 2 = .ok (.if_icmp .eq 12, 3) := by decide +kernel
theorem dX7_isMarkOrNone_5 : decode cX7_isMarkOrNone 5 = .ok (.aload_n 0, 1) := by decide +kernel
theorem dX7_isMarkOrNone_6 : decode cX7_isMarkOrNone 6 = .ok (.iload_n 1, 1) := by decide +kernel
theorem dX7_isMarkOrNone_7 : decode cX7_isMarkOrNone 7 = .ok (.iload_n 2, 1) := by decide +kernel
theorem dX7_isMarkOrNone_8 : decode cX7_isMarkOrNone 8 = .ok (.invokevirtual 123, 3) := by decide +kernel
theorem dX7_isMarkOrNone_11 : decode cX7_isMarkOrNone 11 = .ok (.ifCond .eq 7, 3) := by decide +kernel
theorem dX7_isMarkOrNone_14 : decode cX7_isMarkOrNone 14 = .ok (.iconst 1, 1) := by decide +kernel
theorem dX7_isMarkOrNone_15 : decode cX7_isMarkOrNone 15 = .ok (.goto 4, 3) := by decide +kernel
theorem dX7_isMarkOrNone_18 : decode cX7_isMarkOrNone 18 = .ok (.iconst 0, 1) := by decide +kernel
theorem dX7_isMarkOrNone_19 : decode cX7_isMarkOrNone 19 = .ok (.ireturn, 1) := by decide +kernel
theorem dX7_isPlace_0 : decode cX7_isPlace 0 = .ok (.iload_n 1, 1) := by decide +kernel
theorem dX7_isPlace_1 : decode cX7_isPlace 1 = .ok (.iconst 0, 1) := by decide +kernel
theorem dX7_isPlace_2 : decode cX7_isPlace 2 = .ok (.aload_n 0, 1) := by decide +kernel
theorem dX7_isPlace_3 : decode cX7_isPlace 3 = .ok (.getfield 12, 3) := by decide +kernel
theorem dX7_isPlace_6 : decode cX7_isPlace 6 = .ok (.getfield 62, 3) := by decide +kernel
theorem dX7_isPlace_9 : decode cX7_isPlace 9 = .ok (.iconst 1, 1) := by decide +kernel
theorem dX7_isPlace_10 : decode cX7_isPlace 10 = .ok (.isub, 1) := by decide +kernel
theorem dX7_isPlace_11 : decode cX7_isPlace 11 = .ok (.invokestatic 73, 3) := by decide +kernel
theorem dX7_isPlace_14 : decode cX7_isPlace 14 = .ok (.ireturn, 1) := by decide +kernel
theorem dX7_firstAlike_0 : decode cX7_firstAlike 0 = .ok (.aload_n 0, 1) := by decide +kernel
theorem dX7_firstAlike_1 : decode cX7_firstAlike 1 = .ok (.getfield 12, 3) := by decide +kernel
theorem dX7_firstAlike_4 : decode cX7_firstAlike 4 = .ok (.iload_n 2, 1) := by decide +kernel
theorem dX7_firstAlike_5 : decode cX7_firstAlike 5 = .ok (.invokevirtual 90, 3) := by decide +kernel
theorem dX7_firstAlike_8 : decode cX7_firstAlike 8 = .ok (.istore 4, 2) := by decide +kernel
theorem dX7_firstAlike_10 : decode cX7_firstAlike 10 = .ok (.iload_n 3, 1) := by decide +kernel
theorem dX7_firstAlike_11 : decode cX7_firstAlike 11 = .ok (.istore 5, 2) := by decide +kernel
theorem dX7_firstAlike_13 : decode cX7_firstAlike 13 = .ok (.iload 5, 2) := by decide +kernel
theorem dX7_firstAlike_15 : decode cX7_firstAlike 15 = .ok (.aload_n 1, 1) := by decide +kernel
theorem dX7_firstAlike_16 : decode cX7_firstAlike 16 = .ok (.getfield 120, 3) := by decide +kernel
theorem dX7_firstAlike_19 : decode cX7_firstAlike 19 = .ok (.if_icmp .ge 32, 3) := by decide +kernel
theorem dX7_firstAlike_22 : decode cX7_firstAlike 22 = .ok (.aload_n 0, 1) := by decide +kernel
theorem dX7_firstAlike_23 : decode cX7_firstAlike 23 = .ok (.getfield 12, 3) := by decide +kernel
theorem dX7_firstAlike_26 : decode cX7_firstAlike 26 = .ok (.iload_n 2, 1) := by decide +kernel
theorem dX7_firstAlike_27 : decode cX7_firstAlike 27 = .ok (.iload 4, 2) := by decide +kernel
theorem dX7_firstAlike_29 : decode cX7_firstAlike 29 = .ok (.aload_n 1, 1) := by decide +kernel
theorem dX7_firstAlike_30 : decode cX7_firstAlike 30 = .ok (.getfield 130, 3) := by decide +kernel
theorem dX7_firstAlike_33 : decode cX7_firstAlike 33 = .ok (.iload 5, 2) := by decide +kernel
theorem dX7_firstAlike_35 : decode cX7_firstAlike 35 = .ok (.iaload, 1) := by decide +kernel
theorem dX7_firstAlike_36 : decode cX7_firstAlike 36 = .ok (.invokevirtual 270, 3) := by decide +kernel
theorem dX7_firstAlike_39 : decode cX7_firstAlike 39 = .ok (.ifCond .eq 6, 3) := by decide +kernel
theorem dX7_firstAlike_42 : decode cX7_firstAlike 42 = .ok (.iload 5, 2) := by decide +kernel
theorem dX7_firstAlike_44 : decode cX7_firstAlike 44 = .ok (.ireturn, 1) := by decide +kernel
theorem dX7_firstAlike_45 : decode cX7_firstAlike 45 = .ok (.iinc 5 1, 3) := by decide +kernel
theorem dX7_firstAlike_48 : decode cX7_firstAlike 48 = .ok (.goto (-35), 3) := by decide +kernel
theorem dX7_firstAlike_51 : decode cX7_firstAlike 51 = .ok (.iconst (-1), 1) := by decide +kernel
theorem dX7_firstAlike_52 : decode cX7_firstAlike 52 = .ok (.ireturn, 1) := by decide +kernel
theorem dX7_ofBadPair_0 : decode cX7_ofBadPair 0 = .ok (.iload 4, 2) := by decide +kernel
theorem dX7_ofBadPair_2 : decode cX7_ofBadPair 2 = .ok (.tableswitch 56 0 3 #[30, 32, 34, 36], 30) := by decide +kernel
theorem dX7_ofBadPair_32 : decode cX7_ofBadPair 32 = .ok (.iconst 0, 1) := by decide +kernel
theorem dX7_ofBadPair_33 : decode cX7_ofBadPair 33 = .ok (.ireturn, 1) := by decide +kernel
theorem dX7_ofBadPair_34 : decode cX7_ofBadPair 34 = .ok (.iload_n 2, 1) := by decide +kernel
theorem dX7_ofBadPair_35 : decode cX7_ofBadPair 35 = .ok (.ireturn, 1) := by decide +kernel
theorem dX7_ofBadPair_36 : decode cX7_ofBadPair 36 = .ok (.iload_n 3, 1) := by decide +kernel
theorem dX7_ofBadPair_37 : decode cX7_ofBadPair 37 = .ok (.ireturn, 1) := by decide +kernel
theorem dX7_ofBadPair_38 : decode cX7_ofBadPair 38 = .ok (.aload_n 0, 1) := by decide +kernel
theorem dX7_ofBadPair_39 : decode cX7_ofBadPair 39 = .ok (.getfield 12, 3) := by decide +kernel
theorem dX7_ofBadPair_42 : decode cX7_ofBadPair 42 = .ok (.aload_n 1, 1) := by decide +kernel
theorem dX7_ofBadPair_43 : decode cX7_ofBadPair 43 = .ok (.getfield 130, 3) := by decide +kernel
theorem dX7_ofBadPair_46 : decode cX7_ofBadPair 46 = .ok (.iload_n 2, 1) := by decide +kernel
theorem dX7_ofBadPair_47 : decode cX7_ofBadPair 47 = .ok (.iaload, 1) := by decide +kernel
theorem dX7_ofBadPair_48 : decode cX7_ofBadPair 48 = .ok (.aload_n 1, 1) := by decide +kernel
theorem dX7_ofBadPair_49 : decode cX7_ofBadPair 49 = .ok (.getfield 130, 3) := by decide +kernel
theorem dX7_ofBadPair_52 : decode cX7_ofBadPair 52 = .ok (.iload_n 3, 1) := by decide +kernel
theorem dX7_ofBadPair_53 : decode cX7_ofBadPair 53 = .ok (.iaload, 1) := by decide +kernel
theorem dX7_ofBadPair_54 : decode cX7_ofBadPair 54 = .ok (.invokevirtual 101, 3) := by decide +kernel
theorem dX7_ofBadPair_57 : decode cX7_ofBadPair 57 = .ok (.ireturn, 1) := by decide +kernel
theorem dX7_ofBadPair_58 : decode cX7_ofBadPair 58 = .ok (.aload_n 0, 1) := by decide +kernel
theorem dX7_ofBadPair_59 : decode cX7_ofBadPair 59 = .ok (.getfield 12, 3) := by decide +kernel
theorem dX7_ofBadPair_62 : decode cX7_ofBadPair 62 = .ok (.aload_n 1, 1) := by decide +kernel
theorem dX7_ofBadPair_63 : decode cX7_ofBadPair 63 = .ok (.getfield 130, 3) := by decide +kernel
theorem dX7_ofBadPair_66 : decode cX7_ofBadPair 66 = .ok (.iload_n 2, 1) := by decide +kernel
theorem dX7_ofBadPair_67 : decode cX7_ofBadPair 67 = .ok (.iaload, 1) := by decide +kernel
theorem dX7_ofBadPair_68 : decode cX7_ofBadPair 68 = .ok (.aload_n 1, 1) := by decide +kernel
theorem dX7_ofBadPair_69 : decode cX7_ofBadPair 69 = .ok (.getfield 130, 3) := by decide +kernel
theorem dX7_ofBadPair_72 : decode cX7_ofBadPair 72 = .ok (.iload_n 3, 1) := by decide +kernel
theorem dX7_ofBadPair_73 : decode cX7_ofBadPair 73 = .ok (.iaload, 1) := by decide +kernel
theorem dX7_ofBadPair_74 : decode cX7_ofBadPair 74 = .ok (.invokevirtual 105, 3) := by decide +kernel
theorem dX7_ofBadPair_77 : decode cX7_ofBadPair 77 = .ok (.ireturn, 1) := by decide +kernel
theorem dX7_becomesFresh_0 : decode cX7_becomesFresh 0 = .ok (.aload_n 0, 1) := by decide +kernel
theorem dX7_becomesFresh_1 : decode cX7_becomesFresh 1 = .ok (.getfield 18, 3) := by decide +kernel
theorem dX7_becomesFresh_4 : decode cX7_becomesFresh 4 = .ok (.iload_n 1, 1) := by decide +kernel
theorem dX7_becomesFresh_5 : decode cX7_becomesFresh 5 = .ok (.aaload, 1) := by decide +kernel
theorem dX7_becomesFresh_6 : decode cX7_becomesFresh 6 = .ok (.aload_n 0, 1) := by decide +kernel
theorem dX7_becomesFresh_7 : decode cX7_becomesFresh 7 = .ok (.getfield 23, 3) := by decide +kernel
theorem dX7_becomesFresh_10 : decode cX7_becomesFresh 10 = .ok (.invokevirtual 166, 3) := by decide +kernel
theorem dX7_becomesFresh_13 : decode cX7_becomesFresh 13 = .ok (.aload_n 0, 1) := by decide +kernel
theorem dX7_becomesFresh_14 : decode cX7_becomesFresh 14 = .ok (.getfield 23, 3) := by decide +kernel
theorem dX7_becomesFresh_17 : decode cX7_becomesFresh 17 = .ok (.getfield 120, 3) := by decide +kernel
theorem dX7_becomesFresh_20 : decode cX7_becomesFresh 20 = .ok (.ireturn, 1) := by decide +kernel
theorem dX7_marksInAll_0 : decode cX7_marksInAll 0 = .ok (.iconst 0, 1) := by decide +kernel
theorem dX7_marksInAll_1 : decode cX7_marksInAll 1 = .ok (.istore_n 1, 1) := by decide +kernel
theorem dX7_marksInAll_2 : decode cX7_marksInAll 2 = .ok (.iconst 0, 1) := by decide +kernel
theorem dX7_marksInAll_3 : decode cX7_marksInAll 3 = .ok (.istore_n 2, 1) := by decide +kernel
theorem dX7_marksInAll_4 : decode cX7_marksInAll 4 = .ok (.iload_n 2, 1) := by decide +kernel
theorem dX7_marksInAll_5 : decode cX7_marksInAll 5 = .ok (.bipush 6, 2) := by decide +kernel
theorem dX7_marksInAll_7 : decode cX7_marksInAll 7 = .ok (.if_icmp .ge 21, 3) := by decide +kernel
theorem dX7_marksInAll_10 : decode cX7_marksInAll 10 = .ok (.iload_n 1, 1) := by decide +kernel
theorem dX7_marksInAll_11 : decode cX7_marksInAll 11 = .ok (.aload_n 0, 1) := by decide +kernel
theorem dX7_marksInAll_12 : decode cX7_marksInAll 12 = .ok (.getfield 18, 3) := by decide +kernel
theorem dX7_marksInAll_15 : decode cX7_marksInAll 15 = .ok (.iload_n 2, 1) := by decide +kernel
theorem dX7_marksInAll_16 : decode cX7_marksInAll 16 = .ok (.aaload, 1) := by decide +kernel
theorem dX7_marksInAll_17 : decode cX7_marksInAll 17 = .ok (.getfield 120, 3) := by decide +kernel
theorem dX7_marksInAll_20 : decode cX7_marksInAll 20 = .ok (.iadd, 1) := by decide +kernel
theorem dX7_marksInAll_21 : decode cX7_marksInAll 21 = .ok (.istore_n 1, 1) := by decide +kernel
theorem dX7_marksInAll_22 : decode cX7_marksInAll 22 = .ok (.iinc 2 1, 3) := by decide +kernel
theorem dX7_marksInAll_25 : decode cX7_marksInAll 25 = .ok (.goto (-21), 3) := by decide +kernel
theorem dX7_marksInAll_28 : decode cX7_marksInAll 28 = .ok (.iload_n 1, 1) := by decide +kernel
theorem dX7_marksInAll_29 : decode cX7_marksInAll 29 = .ok (.ireturn, 1) := by decide +kernel
theorem dX7_findRings_0 : decode cX7_findRings 0 = .ok (.aload_n 0, 1) := by decide +kernel
theorem dX7_findRings_1 : decode cX7_findRings 1 = .ok (.iload_n 1, 1) := by decide +kernel
theorem dX7_findRings_2 : decode cX7_findRings 2 = .ok (.iload_n 2, 1) := by decide +kernel
theorem dX7_findRings_3 : decode cX7_findRings 3 = .ok (.iconst (-1), 1) := by decide +kernel
theorem dX7_findRings_4 : decode cX7_findRings 4 = .ok (.invokevirtual 264, 3) := by decide +kernel
theorem dX7_findRings_7 : decode cX7_findRings 7 = .ok (.aload_n 0, 1) := by decide +kernel
theorem dX7_findRings_8 : decode cX7_findRings 8 = .ok (.getfield 58, 3) := by decide +kernel
theorem dX7_findRings_11 : decode cX7_findRings 11 = .ok (.iload_n 3, 1) := by decide +kernel
theorem dX7_findRings_12 : decode cX7_findRings 12 = .ok (.invokevirtual 230, 3) := by decide +kernel
theorem dX7_findRings_15 : decode cX7_findRings 15 = .ok (.return_, 1) := by decide +kernel
theorem dX7_offerRings_0 : decode cX7_offerRings 0 = .ok (.aload_n 0, 1) := by decide +kernel
theorem dX7_offerRings_1 : decode cX7_offerRings 1 = .ok (.getfield 18, 3) := by decide +kernel
theorem dX7_offerRings_4 : decode cX7_offerRings 4 = .ok (.iload_n 1, 1) := by decide +kernel
theorem dX7_offerRings_5 : decode cX7_offerRings 5 = .ok (.aaload, 1) := by decide +kernel
theorem dX7_offerRings_6 : decode cX7_offerRings 6 = .ok (.astore 4, 2) := by decide +kernel
theorem dX7_offerRings_8 : decode cX7_offerRings 8 = .ok (.aload_n 0, 1) := by decide +kernel
theorem dX7_offerRings_9 : decode cX7_offerRings 9 = .ok (.getfield 58, 3) := by decide +kernel
theorem dX7_offerRings_12 : decode cX7_offerRings 12 = .ok (.aload_n 0, 1) := by decide +kernel
theorem dX7_offerRings_13 : decode cX7_offerRings 13 = .ok (.getfield 12, 3) := by decide +kernel
theorem dX7_offerRings_16 : decode cX7_offerRings 16 = .ok (.invokevirtual 142, 3) := by decide +kernel
theorem dX7_offerRings_19 : decode cX7_offerRings 19 = .ok (.invokevirtual 223, 3) := by decide +kernel
theorem dX7_offerRings_22 : decode cX7_offerRings 22 = .ok (.iconst 0, 1) := by decide +kernel
theorem dX7_offerRings_23 : decode cX7_offerRings 23 = .ok (.istore 5, 2) := by decide +kernel
theorem dX7_offerRings_25 : decode cX7_offerRings 25 = .ok (.iload 5, 2) := by decide +kernel
theorem dX7_offerRings_27 : decode cX7_offerRings 27 = .ok (.aload 4, 2) := by decide +kernel
theorem dX7_offerRings_29 : decode cX7_offerRings 29 = .ok (.getfield 120, 3) := by decide +kernel
theorem dX7_offerRings_32 : decode cX7_offerRings 32 = .ok (.if_icmp .ge 40, 3) := by decide +kernel
theorem dX7_offerRings_35 : decode cX7_offerRings 35 = .ok (.iload 5, 2) := by decide +kernel
theorem dX7_offerRings_37 : decode cX7_offerRings 37 = .ok (.iload_n 3, 1) := by decide +kernel
theorem dX7_offerRings_38 : decode cX7_offerRings 38 = .ok (.if_icmp .eq 28, 3) := by decide +kernel
theorem dX7_offerRings_41 : decode cX7_offerRings 41 = .ok (.aload_n 0, 1) := by decide +kernel
theorem dX7_offerRings_42 : decode cX7_offerRings 42 = .ok (.getfield 58, 3) := by decide +kernel
theorem dX7_offerRings_45 : decode cX7_offerRings 45 = .ok (.iload 5, 2) := by decide +kernel
theorem dX7_offerRings_47 : decode cX7_offerRings 47 = .ok (.aload_n 0, 1) := by decide +kernel
theorem dX7_offerRings_48 : decode cX7_offerRings 48 = .ok (.getfield 12, 3) := by decide +kernel
theorem dX7_offerRings_51 : decode cX7_offerRings 51 = .ok (.aload 4, 2) := by decide +kernel
theorem dX7_offerRings_53 : decode cX7_offerRings 53 = .ok (.getfield 130, 3) := by decide +kernel
theorem dX7_offerRings_56 : decode cX7_offerRings 56 = .ok (.iload 5, 2) := by decide +kernel
theorem dX7_offerRings_58 : decode cX7_offerRings 58 = .ok (.iaload, 1) := by decide +kernel
theorem dX7_offerRings_59 : decode cX7_offerRings 59 = .ok (.iload_n 2, 1) := by decide +kernel
theorem dX7_offerRings_60 : decode cX7_offerRings 60 = .ok (.invokevirtual 245, 3) := by decide +kernel
theorem dX7_offerRings_63 : decode cX7_offerRings 63 = .ok (.invokevirtual 226, 3) := by decide +kernel
theorem dX7_offerRings_66 : decode cX7_offerRings 66 = .ok (.iinc 5 1, 3) := by decide +kernel
theorem dX7_offerRings_69 : decode cX7_offerRings 69 = .ok (.goto (-44), 3) := by decide +kernel
theorem dX7_offerRings_72 : decode cX7_offerRings 72 = .ok (.return_, 1) := by decide +kernel
