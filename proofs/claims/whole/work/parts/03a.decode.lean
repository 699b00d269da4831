theorem dX0_init_0 : decode cX0_init 0 = .ok (.aload_n 0, 1) := by decide +kernel
theorem dX0_init_1 : decode cX0_init 1 = .ok (.invokespecial 3, 3) := by decide +kernel
theorem dX0_init_4 : decode cX0_init 4 = .ok (.aload_n 0, 1) := by decide +kernel
theorem dX0_init_5 : decode cX0_init 5 = .ok (.bipush 64, 2) := by decide +kernel
theorem dX0_init_7 : decode cX0_init 7 = .ok (.newarray .int, 2) := by decide +kernel
theorem dX0_init_9 : decode cX0_init 9 = .ok (.putfield 9, 3) := by decide +kernel
theorem dX0_init_12 : decode cX0_init 12 = .ok (.aload_n 0, 1) := by decide +kernel
theorem dX0_init_13 : decode cX0_init 13 = .ok (.bipush 64, 2) := by decide +kernel
theorem dX0_init_15 : decode cX0_init 15 = .ok (.newarray .int, 2) := by decide +kernel
theorem dX0_init_17 : decode cX0_init 17 = .ok (.putfield 15, 3) := by decide +kernel
theorem dX0_init_20 : decode cX0_init 20 = .ok (.aload_n 0, 1) := by decide +kernel
theorem dX0_init_21 : decode cX0_init 21 = .ok (.iconst 3, 1) := by decide +kernel
theorem dX0_init_22 : decode cX0_init 22 = .ok (.newarray .int, 2) := by decide +kernel
theorem dX0_init_24 : decode cX0_init 24 = .ok (.putfield 18, 3) := by decide +kernel
theorem dX0_init_27 : decode cX0_init 27 = .ok (.aload_n 0, 1) := by decide +kernel
theorem dX0_init_28 : decode cX0_init 28 = .ok (.iconst 0, 1) := by decide +kernel
theorem dX0_init_29 : decode cX0_init 29 = .ok (.putfield 21, 3) := by decide +kernel
theorem dX0_init_32 : decode cX0_init 32 = .ok (.aload_n 0, 1) := by decide +kernel
theorem dX0_init_33 : decode cX0_init 33 = .ok (.iconst 0, 1) := by decide +kernel
theorem dX0_init_34 : decode cX0_init 34 = .ok (.putfield 25, 3) := by decide +kernel
theorem dX0_init_37 : decode cX0_init 37 = .ok (.aload_n 0, 1) := by decide +kernel
theorem dX0_init_38 : decode cX0_init 38 = .ok (.iconst 0, 1) := by decide +kernel
theorem dX0_init_39 : decode cX0_init 39 = .ok (.putfield 28, 3) := by decide +kernel
theorem dX0_init_42 : decode cX0_init 42 = .ok (.aload_n 0, 1) := by decide +kernel
theorem dX0_init_43 : decode cX0_init 43 = .ok (.iconst (-1), 1) := by decide +kernel
theorem dX0_init_44 : decode cX0_init 44 = .ok (.putfield 31, 3) := by decide +kernel
theorem dX0_init_47 : decode cX0_init 47 = .ok (.aload_n 0, 1) := by decide +kernel
theorem dX0_init_48 : decode cX0_init 48 = .ok (.lconst 0, 1) := by decide +kernel
theorem dX0_init_49 : decode cX0_init 49 = .ok (.putfield 34, 3) := by decide +kernel
theorem dX0_init_52 : decode cX0_init 52 = .ok (.return_, 1) := by decide +kernel
theorem dX0_start_0 : decode cX0_start 0 = .ok (.aload_n 0, 1) := by decide +kernel
theorem dX0_start_1 : decode cX0_start 1 = .ok (.iload_n 1, 1) := by decide +kernel
theorem dX0_start_2 : decode cX0_start 2 = .ok (.putfield 25, 3) := by decide +kernel
theorem dX0_start_5 : decode cX0_start 5 = .ok (.aload_n 0, 1) := by decide +kernel
theorem dX0_start_6 : decode cX0_start 6 = .ok (.iconst 0, 1) := by decide +kernel
theorem dX0_start_7 : decode cX0_start 7 = .ok (.putfield 21, 3) := by decide +kernel
theorem dX0_start_10 : decode cX0_start 10 = .ok (.return_, 1) := by decide +kernel
theorem dX0_offer_0 : decode cX0_offer 0 = .ok (.aload_n 0, 1) := by decide +kernel
theorem dX0_offer_1 : decode cX0_offer 1 = .ok (.getfield 21, 3) := by decide +kernel
theorem dX0_offer_4 : decode cX0_offer 4 = .ok (.bipush 64, 2) := by decide +kernel
theorem dX0_offer_6 : decode cX0_offer 6 = .ok (.if_icmp .ge 33, 3) := by decide +kernel
theorem dX0_offer_9 : decode cX0_offer 9 = .ok (.aload_n 0, 1) := by decide +kernel
theorem dX0_offer_10 : decode cX0_offer 10 = .ok (.getfield 9, 3) := by decide +kernel
theorem dX0_offer_13 : decode cX0_offer 13 = .ok (.aload_n 0, 1) := by decide +kernel
theorem dX0_offer_14 : decode cX0_offer 14 = .ok (.getfield 21, 3) := by decide +kernel
theorem dX0_offer_17 : decode cX0_offer 17 = .ok (.iload_n 2, 1) := by decide +kernel
theorem dX0_offer_18 : decode cX0_offer 18 = .ok (.iastore, 1) := by decide +kernel
theorem dX0_offer_19 : decode cX0_offer 19 = .ok (.aload_n 0, 1) := by decide +kernel
theorem dX0_offer_20 : decode cX0_offer 20 = .ok (.getfield 15, 3) := by decide +kernel
theorem dX0_offer_23 : decode cX0_offer 23 = .ok (.aload_n 0, 1) := by decide +kernel
theorem dX0_offer_24 : decode cX0_offer 24 = .ok (.getfield 21, 3) := by decide +kernel
theorem dX0_offer_27 : decode cX0_offer 27 = .ok (.iload_n 1, 1) := by decide +kernel
theorem dX0_offer_28 : decode cX0_offer 28 = .ok (.iastore, 1) := by decide +kernel
theorem dX0_offer_29 : decode cX0_offer 29 = .ok (.aload_n 0, 1) := by decide +kernel
theorem dX0_offer_30 : decode cX0_offer 30 = .ok (.dup, 1) := by decide +kernel
theorem dX0_offer_31 : decode cX0_offer 31 = .ok (.getfield 21, 3) := by decide +kernel
theorem dX0_offer_34 : decode cX0_offer 34 = .ok (.iconst 1, 1) := by decide +kernel
theorem dX0_offer_35 : decode cX0_offer 35 = .ok (.iadd, 1) := by decide +kernel
theorem dX0_offer_36 : decode cX0_offer 36 = .ok (.putfield 21, 3) := by decide +kernel
theorem dX0_offer_39 : decode cX0_offer 39 = .ok (.return_, 1) := by decide +kernel
theorem dX0_search_0 : decode cX0_search 0 = .ok (.aload_n 0, 1) := by decide +kernel
theorem dX0_search_1 : decode cX0_search 1 = .ok (.iconst 0, 1) := by decide +kernel
theorem dX0_search_2 : decode cX0_search 2 = .ok (.putfield 28, 3) := by decide +kernel
theorem dX0_search_5 : decode cX0_search 5 = .ok (.aload_n 0, 1) := by decide +kernel
theorem dX0_search_6 : decode cX0_search 6 = .ok (.iconst (-1), 1) := by decide +kernel
theorem dX0_search_7 : decode cX0_search 7 = .ok (.putfield 31, 3) := by decide +kernel
theorem dX0_search_10 : decode cX0_search 10 = .ok (.aload_n 0, 1) := by decide +kernel
theorem dX0_search_11 : decode cX0_search 11 = .ok (.ldc2_w 38, 3) := by decide +kernel
theorem dX0_search_14 : decode cX0_search 14 = .ok (.putfield 34, 3) := by decide +kernel
theorem dX0_search_17 : decode cX0_search 17 = .ok (.iconst 0, 1) := by decide +kernel
theorem dX0_search_18 : decode cX0_search 18 = .ok (.istore_n 2, 1) := by decide +kernel
theorem dX0_search_19 : decode cX0_search 19 = .ok (.iload_n 2, 1) := by decide +kernel
theorem dX0_search_20 : decode cX0_search 20 = .ok (.aload_n 0, 1) := by decide +kernel
theorem dX0_search_21 : decode cX0_search 21 = .ok (.getfield 21, 3) := by decide +kernel
theorem dX0_search_24 : decode cX0_search 24 = .ok (.if_icmp .ge 30, 3) := by decide +kernel
theorem dX0_search_27 : decode cX0_search 27 = .ok (.aload_n 0, 1) := by decide +kernel
theorem dX0_search_28 : decode cX0_search 28 = .ok (.getfield 9, 3) := by decide +kernel
theorem dX0_search_31 : decode cX0_search 31 = .ok (.iload_n 2, 1) := by decide +kernel
theorem dX0_search_32 : decode cX0_search 32 = .ok (.iaload, 1) := by decide +kernel
theorem dX0_search_33 : decode cX0_search 33 = .ok (.aload_n 0, 1) := by decide +kernel
theorem dX0_search_34 : decode cX0_search 34 = .ok (.getfield 25, 3) := by decide +kernel
theorem dX0_search_37 : decode cX0_search 37 = .ok (.if_icmp .ne 11, 3) := by decide +kernel
theorem dX0_search_40 : decode cX0_search 40 = .ok (.aload_n 0, 1) := by decide +kernel
theorem dX0_search_41 : decode cX0_search 41 = .ok (.iconst 1, 1) := by decide +kernel
theorem dX0_search_42 : decode cX0_search 42 = .ok (.iload_n 2, 1) := by decide +kernel
theorem dX0_search_43 : decode cX0_search 43 = .ok (.iload_n 2, 1) := by decide +kernel
theorem dX0_search_44 : decode cX0_search 44 = .ok (.iload_n 2, 1) := by decide +kernel
theorem dX0_search_45 : decode cX0_search 45 = .ok (.invokevirtual 40, 3) := by decide +kernel
theorem dX0_search_48 : decode cX0_search 48 = .ok (.iinc 2 1, 3) := by decide +kernel
theorem dX0_search_51 : decode cX0_search 51 = .ok (.goto (-32), 3) := by decide +kernel
theorem dX0_search_54 : decode cX0_search 54 = .ok (.iload_n 1, 1) := by decide +kernel
theorem dX0_search_55 : decode cX0_search 55 = .ok (.iconst 2, 1) := by decide +kernel
theorem dX0_search_56 : decode cX0_search 56 = .ok (.if_icmp .lt 7, 3) := by decide +kernel
theorem dX0_search_59 : decode cX0_search 59 = .ok (.aload_n 0, 1) := by decide +kernel
theorem dX0_search_60 : decode cX0_search 60 = .ok (.invokevirtual 44, 3) := by decide +kernel
theorem dX0_search_63 : decode cX0_search 63 = .ok (.iload_n 1, 1) := by decide +kernel
theorem dX0_search_64 : decode cX0_search 64 = .ok (.iconst 3, 1) := by decide +kernel
theorem dX0_search_65 : decode cX0_search 65 = .ok (.if_icmp .lt 7, 3) := by decide +kernel
theorem dX0_search_68 : decode cX0_search 68 = .ok (.aload_n 0, 1) := by decide +kernel
theorem dX0_search_69 : decode cX0_search 69 = .ok (.invokevirtual 47, 3) := by decide +kernel
theorem dX0_search_72 : decode cX0_search 72 = .ok (.return_, 1) := by decide +kernel
theorem dX0_searchPairs_0 : decode cX0_searchPairs 0 = .ok (.iconst 0, 1) := by decide +kernel
theorem dX0_searchPairs_1 : decode cX0_searchPairs 1 = .ok (.istore_n 1, 1) := by decide +kernel
theorem dX0_searchPairs_2 : decode cX0_searchPairs 2 = .ok (.iload_n 1, 1) := by decide +kernel
theorem dX0_searchPairs_3 : decode cX0_searchPairs 3 = .ok (.aload_n 0, 1) := by decide +kernel
theorem dX0_searchPairs_4 : decode cX0_searchPairs 4 = .ok (.getfield 21, 3) := by decide +kernel
theorem dX0_searchPairs_7 : decode cX0_searchPairs 7 = .ok (.if_icmp .ge 55, 3) := by decide +kernel
theorem dX0_searchPairs_10 : decode cX0_searchPairs 10 = .ok (.iload_n 1, 1) := by decide +kernel
theorem dX0_searchPairs_11 : decode cX0_searchPairs 11 = .ok (.iconst 1, 1) := by decide +kernel
theorem dX0_searchPairs_12 : decode cX0_searchPairs 12 = .ok (.iadd, 1) := by decide +kernel
theorem dX0_searchPairs_13 : decode cX0_searchPairs 13 = .ok (.istore_n 2, 1) := by decide +kernel
theorem dX0_searchPairs_14 : decode cX0_searchPairs 14 = .ok (.iload_n 2, 1) := by decide +kernel
theorem dX0_searchPairs_15 : decode cX0_searchPairs 15 = .ok (.aload_n 0, 1) := by decide +kernel
theorem dX0_searchPairs_16 : decode cX0_searchPairs 16 = .ok (.getfield 21, 3) := by decide +kernel
theorem dX0_searchPairs_19 : decode cX0_searchPairs 19 = .ok (.if_icmp .ge 37, 3) := by decide +kernel
theorem dX0_searchPairs_22 : decode cX0_searchPairs 22 = .ok (.aload_n 0, 1) := by decide +kernel
theorem dX0_searchPairs_23 : decode cX0_searchPairs 23 = .ok (.getfield 9, 3) := by decide +kernel
theorem dX0_searchPairs_26 : decode cX0_searchPairs 26 = .ok (.iload_n 1, 1) := by decide +kernel
theorem dX0_searchPairs_27 : decode cX0_searchPairs 27 = .ok (.iaload, 1) := by decide +kernel
theorem dX0_searchPairs_28 : decode cX0_searchPairs 28 = .ok (.aload_n 0, 1) := by decide +kernel
theorem dX0_searchPairs_29 : decode cX0_searchPairs 29 = .ok (.getfield 9, 3) := by decide +kernel
theorem dX0_searchPairs_32 : decode cX0_searchPairs 32 = .ok (.iload_n 2, 1) := by decide +kernel
theorem dX0_searchPairs_33 : decode cX0_searchPairs 33 = .ok (.iaload, 1) := by decide +kernel
theorem dX0_searchPairs_34 : decode cX0_searchPairs 34 = .ok (.ior, 1) := by decide +kernel
theorem dX0_searchPairs_35 : decode cX0_searchPairs 35 = .ok (.aload_n 0, 1) := by decide +kernel
theorem dX0_searchPairs_36 : decode cX0_searchPairs 36 = .ok (.getfield 25, 3) := by decide +kernel
theorem dX0_searchPairs_39 : decode cX0_searchPairs 39 = .ok (.if_icmp .ne 11, 3) := by decide +kernel
theorem dX0_searchPairs_42 : decode cX0_searchPairs 42 = .ok (.aload_n 0, 1) := by decide +kernel
theorem dX0_searchPairs_43 : decode cX0_searchPairs 43 = .ok (.iconst 2, 1) := by decide +kernel
theorem dX0_searchPairs_44 : decode cX0_searchPairs 44 = .ok (.iload_n 1, 1) := by decide +kernel
theorem dX0_searchPairs_45 : decode cX0_searchPairs 45 = .ok (.iload_n 2, 1) := by decide +kernel
theorem dX0_searchPairs_46 : decode cX0_searchPairs 46 = .ok (.iload_n 2, 1) := by decide +kernel
theorem dX0_searchPairs_47 : decode cX0_searchPairs 47 = .ok (.invokevirtual 40, 3) := by decide +kernel
theorem dX0_searchPairs_50 : decode cX0_searchPairs 50 = .ok (.iinc 2 1, 3) := by decide +kernel
theorem dX0_searchPairs_53 : decode cX0_searchPairs 53 = .ok (.goto (-39), 3) := by decide +kernel
theorem dX0_searchPairs_56 : decode cX0_searchPairs 56 = .ok (.iinc 1 1, 3) := by decide +kernel
theorem dX0_searchPairs_59 : decode cX0_searchPairs 59 = .ok (.goto (-57), 3) := by decide +kernel
theorem dX0_searchPairs_62 : decode cX0_searchPairs 62 = .ok (.return_, 1) := by decide +kernel
theorem dX0_searchTriples_0 : decode cX0_searchTriples 0 = .ok (.iconst 0, 1) := by decide +kernel
theorem dX0_searchTriples_1 : decode cX0_searchTriples 1 = .ok (.istore_n 1, 1) := by decide +kernel
theorem dX0_searchTriples_2 : decode cX0_searchTriples 2 = .ok (.iload_n 1, 1) := by decide +kernel
theorem dX0_searchTriples_3 : decode cX0_searchTriples 3 = .ok (.aload_n 0, 1) := by decide +kernel
theorem dX0_searchTriples_4 : decode cX0_searchTriples 4 = .ok (.getfield 21, 3) := by decide +kernel
theorem dX0_searchTriples_7 : decode cX0_searchTriples 7 = .ok (.if_icmp .ge 86, 3) := by decide +kernel
theorem dX0_searchTriples_10 : decode cX0_searchTriples 10 = .ok (.iload_n 1, 1) := by decide +kernel
theorem dX0_searchTriples_11 : decode cX0_searchTriples 11 = .ok (.iconst 1, 1) := by decide +kernel
theorem dX0_searchTriples_12 : decode cX0_searchTriples 12 = .ok (.iadd, 1) := by decide +kernel
theorem dX0_searchTriples_13 : decode cX0_searchTriples 13 = .ok (.istore_n 2, 1) := by decide +kernel
theorem dX0_searchTriples_14 : decode cX0_searchTriples 14 = .ok (.iload_n 2, 1) := by decide +kernel
theorem dX0_searchTriples_15 : decode cX0_searchTriples 15 = .ok (.aload_n 0, 1) := by decide +kernel
theorem dX0_searchTriples_16 : decode cX0_searchTriples 16 = .ok (.getfield 21, 3) := by decide +kernel
theorem dX0_searchTriples_19 : decode cX0_searchTriples 19 = .ok (.if_icmp .ge 68, 3) := by decide +kernel
theorem dX0_searchTriples_22 : decode cX0_searchTriples 22 = .ok (.aload_n 0, 1) := by decide +kernel
theorem dX0_searchTriples_23 : decode cX0_searchTriples 23 = .ok (.getfield 9, 3) := by decide +kernel
theorem dX0_searchTriples_26 : decode cX0_searchTriples 26 = .ok (.iload_n 1, 1) := by decide +kernel
theorem dX0_searchTriples_27 : decode cX0_searchTriples 27 = .ok (.iaload, 1) := by decide +kernel
theorem dX0_searchTriples_28 : decode cX0_searchTriples 28 = .ok (.aload_n 0, 1) := by decide +kernel
theorem dX0_searchTriples_29 : decode cX0_searchTriples 29 = .ok (.getfield 9, 3) := by decide +kernel
theorem dX0_searchTriples_32 : decode cX0_searchTriples 32 = .ok (.iload_n 2, 1) := by decide +kernel
theorem dX0_searchTriples_33 : decode cX0_searchTriples 33 = .ok (.iaload, 1) := by decide +kernel
theorem dX0_searchTriples_34 : decode cX0_searchTriples 34 = .ok (.ior, 1) := by decide +kernel
theorem dX0_searchTriples_35 : decode cX0_searchTriples 35 = .ok (.istore_n 3, 1) := by decide +kernel
theorem dX0_searchTriples_36 : decode cX0_searchTriples 36 = .ok (.iload_n 2, 1) := by decide +kernel
theorem dX0_searchTriples_37 : decode cX0_searchTriples 37 = .ok (.iconst 1, 1) := by decide +kernel
theorem dX0_searchTriples_38 : decode cX0_searchTriples 38 = .ok (.iadd, 1) := by decide +kernel
theorem dX0_searchTriples_39 : decode cX0_searchTriples 39 = .ok (.istore 4, 2) := by decide +kernel
theorem dX0_searchTriples_41 : decode cX0_searchTriples 41 = .ok (.iload 4, 2) := by decide +kernel
theorem dX0_searchTriples_43 : decode cX0_searchTriples 43 = .ok (.aload_n 0, 1) := by decide +kernel
theorem dX0_searchTriples_44 : decode cX0_searchTriples 44 = .ok (.getfield 21, 3) := by decide +kernel
theorem dX0_searchTriples_47 : decode cX0_searchTriples 47 = .ok (.if_icmp .ge 34, 3) := by decide +kernel
theorem dX0_searchTriples_50 : decode cX0_searchTriples 50 = .ok (.iload_n 3, 1) := by decide +kernel
theorem dX0_searchTriples_51 : decode cX0_searchTriples 51 = .ok (.aload_n 0, 1) := by decide +kernel
theorem dX0_searchTriples_52 : decode cX0_searchTriples 52 = .ok (.getfield 9, 3) := by decide +kernel
theorem dX0_searchTriples_55 : decode cX0_searchTriples 55 = .ok (.iload 4, 2) := by decide +kernel
theorem dX0_searchTriples_57 : decode cX0_searchTriples 57 = .ok (.iaload, 1) := by decide +kernel
theorem dX0_searchTriples_58 : decode cX0_searchTriples 58 = .ok (.ior, 1) := by decide +kernel
theorem dX0_searchTriples_59 : decode cX0_searchTriples 59 = .ok (.aload_n 0, 1) := by decide +kernel
theorem dX0_searchTriples_60 : decode cX0_searchTriples 60 = .ok (.getfield 25, 3) := by decide +kernel
theorem dX0_searchTriples_63 : decode cX0_searchTriples 63 = .ok (.if_icmp .ne 12, 3) := by decide +kernel
theorem dX0_searchTriples_66 : decode cX0_searchTriples 66 = .ok (.aload_n 0, 1) := by decide +kernel
theorem dX0_searchTriples_67 : decode cX0_searchTriples 67 = .ok (.iconst 3, 1) := by decide +kernel
theorem dX0_searchTriples_68 : decode cX0_searchTriples 68 = .ok (.iload_n 1, 1) := by decide +kernel
theorem dX0_searchTriples_69 : decode cX0_searchTriples 69 = .ok (.iload_n 2, 1) := by decide +kernel
theorem dX0_searchTriples_70 : decode cX0_searchTriples 70 = .ok (.iload 4, 2) := by decide +kernel
theorem dX0_searchTriples_72 : decode cX0_searchTriples 72 = .ok (.invokevirtual 40, 3) := by decide +kernel
theorem dX0_searchTriples_75 : decode cX0_searchTriples 75 = .ok (.iinc 4 1, 3) := by decide +kernel
theorem dX0_searchTriples_78 : decode cX0_searchTriples 78 = .ok (.goto (-37), 3) := by decide +kernel
theorem dX0_searchTriples_81 : decode cX0_searchTriples 81 = .ok (.iinc 2 1, 3) := by decide +kernel
theorem dX0_searchTriples_84 : decode cX0_searchTriples 84 = .ok (.goto (-70), 3) := by decide +kernel
theorem dX0_searchTriples_87 : decode cX0_searchTriples 87 = .ok (.iinc 1 1, 3) := by decide +kernel
theorem dX0_searchTriples_90 : decode cX0_searchTriples 90 = .ok (.goto (-88), 3) := by decide +kernel
theorem dX0_searchTriples_93 : decode cX0_searchTriples 93 = .ok (.return_, 1) := by decide +kernel
theorem dX0_tally_0 : decode cX0_tally 0 = .ok (.aload_n 0, 1) := by decide +kernel
theorem dX0_tally_1 : decode cX0_tally 1 = .ok (.dup, 1) := by decide +kernel
theorem dX0_tally_2 : decode cX0_tally 2 = .ok (.getfield 28, 3) := by decide +kernel
theorem dX0_tally_5 : decode cX0_tally 5 = .ok (.iconst 1, 1) := by decide +kernel
theorem dX0_tally_6 : decode cX0_tally 6 = .ok (.iadd, 1) := by decide +kernel
theorem dX0_tally_7 : decode cX0_tally 7 = .ok (.putfield 28, 3) := by decide +kernel
theorem dX0_tally_10 : decode cX0_tally 10 = .ok (.aload_n 0, 1) := by decide +kernel
theorem dX0_tally_11 : decode cX0_tally 11 = .ok (.dup, 1) := by decide +kernel
theorem dX0_tally_12 : decode cX0_tally 12 = .ok (.getfield 34, 3) := by decide +kernel
theorem dX0_tally_15 : decode cX0_tally 15 = .ok (.lconst 1, 1) := by decide +kernel
theorem dX0_tally_16 : decode cX0_tally 16 = .ok (.aload_n 0, 1) := by decide +kernel
theorem dX0_tally_17 : decode cX0_tally 17 = .ok (.getfield 15, 3) := by decide +kernel
theorem dX0_tally_20 : decode cX0_tally 20 = .ok (.iload_n 2, 1) := by decide +kernel
theorem dX0_tally_21 : decode cX0_tally 21 = .ok (.iaload, 1) := by decide +kernel
theorem dX0_tally_22 : decode cX0_tally 22 = .ok (.lshl, 1) := by decide +kernel
theorem dX0_tally_23 : decode cX0_tally 23 = .ok (.lconst 1, 1) := by decide +kernel
theorem dX0_tally_24 : decode cX0_tally 24 = .ok (.aload_n 0, 1) := by decide +kernel
theorem dX0_tally_25 : decode cX0_tally 25 = .ok (.getfield 15, 3) := by decide +kernel
theorem dX0_tally_28 : decode cX0_tally 28 = .ok (.iload_n 3, 1) := by decide +kernel
theorem dX0_tally_29 : decode cX0_tally 29 = .ok (.iaload, 1) := by decide +kernel
theorem dX0_tally_30 : decode cX0_tally 30 = .ok (.lshl, 1) := by decide +kernel
theorem dX0_tally_31 : decode cX0_tally 31 = .ok (.lor, 1) := by decide +kernel
theorem dX0_tally_32 : decode cX0_tally 32 = .ok (.lconst 1, 1) := by decide +kernel
theorem dX0_tally_33 : decode cX0_tally 33 = .ok (.aload_n 0, 1) := by decide +kernel
theorem dX0_tally_34 : decode cX0_tally 34 = .ok (.getfield 15, 3) := by decide +kernel
theorem dX0_tally_37 : decode cX0_tally 37 = .ok (.iload 4, 2) := by decide +kernel
theorem dX0_tally_39 : decode cX0_tally 39 = .ok (.iaload, 1) := by decide +kernel
theorem dX0_tally_40 : decode cX0_tally 40 = .ok (.lshl, 1) := by decide +kernel
theorem dX0_tally_41 : decode cX0_tally 41 = .ok (.lor, 1) := by decide +kernel
theorem dX0_tally_42 : decode cX0_tally 42 = .ok (.land, 1) := by decide +kernel
theorem dX0_tally_43 : decode cX0_tally 43 = .ok (.putfield 34, 3) := by decide +kernel
theorem dX0_tally_46 : decode cX0_tally 46 = .ok (.aload_n 0, 1) := by decide +kernel
theorem dX0_tally_47 : decode cX0_tally 47 = .ok (.getfield 31, 3) := by decide +kernel
theorem dX0_tally_50 : decode cX0_tally 50 = .ok (.iconst (-1), 1) := by decide +kernel
theorem dX0_tally_51 : decode cX0_tally 51 = .ok (.if_icmp .ne 45, 3) := by decide +kernel
theorem dX0_tally_54 : decode cX0_tally 54 = .ok (.aload_n 0, 1) := by decide +kernel
theorem dX0_tally_55 : decode cX0_tally 55 = .ok (.iload_n 1, 1) := by decide +kernel
theorem dX0_tally_56 : decode cX0_tally 56 = .ok (.putfield 31, 3) := by decide +kernel
theorem dX0_tally_59 : decode cX0_tally 59 = .ok (.aload_n 0, 1) := by decide +kernel
theorem dX0_tally_60 : decode cX0_tally 60 = .ok (.getfield 18, 3) := by decide +kernel
theorem dX0_tally_63 : decode cX0_tally 63 = .ok (.iconst 0, 1) := by decide +kernel
theorem dX0_tally_64 : decode cX0_tally 64 = .ok (.aload_n 0, 1) := by decide +kernel
theorem dX0_tally_65 : decode cX0_tally 65 = .ok (.getfield 15, 3) := by decide +kernel
theorem dX0_tally_68 : decode cX0_tally 68 = .ok (.iload_n 2, 1) := by decide +kernel
theorem dX0_tally_69 : decode cX0_tally 69 = .ok (.iaload, 1) := by decide +kernel
theorem dX0_tally_70 : decode cX0_tally 70 = .ok (.iastore, 1) := by decide +kernel
theorem dX0_tally_71 : decode cX0_tally 71 = .ok (.aload_n 0, 1) := by decide +kernel
theorem dX0_tally_72 : decode cX0_tally 72 = .ok (.getfield 18, 3) := by decide +kernel
theorem dX0_tally_75 : decode cX0_tally 75 = .ok (.iconst 1, 1) := by decide +kernel
theorem dX0_tally_76 : decode cX0_tally 76 = .ok (.aload_n 0, 1) := by decide +kernel
theorem dX0_tally_77 : decode cX0_tally 77 = .ok (.getfield 15, 3) := by decide +kernel
theorem dX0_tally_80 : decode cX0_tally 80 = .ok (.iload_n 3, 1) := by decide +kernel
theorem dX0_tally_81 : decode cX0_tally 81 = .ok (.iaload, 1) := by decide +kernel
theorem dX0_tally_82 : decode cX0_tally 82 = .ok (.iastore, 1) := by decide +kernel
theorem dX0_tally_83 : decode cX0_tally 83 = .ok (.aload_n 0, 1) := by decide +kernel
theorem dX0_tally_84 : decode cX0_tally 84 = .ok (.getfield 18, 3) := by decide +kernel
theorem dX0_tally_87 : decode cX0_tally 87 = .ok (.iconst 2, 1) := by decide +kernel
theorem dX0_tally_88 : decode cX0_tally 88 = .ok (.aload_n 0, 1) := by decide +kernel
theorem dX0_tally_89 : decode cX0_tally 89 = .ok (.getfield 15, 3) := by decide +kernel
theorem dX0_tally_92 : decode cX0_tally 92 = .ok (.iload 4, 2) := by decide +kernel
theorem dX0_tally_94 : decode cX0_tally 94 = .ok (.iaload, 1) := by decide +kernel
theorem dX0_tally_95 : decode cX0_tally 95 = .ok (.iastore, 1) := by decide +kernel
theorem dX0_tally_96 : decode cX0_tally 96 = .ok (.return_, 1) := by decide +kernel
theorem dX0_firstAt_0 : decode cX0_firstAt 0 = .ok (.iload_n 1, 1) := by decide +kernel
theorem dX0_firstAt_1 : decode cX0_firstAt 1 = .ok (.ifCond .lt 25, 3) := by decide +kernel
theorem dX0_firstAt_4 : decode cX0_firstAt 4 = .ok (.iload_n 1, 1) := by decide +kernel
theorem dX0_firstAt_5 : decode cX0_firstAt 5 = .ok (.aload_n 0, 1) := by decide +kernel
theorem dX0_firstAt_6 : decode cX0_firstAt 6 = .ok (.getfield 31, 3) := by decide +kernel
theorem dX0_firstAt_9 : decode cX0_firstAt 9 = .ok (.if_icmp .ge 17, 3) := by decide +kernel
theorem dX0_firstAt_12 : decode cX0_firstAt 12 = .ok (.iload_n 1, 1) := by decide +kernel
theorem dX0_firstAt_13 : decode cX0_firstAt 13 = .ok (.iconst 3, 1) := by decide +kernel
theorem dX0_firstAt_14 : decode cX0_firstAt 14 = .ok (.if_icmp .ge 12, 3) := by decide +kernel
theorem dX0_firstAt_17 : decode cX0_firstAt 17 = .ok (.aload_n 0, 1) := by decide +kernel
theorem dX0_firstAt_18 : decode cX0_firstAt 18 = .ok (.getfield 18, 3) := by decide +kernel
theorem dX0_firstAt_21 : decode cX0_firstAt 21 = .ok (.iload_n 1, 1) := by decide +kernel
theorem dX0_firstAt_22 : decode cX0_firstAt 22 = .ok (.iaload, 1) := by decide +kernel
theorem dX0_firstAt_23 : decode cX0_firstAt 23 = .ok (.goto 4, 3) := by decide +kernel
theorem dX0_firstAt_26 : decode cX0_firstAt 26 = .ok (.iconst (-1), 1) := by decide +kernel
theorem dX0_firstAt_27 : decode cX0_firstAt 27 = .ok (.ireturn, 1) := by decide +kernel
theorem dX0_commonAt_0 : decode cX0_commonAt 0 = .ok (.iconst 0, 1) := by decide +kernel
theorem dX0_commonAt_1 : decode cX0_commonAt 1 = .ok (.istore_n 2, 1) := by decide +kernel
theorem dX0_commonAt_2 : decode cX0_commonAt 2 = .ok (.iconst 0, 1) := by decide +kernel
theorem dX0_commonAt_3 : decode cX0_commonAt 3 = .ok (.istore_n 3, 1) := by decide +kernel
theorem dX0_commonAt_4 : decode cX0_commonAt 4 = .ok (.iload_n 3, 1) := by decide +kernel
theorem dX0_commonAt_5 : decode cX0_commonAt 5 = .ok (.bipush 64, 2) := by decide +kernel
theorem dX0_commonAt_7 : decode cX0_commonAt 7 = .ok (.if_icmp .ge 32, 3) := by decide +kernel
theorem dX0_commonAt_10 : decode cX0_commonAt 10 = .ok (.aload_n 0, 1) := by decide +kernel
theorem dX0_commonAt_11 : decode cX0_commonAt 11 = .ok (.getfield 34, 3) := by decide +kernel
theorem dX0_commonAt_14 : decode cX0_commonAt 14 = .ok (.iload_n 3, 1) := by decide +kernel
theorem dX0_commonAt_15 : decode cX0_commonAt 15 = .ok (.lushr, 1) := by decide +kernel
theorem dX0_commonAt_16 : decode cX0_commonAt 16 = .ok (.lconst 1, 1) := by decide +kernel
theorem dX0_commonAt_17 : decode cX0_commonAt 17 = .ok (.land, 1) := by decide +kernel
theorem dX0_commonAt_18 : decode cX0_commonAt 18 = .ok (.lconst 0, 1) := by decide +kernel
theorem dX0_commonAt_19 : decode cX0_commonAt 19 = .ok (.lcmp, 1) := by decide +kernel
theorem dX0_commonAt_20 : decode cX0_commonAt 20 = .ok (.ifCond .eq 13, 3) := by decide +kernel
theorem dX0_commonAt_23 : decode cX0_commonAt 23 = .ok (.iload_n 2, 1) := by decide +kernel
theorem dX0_commonAt_24 : decode cX0_commonAt 24 = .ok (.iload_n 1, 1) := by decide +kernel
theorem dX0_commonAt_25 : decode cX0_commonAt 25 = .ok (.if_icmp .ne 5, 3) := by decide +kernel
theorem dX0_commonAt_28 : decode cX0_commonAt 28 = .ok (.iload_n 3, 1) := by decide +kernel
theorem dX0_commonAt_29 : decode cX0_commonAt 29 = .ok (.ireturn, 1) := by decide +kernel
theorem dX0_commonAt_30 : decode cX0_commonAt 30 = .ok (.iinc 2 1, 3) := by decide +kernel
theorem dX0_commonAt_33 : decode cX0_commonAt 33 = .ok (.iinc 3 1, 3) := by decide +kernel
theorem dX0_commonAt_36 : decode cX0_commonAt 36 = .ok (.goto (-32), 3) := by decide +kernel
theorem dX0_commonAt_39 : decode cX0_commonAt 39 = .ok (.iconst (-1), 1) := by decide +kernel
theorem dX0_commonAt_40 : decode cX0_commonAt 40 = .ok (.ireturn, 1) := by decide +kernel
theorem dX0_canCover_0 : decode cX0_canCover 0 = .ok (.aload_n 0, 1) := by decide +kernel
theorem dX0_canCover_1 : decode cX0_canCover 1 = .ok (.iconst 0, 1) := by decide +kernel
theorem dX0_canCover_2 : decode cX0_canCover 2 = .ok (.iconst 0, 1) := by decide +kernel
theorem dX0_canCover_3 : decode cX0_canCover 3 = .ok (.iload_n 1, 1) := by decide +kernel
theorem dX0_canCover_4 : decode cX0_canCover 4 = .ok (.invokevirtual 50, 3) := by decide +kernel
theorem dX0_canCover_7 : decode cX0_canCover 7 = .ok (.ireturn, 1) := by decide +kernel
theorem dX0_canReach_0 : decode cX0_canReach 0 = .ok (.iload_n 1, 1) := by decide +kernel
theorem dX0_canReach_1 : decode cX0_canReach 1 = .ok (.istore 4, 2) := by decide +kernel
theorem dX0_canReach_3 : decode cX0_canReach 3 = .ok (.iload 4, 2) := by decide +kernel
theorem dX0_canReach_5 : decode cX0_canReach 5 = .ok (.aload_n 0, 1) := by decide +kernel
theorem dX0_canReach_6 : decode cX0_canReach 6 = .ok (.getfield 21, 3) := by decide +kernel
theorem dX0_canReach_9 : decode cX0_canReach 9 = .ok (.if_icmp .ge 51, 3) := by decide +kernel
theorem dX0_canReach_12 : decode cX0_canReach 12 = .ok (.iload_n 3, 1) := by decide +kernel
theorem dX0_canReach_13 : decode cX0_canReach 13 = .ok (.ifCond .le 47, 3) := by decide +kernel
theorem dX0_canReach_16 : decode cX0_canReach 16 = .ok (.iload_n 2, 1) := by decide +kernel
theorem dX0_canReach_17 : decode cX0_canReach 17 = .ok (.aload_n 0, 1) := by decide +kernel
theorem dX0_canReach_18 : decode cX0_canReach 18 = .ok (.getfield 9, 3) := by decide +kernel
theorem dX0_canReach_21 : decode cX0_canReach 21 = .ok (.iload 4, 2) := by decide +kernel
theorem dX0_canReach_23 : decode cX0_canReach 23 = .ok (.iaload, 1) := by decide +kernel
theorem dX0_canReach_24 : decode cX0_canReach 24 = .ok (.ior, 1) := by decide +kernel
theorem dX0_canReach_25 : decode cX0_canReach 25 = .ok (.istore 5, 2) := by decide +kernel
theorem dX0_canReach_27 : decode cX0_canReach 27 = .ok (.iload 5, 2) := by decide +kernel
theorem dX0_canReach_29 : decode cX0_canReach 29 = .ok (.aload_n 0, 1) := by decide +kernel
theorem dX0_canReach_30 : decode cX0_canReach 30 = .ok (.getfield 25, 3) := by decide +kernel
theorem dX0_canReach_33 : decode cX0_canReach 33 = .ok (.if_icmp .eq 19, 3) := by decide +kernel
theorem dX0_canReach_36 : decode cX0_canReach 36 = .ok (.aload_n 0, 1) := by decide +kernel
theorem dX0_canReach_37 : decode cX0_canReach 37 = .ok (.iload 4, 2) := by decide +kernel
theorem dX0_canReach_39 : decode cX0_canReach 39 = .ok (.iconst 1, 1) := by decide +kernel
theorem dX0_canReach_40 : decode cX0_canReach 40 = .ok (.iadd, 1) := by decide +kernel
theorem dX0_canReach_41 : decode cX0_canReach 41 = .ok (.iload 5, 2) := by decide +kernel
theorem dX0_canReach_43 : decode cX0_canReach 43 = .ok (.iload_n 3, 1) := by decide +kernel
theorem dX0_canReach_44 : decode cX0_canReach 44 = .ok (.iconst 1, 1) := by decide +kernel
theorem dX0_canReach_45 : decode cX0_canReach 45 = .ok (.isub, 1) := by decide +kernel
theorem dX0_canReach_46 : decode cX0_canReach 46 = .ok (.invokevirtual 50, 3) := by decide +kernel
theorem dX0_canReach_49 : decode cX0_canReach 49 = .ok (.ifCond .eq 5, 3) := by decide +kernel
theorem dX0_canReach_52 : decode cX0_canReach 52 = .ok (.iconst 1, 1) := by decide +kernel
theorem dX0_canReach_53 : decode cX0_canReach 53 = .ok (.ireturn, 1) := by decide +kernel
theorem dX0_canReach_54 : decode cX0_canReach 54 = .ok (.iinc 4 1, 3) := by decide +kernel
theorem dX0_canReach_57 : decode cX0_canReach 57 = .ok (.goto (-54), 3) := by decide +kernel
theorem dX0_canReach_60 : decode cX0_canReach 60 = .ok (.iconst 0, 1) := by decide +kernel
theorem dX0_canReach_61 : decode cX0_canReach 61 = .ok (.ireturn, 1) := by decide +kernel
theorem dX1_init_0 : decode cX1_init 0 = .ok (.aload_n 0, 1) := by decide +kernel
theorem dX1_init_1 : decode cX1_init 1 = .ok (.invokespecial 3, 3) := by decide +kernel
theorem dX1_init_4 : decode cX1_init 4 = .ok (.aload_n 0, 1) := by decide +kernel
theorem dX1_init_5 : decode cX1_init 5 = .ok (.bipush 7, 2) := by decide +kernel
theorem dX1_init_7 : decode cX1_init 7 = .ok (.putfield 9, 3) := by decide +kernel
theorem dX1_init_10 : decode cX1_init 10 = .ok (.aload_n 0, 1) := by decide +kernel
theorem dX1_init_11 : decode cX1_init 11 = .ok (.iconst 0, 1) := by decide +kernel
theorem dX1_init_12 : decode cX1_init 12 = .ok (.putfield 15, 3) := by decide +kernel
theorem dX1_init_15 : decode cX1_init 15 = .ok (.aload_n 0, 1) := by decide +kernel
theorem dX1_init_16 : decode cX1_init 16 = .ok (.iconst 1, 1) := by decide +kernel
theorem dX1_init_17 : decode cX1_init 17 = .ok (.putfield 18, 3) := by decide +kernel
theorem dX1_init_20 : decode cX1_init 20 = .ok (.aload_n 0, 1) := by decide +kernel
theorem dX1_init_21 : decode cX1_init 21 = .ok (.iconst 0, 1) := by decide +kernel
theorem dX1_init_22 : decode cX1_init 22 = .ok (.putfield 21, 3) := by decide +kernel
theorem dX1_init_25 : decode cX1_init 25 = .ok (.return_, 1) := by decide +kernel
theorem dX1_all_0 : decode cX1_all 0 = .ok (.iconst 1, 1) := by decide +kernel
theorem dX1_all_1 : decode cX1_all 1 = .ok (.aload_n 0, 1) := by decide +kernel
theorem dX1_all_2 : decode cX1_all 2 = .ok (.getfield 9, 3) := by decide +kernel
theorem dX1_all_5 : decode cX1_all 5 = .ok (.ishl, 1) := by decide +kernel
theorem dX1_all_6 : decode cX1_all 6 = .ok (.iconst 1, 1) := by decide +kernel
theorem dX1_all_7 : decode cX1_all 7 = .ok (.isub, 1) := by decide +kernel
theorem dX1_all_8 : decode cX1_all 8 = .ok (.ireturn, 1) := by decide +kernel
theorem dX1_isSet_0 : decode cX1_isSet 0 = .ok (.iload_n 1, 1) := by decide +kernel
theorem dX1_isSet_1 : decode cX1_isSet 1 = .ok (.ifCond .lt 15, 3) := by decide +kernel
theorem dX1_isSet_4 : decode cX1_isSet 4 = .ok (.iload_n 1, 1) := by decide +kernel
theorem dX1_isSet_5 : decode cX1_isSet 5 = .ok (.aload_n 0, 1) := by decide +kernel
theorem dX1_isSet_6 : decode cX1_isSet 6 = .ok (.invokevirtual 24, 3) := by decide +kernel
theorem dX1_isSet_9 : decode cX1_isSet 9 = .ok (.if_icmp .gt 7, 3) := by decide +kernel
theorem dX1_isSet_12 : decode cX1_isSet 12 = .ok (.iconst 1, 1) := by decide +kernel
theorem dX1_isSet_13 : decode cX1_isSet 13 = .ok (.goto 4, 3) := by decide +kernel
theorem dX1_isSet_16 : decode cX1_isSet 16 = .ok (.iconst 0, 1) := by decide +kernel
theorem dX1_isSet_17 : decode cX1_isSet 17 = .ok (.ireturn, 1) := by decide +kernel
theorem dX1_isSeen_0 : decode cX1_isSeen 0 = .ok (.aload_n 0, 1) := by decide +kernel
theorem dX1_isSeen_1 : decode cX1_isSeen 1 = .ok (.iload_n 1, 1) := by decide +kernel
theorem dX1_isSeen_2 : decode cX1_isSeen 2 = .ok (.invokevirtual 28, 3) := by decide +kernel
theorem dX1_isSeen_5 : decode cX1_isSeen 5 = .ok (.ifCond .eq 21, 3) := by decide +kernel
theorem dX1_isSeen_8 : decode cX1_isSeen 8 = .ok (.aload_n 0, 1) := by decide +kernel
theorem dX1_isSeen_9 : decode cX1_isSeen 9 = .ok (.iload_n 2, 1) := by decide +kernel
theorem dX1_isSeen_10 : decode cX1_isSeen 10 = .ok (.invokevirtual 28, 3) := by decide +kernel
theorem dX1_isSeen_13 : decode cX1_isSeen 13 = .ok (.ifCond .eq 13, 3) := by decide +kernel
theorem dX1_isSeen_16 : decode cX1_isSeen 16 = .ok (.iload_n 1, 1) := by decide +kernel
theorem dX1_isSeen_17 : decode cX1_isSeen 17 = .ok (.iload_n 2, 1) := by decide +kernel
theorem dX1_isSeen_18 : decode cX1_isSeen 18 = .ok (.iand, 1) := by decide +kernel
theorem dX1_isSeen_19 : decode cX1_isSeen 19 = .ok (.ifCond .ne 7, 3) := by decide +kernel
theorem dX1_isSeen_22 : decode cX1_isSeen 22 = .ok (.iconst 1, 1) := by decide +kernel
theorem dX1_isSeen_23 : decode cX1_isSeen 23 = .ok (.goto 4, 3) := by decide +kernel
theorem dX1_isSeen_26 : decode cX1_isSeen 26 = .ok (.iconst 0, 1) := by decide +kernel
theorem dX1_isSeen_27 : decode cX1_isSeen 27 = .ok (.ireturn, 1) := by decide +kernel
theorem dX1_reversed_0 : decode cX1_reversed 0 = .ok (.iconst 0, 1) := by decide +kernel
theorem dX1_reversed_1 : decode cX1_reversed 1 = .ok (.istore_n 2, 1) := by decide +kernel
theorem dX1_reversed_2 : decode cX1_reversed 2 = .ok (.iconst 0, 1) := by decide +kernel
theorem dX1_reversed_3 : decode cX1_reversed 3 = .ok (.istore_n 3, 1) := by decide +kernel
theorem dX1_reversed_4 : decode cX1_reversed 4 = .ok (.iload_n 3, 1) := by decide +kernel
theorem dX1_reversed_5 : decode cX1_reversed 5 = .ok (.aload_n 0, 1) := by decide +kernel
theorem dX1_reversed_6 : decode cX1_reversed 6 = .ok (.getfield 9, 3) := by decide +kernel
theorem dX1_reversed_9 : decode cX1_reversed 9 = .ok (.if_icmp .ge 19, 3) := by decide +kernel
theorem dX1_reversed_12 : decode cX1_reversed 12 = .ok (.iload_n 2, 1) := by decide +kernel
theorem dX1_reversed_13 : decode cX1_reversed 13 = .ok (.iconst 1, 1) := by decide +kernel
theorem dX1_reversed_14 : decode cX1_reversed 14 = .ok (.ishl, 1) := by decide +kernel
theorem dX1_reversed_15 : decode cX1_reversed 15 = .ok (.iload_n 1, 1) := by decide +kernel
theorem dX1_reversed_16 : decode cX1_reversed 16 = .ok (.iload_n 3, 1) := by decide +kernel
theorem dX1_reversed_17 : decode cX1_reversed 17 = .ok (.ishr, 1) := by decide +kernel
theorem dX1_reversed_18 : decode cX1_reversed 18 = .ok (.iconst 1, 1) := by decide +kernel
theorem dX1_reversed_19 : decode cX1_reversed 19 = .ok (.iand, 1) := by decide +kernel
theorem dX1_reversed_20 : decode cX1_reversed 20 = .ok (.ior, 1) := by decide +kernel
theorem dX1_reversed_21 : decode cX1_reversed 21 = .ok (.istore_n 2, 1) := by decide +kernel
theorem dX1_reversed_22 : decode cX1_reversed 22 = .ok (.iinc 3 1, 3) := by decide +kernel
theorem dX1_reversed_25 : decode cX1_reversed 25 = .ok (.goto (-21), 3) := by decide +kernel
theorem dX1_reversed_28 : decode cX1_reversed 28 = .ok (.iload_n 2, 1) := by decide +kernel
theorem dX1_reversed_29 : decode cX1_reversed 29 = .ok (.ireturn, 1) := by decide +kernel
theorem dX1_agreement_0 : decode cX1_agreement 0 = .ok (.iload_n 1, 1) := by decide +kernel
theorem dX1_agreement_1 : decode cX1_agreement 1 = .ok (.iload_n 2, 1) := by decide +kernel
theorem dX1_agreement_2 : decode cX1_agreement 2 = .ok (.ixor, 1) := by decide +kernel
theorem dX1_agreement_3 : decode cX1_agreement 3 = .ok (.iconst (-1), 1) := by decide +kernel
theorem dX1_agreement_4 : decode cX1_agreement 4 = .ok (.ixor, 1) := by decide +kernel
theorem dX1_agreement_5 : decode cX1_agreement 5 = .ok (.aload_n 0, 1) := by decide +kernel
theorem dX1_agreement_6 : decode cX1_agreement 6 = .ok (.invokevirtual 24, 3) := by decide +kernel
theorem dX1_agreement_9 : decode cX1_agreement 9 = .ok (.iand, 1) := by decide +kernel
theorem dX1_agreement_10 : decode cX1_agreement 10 = .ok (.ireturn, 1) := by decide +kernel
theorem dX1_extra_0 : decode cX1_extra 0 = .ok (.aload_n 0, 1) := by decide +kernel
theorem dX1_extra_1 : decode cX1_extra 1 = .ok (.getfield 15, 3) := by decide +kernel
theorem dX1_extra_4 : decode cX1_extra 4 = .ok (.iconst 1, 1) := by decide +kernel
theorem dX1_extra_5 : decode cX1_extra 5 = .ok (.if_icmp .ne 7, 3) := by decide +kernel
theorem dX1_extra_8 : decode cX1_extra 8 = .ok (.iconst 0, 1) := by decide +kernel
theorem dX1_extra_9 : decode cX1_extra 9 = .ok (.goto 7, 3) := by decide +kernel
theorem dX1_extra_12 : decode cX1_extra 12 = .ok (.aload_n 0, 1) := by decide +kernel
theorem dX1_extra_13 : decode cX1_extra 13 = .ok (.getfield 21, 3) := by decide +kernel
theorem dX1_extra_16 : decode cX1_extra 16 = .ok (.ireturn, 1) := by decide +kernel
theorem dX1_canShow_0 : decode cX1_canShow 0 = .ok (.aload_n 0, 1) := by decide +kernel
theorem dX1_canShow_1 : decode cX1_canShow 1 = .ok (.getfield 15, 3) := by decide +kernel
theorem dX1_canShow_4 : decode cX1_canShow 4 = .ok (.ifCond .ne 29, 3) := by decide +kernel
theorem dX1_canShow_7 : decode cX1_canShow 7 = .ok (.iload_n 3, 1) := by decide +kernel
theorem dX1_canShow_8 : decode cX1_canShow 8 = .ok (.invokestatic 32, 3) := by decide +kernel
theorem dX1_canShow_11 : decode cX1_canShow 11 = .ok (.aload_n 0, 1) := by decide +kernel
theorem dX1_canShow_12 : decode cX1_canShow 12 = .ok (.getfield 18, 3) := by decide +kernel
theorem dX1_canShow_15 : decode cX1_canShow 15 = .ok (.if_icmp .gt 16, 3) := by decide +kernel
theorem dX1_canShow_18 : decode cX1_canShow 18 = .ok (.iload_n 1, 1) := by decide +kernel
theorem dX1_canShow_19 : decode cX1_canShow 19 = .ok (.iload_n 3, 1) := by decide +kernel
theorem dX1_canShow_20 : decode cX1_canShow 20 = .ok (.iconst (-1), 1) := by decide +kernel
theorem dX1_canShow_21 : decode cX1_canShow 21 = .ok (.ixor, 1) := by decide +kernel
theorem dX1_canShow_22 : decode cX1_canShow 22 = .ok (.iand, 1) := by decide +kernel
theorem dX1_canShow_23 : decode cX1_canShow 23 = .ok (.iload_n 2, 1) := by decide +kernel
theorem dX1_canShow_24 : decode cX1_canShow 24 = .ok (.if_icmp .ne 7, 3) := by decide +kernel
theorem dX1_canShow_27 : decode cX1_canShow 27 = .ok (.iconst 1, 1) := by decide +kernel
theorem dX1_canShow_28 : decode cX1_canShow 28 = .ok (.goto 4, 3) := by decide +kernel
theorem dX1_canShow_31 : decode cX1_canShow 31 = .ok (.iconst 0, 1) := by decide +kernel
theorem dX1_canShow_32 : decode cX1_canShow 32 = .ok (.ireturn, 1) := by decide +kernel
theorem dX1_canShow_33 : decode cX1_canShow 33 = .ok (.iload_n 3, 1) := by decide +kernel
theorem dX1_canShow_34 : decode cX1_canShow 34 = .ok (.ifCond .eq 5, 3) := by decide +kernel
theorem dX1_canShow_37 : decode cX1_canShow 37 = .ok (.iconst 0, 1) := by decide +kernel
theorem dX1_canShow_38 : decode cX1_canShow 38 = .ok (.ireturn, 1) := by decide +kernel
theorem dX1_canShow_39 : decode cX1_canShow 39 = .ok (.aload_n 0, 1) := by decide +kernel
theorem dX1_canShow_40 : decode cX1_canShow 40 = .ok (.iload_n 1, 1) := by decide +kernel
theorem dX1_canShow_41 : decode cX1_canShow 41 = .ok (.iload_n 2, 1) := by decide +kernel
theorem dX1_canShow_42 : decode cX1_canShow 42 = .ok (.invokevirtual 38, 3) := by decide +kernel
theorem dX1_canShow_45 : decode cX1_canShow 45 = .ok (.ifCond .ne 24, 3) := by decide +kernel
theorem dX1_canShow_48 : decode cX1_canShow 48 = .ok (.aload_n 0, 1) := by decide +kernel
theorem dX1_canShow_49 : decode cX1_canShow 49 = .ok (.getfield 15, 3) := by decide +kernel
theorem dX1_canShow_52 : decode cX1_canShow 52 = .ok (.iconst 3, 1) := by decide +kernel
theorem dX1_canShow_53 : decode cX1_canShow 53 = .ok (.if_icmp .ne 20, 3) := by decide +kernel
theorem dX1_canShow_56 : decode cX1_canShow 56 = .ok (.aload_n 0, 1) := by decide +kernel
theorem dX1_canShow_57 : decode cX1_canShow 57 = .ok (.aload_n 0, 1) := by decide +kernel
theorem dX1_canShow_58 : decode cX1_canShow 58 = .ok (.iload_n 1, 1) := by decide +kernel
theorem dX1_canShow_59 : decode cX1_canShow 59 = .ok (.invokevirtual 42, 3) := by decide +kernel
theorem dX1_canShow_62 : decode cX1_canShow 62 = .ok (.iload_n 2, 1) := by decide +kernel
theorem dX1_canShow_63 : decode cX1_canShow 63 = .ok (.invokevirtual 38, 3) := by decide +kernel
theorem dX1_canShow_66 : decode cX1_canShow 66 = .ok (.ifCond .eq 7, 3) := by decide +kernel
theorem dX1_canShow_69 : decode cX1_canShow 69 = .ok (.iconst 1, 1) := by decide +kernel
theorem dX1_canShow_70 : decode cX1_canShow 70 = .ok (.goto 4, 3) := by decide +kernel
theorem dX1_canShow_73 : decode cX1_canShow 73 = .ok (.iconst 0, 1) := by decide +kernel
theorem dX1_canShow_74 : decode cX1_canShow 74 = .ok (.ireturn, 1) := by decide +kernel
theorem dX1_strays_0 : decode cX1_strays 0 = .ok (.iload_n 1, 1) := by decide +kernel
theorem dX1_strays_1 : decode cX1_strays 1 = .ok (.iload_n 2, 1) := by decide +kernel
theorem dX1_strays_2 : decode cX1_strays 2 = .ok (.iconst (-1), 1) := by decide +kernel
theorem dX1_strays_3 : decode cX1_strays 3 = .ok (.ixor, 1) := by decide +kernel
theorem dX1_strays_4 : decode cX1_strays 4 = .ok (.iand, 1) := by decide +kernel
theorem dX1_strays_5 : decode cX1_strays 5 = .ok (.invokestatic 32, 3) := by decide +kernel
theorem dX1_strays_8 : decode cX1_strays 8 = .ok (.aload_n 0, 1) := by decide +kernel
theorem dX1_strays_9 : decode cX1_strays 9 = .ok (.getfield 18, 3) := by decide +kernel
theorem dX1_strays_12 : decode cX1_strays 12 = .ok (.if_icmp .gt 22, 3) := by decide +kernel
theorem dX1_strays_15 : decode cX1_strays 15 = .ok (.iload_n 2, 1) := by decide +kernel
theorem dX1_strays_16 : decode cX1_strays 16 = .ok (.iload_n 1, 1) := by decide +kernel
theorem dX1_strays_17 : decode cX1_strays 17 = .ok (.iconst (-1), 1) := by decide +kernel
theorem dX1_strays_18 : decode cX1_strays 18 = .ok (.ixor, 1) := by decide +kernel
theorem dX1_strays_19 : decode cX1_strays 19 = .ok (.iand, 1) := by decide +kernel
theorem dX1_strays_20 : decode cX1_strays 20 = .ok (.invokestatic 32, 3) := by decide +kernel
theorem dX1_strays_23 : decode cX1_strays 23 = .ok (.aload_n 0, 1) := by decide +kernel
theorem dX1_strays_24 : decode cX1_strays 24 = .ok (.invokevirtual 45, 3) := by decide +kernel
theorem dX1_strays_27 : decode cX1_strays 27 = .ok (.if_icmp .gt 7, 3) := by decide +kernel
theorem dX1_strays_30 : decode cX1_strays 30 = .ok (.iconst 1, 1) := by decide +kernel
theorem dX1_strays_31 : decode cX1_strays 31 = .ok (.goto 4, 3) := by decide +kernel
theorem dX1_strays_34 : decode cX1_strays 34 = .ok (.iconst 0, 1) := by decide +kernel
theorem dX1_strays_35 : decode cX1_strays 35 = .ok (.ireturn, 1) := by decide +kernel
theorem dX1_alike_0 : decode cX1_alike 0 = .ok (.aload_n 0, 1) := by decide +kernel
theorem dX1_alike_1 : decode cX1_alike 1 = .ok (.getfield 15, 3) := by decide +kernel
theorem dX1_alike_4 : decode cX1_alike 4 = .ok (.ifCond .ne 22, 3) := by decide +kernel
theorem dX1_alike_7 : decode cX1_alike 7 = .ok (.iload_n 1, 1) := by decide +kernel
theorem dX1_alike_8 : decode cX1_alike 8 = .ok (.iload_n 3, 1) := by decide +kernel
theorem dX1_alike_9 : decode cX1_alike 9 = .ok (.ixor, 1) := by decide +kernel
theorem dX1_alike_10 : decode cX1_alike 10 = .ok (.invokestatic 32, 3) := by decide +kernel
theorem dX1_alike_13 : decode cX1_alike 13 = .ok (.aload_n 0, 1) := by decide +kernel
theorem dX1_alike_14 : decode cX1_alike 14 = .ok (.getfield 18, 3) := by decide +kernel
theorem dX1_alike_17 : decode cX1_alike 17 = .ok (.if_icmp .gt 7, 3) := by decide +kernel
theorem dX1_alike_20 : decode cX1_alike 20 = .ok (.iconst 1, 1) := by decide +kernel
theorem dX1_alike_21 : decode cX1_alike 21 = .ok (.goto 4, 3) := by decide +kernel
theorem dX1_alike_24 : decode cX1_alike 24 = .ok (.iconst 0, 1) := by decide +kernel
theorem dX1_alike_25 : decode cX1_alike 25 = .ok (.ireturn, 1) := by decide +kernel
theorem dX1_alike_26 : decode cX1_alike 26 = .ok (.aload_n 0, 1) := by decide +kernel
theorem dX1_alike_27 : decode cX1_alike 27 = .ok (.iload_n 1, 1) := by decide +kernel
theorem dX1_alike_28 : decode cX1_alike 28 = .ok (.iload_n 3, 1) := by decide +kernel
theorem dX1_alike_29 : decode cX1_alike 29 = .ok (.invokevirtual 48, 3) := by decide +kernel
theorem dX1_alike_32 : decode cX1_alike 32 = .ok (.ifCond .ne 20, 3) := by decide +kernel
theorem dX1_alike_35 : decode cX1_alike 35 = .ok (.aload_n 0, 1) := by decide +kernel
theorem dX1_alike_36 : decode cX1_alike 36 = .ok (.getfield 15, 3) := by decide +kernel
theorem dX1_alike_39 : decode cX1_alike 39 = .ok (.iconst 3, 1) := by decide +kernel
theorem dX1_alike_40 : decode cX1_alike 40 = .ok (.if_icmp .ne 16, 3) := by decide +kernel
theorem dX1_alike_43 : decode cX1_alike 43 = .ok (.aload_n 0, 1) := by decide +kernel
theorem dX1_alike_44 : decode cX1_alike 44 = .ok (.iload_n 2, 1) := by decide +kernel
theorem dX1_alike_45 : decode cX1_alike 45 = .ok (.iload_n 3, 1) := by decide +kernel
theorem dX1_alike_46 : decode cX1_alike 46 = .ok (.invokevirtual 48, 3) := by decide +kernel
theorem dX1_alike_49 : decode cX1_alike 49 = .ok (.ifCond .eq 7, 3) := by decide +kernel
theorem dX1_alike_52 : decode cX1_alike 52 = .ok (.iconst 1, 1) := by decide +kernel
theorem dX1_alike_53 : decode cX1_alike 53 = .ok (.goto 4, 3) := by decide +kernel
theorem dX1_alike_56 : decode cX1_alike 56 = .ok (.iconst 0, 1) := by decide +kernel
theorem dX1_alike_57 : decode cX1_alike 57 = .ok (.ireturn, 1) := by decide +kernel
theorem dX1_near_0 : decode cX1_near 0 = .ok (.aload_n 0, 1) := by decide +kernel
theorem dX1_near_1 : decode cX1_near 1 = .ok (.getfield 18, 3) := by decide +kernel
theorem dX1_near_4 : decode cX1_near 4 = .ok (.aload_n 0, 1) := by decide +kernel
theorem dX1_near_5 : decode cX1_near 5 = .ok (.invokevirtual 45, 3) := by decide +kernel
theorem dX1_near_8 : decode cX1_near 8 = .ok (.iadd, 1) := by decide +kernel
theorem dX1_near_9 : decode cX1_near 9 = .ok (.istore_n 3, 1) := by decide +kernel
theorem dX1_near_10 : decode cX1_near 10 = .ok (.iload_n 1, 1) := by decide +kernel
theorem dX1_near_11 : decode cX1_near 11 = .ok (.iload_n 2, 1) := by decide +kernel
theorem dX1_near_12 : decode cX1_near 12 = .ok (.iconst (-1), 1) := by decide +kernel
theorem dX1_near_13 : decode cX1_near 13 = .ok (.ixor, 1) := by decide +kernel
theorem dX1_near_14 : decode cX1_near 14 = .ok (.iand, 1) := by decide +kernel
theorem dX1_near_15 : decode cX1_near 15 = .ok (.invokestatic 32, 3) := by decide +kernel
theorem dX1_near_18 : decode cX1_near 18 = .ok (.iload_n 3, 1) := by decide +kernel
theorem dX1_near_19 : decode cX1_near 19 = .ok (.if_icmp .gt 19, 3) := by decide +kernel
theorem dX1_near_22 : decode cX1_near 22 = .ok (.iload_n 2, 1) := by decide +kernel
theorem dX1_near_23 : decode cX1_near 23 = .ok (.iload_n 1, 1) := by decide +kernel
theorem dX1_near_24 : decode cX1_near 24 = .ok (.iconst (-1), 1) := by decide +kernel
theorem dX1_near_25 : decode cX1_near 25 = .ok (.ixor, 1) := by decide +kernel
theorem dX1_near_26 : decode cX1_near 26 = .ok (.iand, 1) := by decide +kernel
theorem dX1_near_27 : decode cX1_near 27 = .ok (.invokestatic 32, 3) := by decide +kernel
theorem dX1_near_30 : decode cX1_near 30 = .ok (.iload_n 3, 1) := by decide +kernel
theorem dX1_near_31 : decode cX1_near 31 = .ok (.if_icmp .gt 7, 3) := by decide +kernel
theorem dX1_near_34 : decode cX1_near 34 = .ok (.iconst 1, 1) := by decide +kernel
theorem dX1_near_35 : decode cX1_near 35 = .ok (.goto 4, 3) := by decide +kernel
theorem dX1_near_38 : decode cX1_near 38 = .ok (.iconst 0, 1) := by decide +kernel
theorem dX1_near_39 : decode cX1_near 39 = .ok (.ireturn, 1) := by decide +kernel
theorem dX1_witnessLost_0 : decode cX1_witnessLost 0 = .ok (.aload_n 0, 1) := by decide +kernel
theorem dX1_witnessLost_1 : decode cX1_witnessLost 1 = .ok (.iload_n 1, 1) := by decide +kernel
theorem dX1_witnessLost_2 : decode cX1_witnessLost 2 = .ok (.aload_n 0, 1) := by decide +kernel
theorem dX1_witnessLost_3 : decode cX1_witnessLost 3 = .ok (.iload_n 1, 1) := by decide +kernel
theorem dX1_witnessLost_4 : decode cX1_witnessLost 4 = .ok (.invokevirtual 42, 3) := by decide +kernel
theorem dX1_witnessLost_7 : decode cX1_witnessLost 7 = .ok (.iload_n 2, 1) := by decide +kernel
theorem dX1_witnessLost_8 : decode cX1_witnessLost 8 = .ok (.invokevirtual 51, 3) := by decide +kernel
theorem dX1_witnessLost_11 : decode cX1_witnessLost 11 = .ok (.ifCond .ne 5, 3) := by decide +kernel
theorem dX1_witnessLost_14 : decode cX1_witnessLost 14 = .ok (.iconst (-1), 1) := by decide +kernel
theorem dX1_witnessLost_15 : decode cX1_witnessLost 15 = .ok (.ireturn, 1) := by decide +kernel
theorem dX1_witnessLost_16 : decode cX1_witnessLost 16 = .ok (.aload_n 0, 1) := by decide +kernel
theorem dX1_witnessLost_17 : decode cX1_witnessLost 17 = .ok (.getfield 15, 3) := by decide +kernel
theorem dX1_witnessLost_20 : decode cX1_witnessLost 20 = .ok (.ifCond .ne 9, 3) := by decide +kernel
theorem dX1_witnessLost_23 : decode cX1_witnessLost 23 = .ok (.iload_n 1, 1) := by decide +kernel
theorem dX1_witnessLost_24 : decode cX1_witnessLost 24 = .ok (.iload_n 2, 1) := by decide +kernel
theorem dX1_witnessLost_25 : decode cX1_witnessLost 25 = .ok (.ixor, 1) := by decide +kernel
theorem dX1_witnessLost_26 : decode cX1_witnessLost 26 = .ok (.goto 4, 3) := by decide +kernel
theorem dX1_witnessLost_29 : decode cX1_witnessLost 29 = .ok (.iconst 0, 1) := by decide +kernel
theorem dX1_witnessLost_30 : decode cX1_witnessLost 30 = .ok (.ireturn, 1) := by decide +kernel
theorem dX1_witnessSeen_0 : decode cX1_witnessSeen 0 = .ok (.aload_n 0, 1) := by decide +kernel
theorem dX1_witnessSeen_1 : decode cX1_witnessSeen 1 = .ok (.getfield 15, 3) := by decide +kernel
theorem dX1_witnessSeen_4 : decode cX1_witnessSeen 4 = .ok (.ifCond .ne 24, 3) := by decide +kernel
theorem dX1_witnessSeen_7 : decode cX1_witnessSeen 7 = .ok (.iload_n 1, 1) := by decide +kernel
theorem dX1_witnessSeen_8 : decode cX1_witnessSeen 8 = .ok (.iload_n 2, 1) := by decide +kernel
theorem dX1_witnessSeen_9 : decode cX1_witnessSeen 9 = .ok (.ixor, 1) := by decide +kernel
theorem dX1_witnessSeen_10 : decode cX1_witnessSeen 10 = .ok (.invokestatic 32, 3) := by decide +kernel
theorem dX1_witnessSeen_13 : decode cX1_witnessSeen 13 = .ok (.aload_n 0, 1) := by decide +kernel
theorem dX1_witnessSeen_14 : decode cX1_witnessSeen 14 = .ok (.getfield 18, 3) := by decide +kernel
theorem dX1_witnessSeen_17 : decode cX1_witnessSeen 17 = .ok (.if_icmp .gt 9, 3) := by decide +kernel
theorem dX1_witnessSeen_20 : decode cX1_witnessSeen 20 = .ok (.iload_n 1, 1) := by decide +kernel
theorem dX1_witnessSeen_21 : decode cX1_witnessSeen 21 = .ok (.iload_n 2, 1) := by decide +kernel
theorem dX1_witnessSeen_22 : decode cX1_witnessSeen 22 = .ok (.iand, 1) := by decide +kernel
theorem dX1_witnessSeen_23 : decode cX1_witnessSeen 23 = .ok (.goto 4, 3) := by decide +kernel
theorem dX1_witnessSeen_26 : decode cX1_witnessSeen 26 = .ok (.iconst (-1), 1) := by decide +kernel
theorem dX1_witnessSeen_27 : decode cX1_witnessSeen 27 = .ok (.ireturn, 1) := by decide +kernel
theorem dX1_witnessSeen_28 : decode cX1_witnessSeen 28 = .ok (.aload_n 0, 1) := by decide +kernel
theorem dX1_witnessSeen_29 : decode cX1_witnessSeen 29 = .ok (.iload_n 1, 1) := by decide +kernel
theorem dX1_witnessSeen_30 : decode cX1_witnessSeen 30 = .ok (.iload_n 2, 1) := by decide +kernel
theorem dX1_witnessSeen_31 : decode cX1_witnessSeen 31 = .ok (.invokevirtual 55, 3) := by decide +kernel
theorem dX1_witnessSeen_34 : decode cX1_witnessSeen 34 = .ok (.istore_n 3, 1) := by decide +kernel
theorem dX1_witnessSeen_35 : decode cX1_witnessSeen 35 = .ok (.aload_n 0, 1) := by decide +kernel
theorem dX1_witnessSeen_36 : decode cX1_witnessSeen 36 = .ok (.getfield 15, 3) := by decide +kernel
theorem dX1_witnessSeen_39 : decode cX1_witnessSeen 39 = .ok (.iconst 3, 1) := by decide +kernel
theorem dX1_witnessSeen_40 : decode cX1_witnessSeen 40 = .ok (.if_icmp .ne 54, 3) := by decide +kernel
theorem dX1_witnessSeen_43 : decode cX1_witnessSeen 43 = .ok (.aload_n 0, 1) := by decide +kernel
theorem dX1_witnessSeen_44 : decode cX1_witnessSeen 44 = .ok (.iload_n 1, 1) := by decide +kernel
theorem dX1_witnessSeen_45 : decode cX1_witnessSeen 45 = .ok (.invokevirtual 42, 3) := by decide +kernel
theorem dX1_witnessSeen_48 : decode cX1_witnessSeen 48 = .ok (.istore 4, 2) := by decide +kernel
theorem dX1_witnessSeen_50 : decode cX1_witnessSeen 50 = .ok (.aload_n 0, 1) := by decide +kernel
theorem dX1_witnessSeen_51 : decode cX1_witnessSeen 51 = .ok (.iload_n 2, 1) := by decide +kernel
theorem dX1_witnessSeen_52 : decode cX1_witnessSeen 52 = .ok (.invokevirtual 42, 3) := by decide +kernel
theorem dX1_witnessSeen_55 : decode cX1_witnessSeen 55 = .ok (.istore 5, 2) := by decide +kernel
theorem dX1_witnessSeen_57 : decode cX1_witnessSeen 57 = .ok (.iload_n 3, 1) := by decide +kernel
theorem dX1_witnessSeen_58 : decode cX1_witnessSeen 58 = .ok (.aload_n 0, 1) := by decide +kernel
theorem dX1_witnessSeen_59 : decode cX1_witnessSeen 59 = .ok (.iload 4, 2) := by decide +kernel
theorem dX1_witnessSeen_61 : decode cX1_witnessSeen 61 = .ok (.iload_n 2, 1) := by decide +kernel
theorem dX1_witnessSeen_62 : decode cX1_witnessSeen 62 = .ok (.invokevirtual 55, 3) := by decide +kernel
theorem dX1_witnessSeen_65 : decode cX1_witnessSeen 65 = .ok (.invokestatic 59, 3) := by decide +kernel
theorem dX1_witnessSeen_68 : decode cX1_witnessSeen 68 = .ok (.istore_n 3, 1) := by decide +kernel
theorem dX1_witnessSeen_69 : decode cX1_witnessSeen 69 = .ok (.iload_n 3, 1) := by decide +kernel
theorem dX1_witnessSeen_70 : decode cX1_witnessSeen 70 = .ok (.aload_n 0, 1) := by decide +kernel
theorem dX1_witnessSeen_71 : decode cX1_witnessSeen 71 = .ok (.iload_n 1, 1) := by decide +kernel
theorem dX1_witnessSeen_72 : decode cX1_witnessSeen 72 = .ok (.iload 5, 2) := by decide +kernel
theorem dX1_witnessSeen_74 : decode cX1_witnessSeen 74 = .ok (.invokevirtual 55, 3) := by decide +kernel
theorem dX1_witnessSeen_77 : decode cX1_witnessSeen 77 = .ok (.invokestatic 59, 3) := by decide +kernel
theorem dX1_witnessSeen_80 : decode cX1_witnessSeen 80 = .ok (.istore_n 3, 1) := by decide +kernel
theorem dX1_witnessSeen_81 : decode cX1_witnessSeen 81 = .ok (.iload_n 3, 1) := by decide +kernel
theorem dX1_witnessSeen_82 : decode cX1_witnessSeen 82 = .ok (.aload_n 0, 1) := by decide +kernel
theorem dX1_witnessSeen_83 : decode cX1_witnessSeen 83 = .ok (.iload 4, 2) := by decide +kernel
theorem dX1_witnessSeen_85 : decode cX1_witnessSeen 85 = .ok (.iload 5, 2) := by decide +kernel
theorem dX1_witnessSeen_87 : decode cX1_witnessSeen 87 = .ok (.invokevirtual 55, 3) := by decide +kernel
theorem dX1_witnessSeen_90 : decode cX1_witnessSeen 90 = .ok (.invokestatic 59, 3) := by decide +kernel
theorem dX1_witnessSeen_93 : decode cX1_witnessSeen 93 = .ok (.istore_n 3, 1) := by decide +kernel
theorem dX1_witnessSeen_94 : decode cX1_witnessSeen 94 = .ok (.iload_n 3, 1) := by decide +kernel
theorem dX1_witnessSeen_95 : decode cX1_witnessSeen 95 = .ok (.ireturn, 1) := by decide +kernel
theorem dX1_lesser_0 : decode cX1_lesser 0 = .ok (.iload_n 0, 1) := by decide +kernel
theorem dX1_lesser_1 : decode cX1_lesser 1 = .ok (.iconst (-1), 1) := by decide +kernel
theorem dX1_lesser_2 : decode cX1_lesser 2 = .ok (.if_icmp .eq 8, 3) := by decide +kernel
theorem dX1_lesser_5 : decode cX1_lesser 5 = .ok (.iload_n 1, 1) := by decide +kernel
theorem dX1_lesser_6 : decode cX1_lesser 6 = .ok (.iconst (-1), 1) := by decide +kernel
theorem dX1_lesser_7 : decode cX1_lesser 7 = .ok (.if_icmp .ne 9, 3) := by decide +kernel
theorem dX1_lesser_10 : decode cX1_lesser 10 = .ok (.iload_n 0, 1) := by decide +kernel
theorem dX1_lesser_11 : decode cX1_lesser 11 = .ok (.iload_n 1, 1) := by decide +kernel
theorem dX1_lesser_12 : decode cX1_lesser 12 = .ok (.invokestatic 62, 3) := by decide +kernel
theorem dX1_lesser_15 : decode cX1_lesser 15 = .ok (.ireturn, 1) := by decide +kernel
theorem dX1_lesser_16 : decode cX1_lesser 16 = .ok (.iload_n 0, 1) := by decide +kernel
theorem dX1_lesser_17 : decode cX1_lesser 17 = .ok (.iload_n 1, 1) := by decide +kernel
theorem dX1_lesser_18 : decode cX1_lesser 18 = .ok (.invokestatic 67, 3) := by decide +kernel
theorem dX1_lesser_21 : decode cX1_lesser 21 = .ok (.ireturn, 1) := by decide +kernel
theorem dX1_leastSeen_0 : decode cX1_leastSeen 0 = .ok (.aload_n 0, 1) := by decide +kernel
theorem dX1_leastSeen_1 : decode cX1_leastSeen 1 = .ok (.iload_n 1, 1) := by decide +kernel
theorem dX1_leastSeen_2 : decode cX1_leastSeen 2 = .ok (.iload_n 2, 1) := by decide +kernel
theorem dX1_leastSeen_3 : decode cX1_leastSeen 3 = .ok (.invokevirtual 48, 3) := by decide +kernel
theorem dX1_leastSeen_6 : decode cX1_leastSeen 6 = .ok (.ifCond .ne 5, 3) := by decide +kernel
theorem dX1_leastSeen_9 : decode cX1_leastSeen 9 = .ok (.iconst (-1), 1) := by decide +kernel
theorem dX1_leastSeen_10 : decode cX1_leastSeen 10 = .ok (.ireturn, 1) := by decide +kernel
theorem dX1_leastSeen_11 : decode cX1_leastSeen 11 = .ok (.iconst 0, 1) := by decide +kernel
theorem dX1_leastSeen_12 : decode cX1_leastSeen 12 = .ok (.istore_n 3, 1) := by decide +kernel
theorem dX1_leastSeen_13 : decode cX1_leastSeen 13 = .ok (.iconst 0, 1) := by decide +kernel
theorem dX1_leastSeen_14 : decode cX1_leastSeen 14 = .ok (.istore 4, 2) := by decide +kernel
theorem dX1_leastSeen_16 : decode cX1_leastSeen 16 = .ok (.aload_n 0, 1) := by decide +kernel
theorem dX1_leastSeen_17 : decode cX1_leastSeen 17 = .ok (.getfield 9, 3) := by decide +kernel
theorem dX1_leastSeen_20 : decode cX1_leastSeen 20 = .ok (.iconst 1, 1) := by decide +kernel
theorem dX1_leastSeen_21 : decode cX1_leastSeen 21 = .ok (.isub, 1) := by decide +kernel
theorem dX1_leastSeen_22 : decode cX1_leastSeen 22 = .ok (.istore 5, 2) := by decide +kernel
theorem dX1_leastSeen_24 : decode cX1_leastSeen 24 = .ok (.iload 5, 2) := by decide +kernel
theorem dX1_leastSeen_26 : decode cX1_leastSeen 26 = .ok (.ifCond .lt 37, 3) := by decide +kernel
theorem dX1_leastSeen_29 : decode cX1_leastSeen 29 = .ok (.iload 4, 2) := by decide +kernel
theorem dX1_leastSeen_31 : decode cX1_leastSeen 31 = .ok (.iconst 1, 1) := by decide +kernel
theorem dX1_leastSeen_32 : decode cX1_leastSeen 32 = .ok (.iload 5, 2) := by decide +kernel
theorem dX1_leastSeen_34 : decode cX1_leastSeen 34 = .ok (.ishl, 1) := by decide +kernel
theorem dX1_leastSeen_35 : decode cX1_leastSeen 35 = .ok (.ior, 1) := by decide +kernel
theorem dX1_leastSeen_36 : decode cX1_leastSeen 36 = .ok (.istore 4, 2) := by decide +kernel
theorem dX1_leastSeen_38 : decode cX1_leastSeen 38 = .ok (.aload_n 0, 1) := by decide +kernel
theorem dX1_leastSeen_39 : decode cX1_leastSeen 39 = .ok (.iload_n 1, 1) := by decide +kernel
theorem dX1_leastSeen_40 : decode cX1_leastSeen 40 = .ok (.iload_n 2, 1) := by decide +kernel
theorem dX1_leastSeen_41 : decode cX1_leastSeen 41 = .ok (.iload_n 3, 1) := by decide +kernel
theorem dX1_leastSeen_42 : decode cX1_leastSeen 42 = .ok (.iload 4, 2) := by decide +kernel
theorem dX1_leastSeen_44 : decode cX1_leastSeen 44 = .ok (.invokevirtual 70, 3) := by decide +kernel
theorem dX1_leastSeen_47 : decode cX1_leastSeen 47 = .ok (.ifCond .ne 10, 3) := by decide +kernel
theorem dX1_leastSeen_50 : decode cX1_leastSeen 50 = .ok (.iload_n 3, 1) := by decide +kernel
theorem dX1_leastSeen_51 : decode cX1_leastSeen 51 = .ok (.iconst 1, 1) := by decide +kernel
theorem dX1_leastSeen_52 : decode cX1_leastSeen 52 = .ok (.iload 5, 2) := by decide +kernel
theorem dX1_leastSeen_54 : decode cX1_leastSeen 54 = .ok (.ishl, 1) := by decide +kernel
theorem dX1_leastSeen_55 : decode cX1_leastSeen 55 = .ok (.ior, 1) := by decide +kernel
theorem dX1_leastSeen_56 : decode cX1_leastSeen 56 = .ok (.istore_n 3, 1) := by decide +kernel
theorem dX1_leastSeen_57 : decode cX1_leastSeen 57 = .ok (.iinc 5 (-1), 3) := by decide +kernel
theorem dX1_leastSeen_60 : decode cX1_leastSeen 60 = .ok (.goto (-36), 3) := by decide +kernel
theorem dX1_leastSeen_63 : decode cX1_leastSeen 63 = .ok (.iload_n 3, 1) := by decide +kernel
theorem dX1_leastSeen_64 : decode cX1_leastSeen 64 = .ok (.ireturn, 1) := by decide +kernel
theorem dX1_canEnd_0 : decode cX1_canEnd 0 = .ok (.aload_n 0, 1) := by decide +kernel
theorem dX1_canEnd_1 : decode cX1_canEnd 1 = .ok (.getfield 18, 3) := by decide +kernel
theorem dX1_canEnd_4 : decode cX1_canEnd 4 = .ok (.iload_n 1, 1) := by decide +kernel
theorem dX1_canEnd_5 : decode cX1_canEnd 5 = .ok (.iload 4, 2) := by decide +kernel
theorem dX1_canEnd_7 : decode cX1_canEnd 7 = .ok (.iand, 1) := by decide +kernel
theorem dX1_canEnd_8 : decode cX1_canEnd 8 = .ok (.iload_n 3, 1) := by decide +kernel
theorem dX1_canEnd_9 : decode cX1_canEnd 9 = .ok (.iconst (-1), 1) := by decide +kernel
theorem dX1_canEnd_10 : decode cX1_canEnd 10 = .ok (.ixor, 1) := by decide +kernel
theorem dX1_canEnd_11 : decode cX1_canEnd 11 = .ok (.iand, 1) := by decide +kernel
theorem dX1_canEnd_12 : decode cX1_canEnd 12 = .ok (.invokestatic 32, 3) := by decide +kernel
theorem dX1_canEnd_15 : decode cX1_canEnd 15 = .ok (.isub, 1) := by decide +kernel
theorem dX1_canEnd_16 : decode cX1_canEnd 16 = .ok (.istore 5, 2) := by decide +kernel
theorem dX1_canEnd_18 : decode cX1_canEnd 18 = .ok (.aload_n 0, 1) := by decide +kernel
theorem dX1_canEnd_19 : decode cX1_canEnd 19 = .ok (.getfield 18, 3) := by decide +kernel
theorem dX1_canEnd_22 : decode cX1_canEnd 22 = .ok (.iload_n 2, 1) := by decide +kernel
theorem dX1_canEnd_23 : decode cX1_canEnd 23 = .ok (.iload 4, 2) := by decide +kernel
theorem dX1_canEnd_25 : decode cX1_canEnd 25 = .ok (.iand, 1) := by decide +kernel
theorem dX1_canEnd_26 : decode cX1_canEnd 26 = .ok (.iload_n 3, 1) := by decide +kernel
theorem dX1_canEnd_27 : decode cX1_canEnd 27 = .ok (.iconst (-1), 1) := by decide +kernel
theorem dX1_canEnd_28 : decode cX1_canEnd 28 = .ok (.ixor, 1) := by decide +kernel
theorem dX1_canEnd_29 : decode cX1_canEnd 29 = .ok (.iand, 1) := by decide +kernel
theorem dX1_canEnd_30 : decode cX1_canEnd 30 = .ok (.invokestatic 32, 3) := by decide +kernel
theorem dX1_canEnd_33 : decode cX1_canEnd 33 = .ok (.isub, 1) := by decide +kernel
theorem dX1_canEnd_34 : decode cX1_canEnd 34 = .ok (.istore 6, 2) := by decide +kernel
theorem dX1_canEnd_36 : decode cX1_canEnd 36 = .ok (.aload_n 0, 1) := by decide +kernel
theorem dX1_canEnd_37 : decode cX1_canEnd 37 = .ok (.invokevirtual 45, 3) := by decide +kernel
theorem dX1_canEnd_40 : decode cX1_canEnd 40 = .ok (.iload_n 3, 1) := by decide +kernel
theorem dX1_canEnd_41 : decode cX1_canEnd 41 = .ok (.iload_n 1, 1) := by decide +kernel
theorem dX1_canEnd_42 : decode cX1_canEnd 42 = .ok (.iconst (-1), 1) := by decide +kernel
theorem dX1_canEnd_43 : decode cX1_canEnd 43 = .ok (.ixor, 1) := by decide +kernel
theorem dX1_canEnd_44 : decode cX1_canEnd 44 = .ok (.iand, 1) := by decide +kernel
theorem dX1_canEnd_45 : decode cX1_canEnd 45 = .ok (.invokestatic 32, 3) := by decide +kernel
theorem dX1_canEnd_48 : decode cX1_canEnd 48 = .ok (.isub, 1) := by decide +kernel
theorem dX1_canEnd_49 : decode cX1_canEnd 49 = .ok (.istore 7, 2) := by decide +kernel
theorem dX1_canEnd_51 : decode cX1_canEnd 51 = .ok (.aload_n 0, 1) := by decide +kernel
theorem dX1_canEnd_52 : decode cX1_canEnd 52 = .ok (.invokevirtual 45, 3) := by decide +kernel
theorem dX1_canEnd_55 : decode cX1_canEnd 55 = .ok (.iload_n 3, 1) := by decide +kernel
theorem dX1_canEnd_56 : decode cX1_canEnd 56 = .ok (.iload_n 2, 1) := by decide +kernel
theorem dX1_canEnd_57 : decode cX1_canEnd 57 = .ok (.iconst (-1), 1) := by decide +kernel
theorem dX1_canEnd_58 : decode cX1_canEnd 58 = .ok (.ixor, 1) := by decide +kernel
theorem dX1_canEnd_59 : decode cX1_canEnd 59 = .ok (.iand, 1) := by decide +kernel
theorem dX1_canEnd_60 : decode cX1_canEnd 60 = .ok (.invokestatic 32, 3) := by decide +kernel
theorem dX1_canEnd_63 : decode cX1_canEnd 63 = .ok (.isub, 1) := by decide +kernel
theorem dX1_canEnd_64 : decode cX1_canEnd 64 = .ok (.istore 8, 2) := by decide +kernel
theorem dX1_canEnd_66 : decode cX1_canEnd 66 = .ok (.iload 5, 2) := by decide +kernel
theorem dX1_canEnd_68 : decode cX1_canEnd 68 = .ok (.ifCond .lt 64, 3) := by decide +kernel
theorem dX1_canEnd_71 : decode cX1_canEnd 71 = .ok (.iload 6, 2) := by decide +kernel
theorem dX1_canEnd_73 : decode cX1_canEnd 73 = .ok (.ifCond .lt 59, 3) := by decide +kernel
theorem dX1_canEnd_76 : decode cX1_canEnd 76 = .ok (.iload 7, 2) := by decide +kernel
theorem dX1_canEnd_78 : decode cX1_canEnd 78 = .ok (.ifCond .lt 54, 3) := by decide +kernel
theorem dX1_canEnd_81 : decode cX1_canEnd 81 = .ok (.iload 8, 2) := by decide +kernel
theorem dX1_canEnd_83 : decode cX1_canEnd 83 = .ok (.ifCond .lt 49, 3) := by decide +kernel
theorem dX1_canEnd_86 : decode cX1_canEnd 86 = .ok (.iload_n 1, 1) := by decide +kernel
theorem dX1_canEnd_87 : decode cX1_canEnd 87 = .ok (.iload_n 2, 1) := by decide +kernel
theorem dX1_canEnd_88 : decode cX1_canEnd 88 = .ok (.iconst (-1), 1) := by decide +kernel
theorem dX1_canEnd_89 : decode cX1_canEnd 89 = .ok (.ixor, 1) := by decide +kernel
theorem dX1_canEnd_90 : decode cX1_canEnd 90 = .ok (.iand, 1) := by decide +kernel
theorem dX1_canEnd_91 : decode cX1_canEnd 91 = .ok (.iload 4, 2) := by decide +kernel
theorem dX1_canEnd_93 : decode cX1_canEnd 93 = .ok (.iconst (-1), 1) := by decide +kernel
theorem dX1_canEnd_94 : decode cX1_canEnd 94 = .ok (.ixor, 1) := by decide +kernel
theorem dX1_canEnd_95 : decode cX1_canEnd 95 = .ok (.iand, 1) := by decide +kernel
theorem dX1_canEnd_96 : decode cX1_canEnd 96 = .ok (.invokestatic 32, 3) := by decide +kernel
theorem dX1_canEnd_99 : decode cX1_canEnd 99 = .ok (.iload 5, 2) := by decide +kernel
theorem dX1_canEnd_101 : decode cX1_canEnd 101 = .ok (.iload 8, 2) := by decide +kernel
theorem dX1_canEnd_103 : decode cX1_canEnd 103 = .ok (.iadd, 1) := by decide +kernel
theorem dX1_canEnd_104 : decode cX1_canEnd 104 = .ok (.if_icmp .gt 28, 3) := by decide +kernel
theorem dX1_canEnd_107 : decode cX1_canEnd 107 = .ok (.iload_n 2, 1) := by decide +kernel
theorem dX1_canEnd_108 : decode cX1_canEnd 108 = .ok (.iload_n 1, 1) := by decide +kernel
theorem dX1_canEnd_109 : decode cX1_canEnd 109 = .ok (.iconst (-1), 1) := by decide +kernel
theorem dX1_canEnd_110 : decode cX1_canEnd 110 = .ok (.ixor, 1) := by decide +kernel
theorem dX1_canEnd_111 : decode cX1_canEnd 111 = .ok (.iand, 1) := by decide +kernel
theorem dX1_canEnd_112 : decode cX1_canEnd 112 = .ok (.iload 4, 2) := by decide +kernel
theorem dX1_canEnd_114 : decode cX1_canEnd 114 = .ok (.iconst (-1), 1) := by decide +kernel
theorem dX1_canEnd_115 : decode cX1_canEnd 115 = .ok (.ixor, 1) := by decide +kernel
theorem dX1_canEnd_116 : decode cX1_canEnd 116 = .ok (.iand, 1) := by decide +kernel
theorem dX1_canEnd_117 : decode cX1_canEnd 117 = .ok (.invokestatic 32, 3) := by decide +kernel
theorem dX1_canEnd_120 : decode cX1_canEnd 120 = .ok (.iload 6, 2) := by decide +kernel
theorem dX1_canEnd_122 : decode cX1_canEnd 122 = .ok (.iload 7, 2) := by decide +kernel
theorem dX1_canEnd_124 : decode cX1_canEnd 124 = .ok (.iadd, 1) := by decide +kernel
theorem dX1_canEnd_125 : decode cX1_canEnd 125 = .ok (.if_icmp .gt 7, 3) := by decide +kernel
theorem dX1_canEnd_128 : decode cX1_canEnd 128 = .ok (.iconst 1, 1) := by decide +kernel
theorem dX1_canEnd_129 : decode cX1_canEnd 129 = .ok (.goto 4, 3) := by decide +kernel
theorem dX1_canEnd_132 : decode cX1_canEnd 132 = .ok (.iconst 0, 1) := by decide +kernel
theorem dX1_canEnd_133 : decode cX1_canEnd 133 = .ok (.ireturn, 1) := by decide +kernel
theorem dX1_sightsOf_0 : decode cX1_sightsOf 0 = .ok (.aload_n 0, 1) := by decide +kernel
theorem dX1_sightsOf_1 : decode cX1_sightsOf 1 = .ok (.iload_n 1, 1) := by decide +kernel
theorem dX1_sightsOf_2 : decode cX1_sightsOf 2 = .ok (.invokevirtual 42, 3) := by decide +kernel
theorem dX1_sightsOf_5 : decode cX1_sightsOf 5 = .ok (.istore_n 2, 1) := by decide +kernel
theorem dX1_sightsOf_6 : decode cX1_sightsOf 6 = .ok (.aload_n 0, 1) := by decide +kernel
theorem dX1_sightsOf_7 : decode cX1_sightsOf 7 = .ok (.iload_n 1, 1) := by decide +kernel
theorem dX1_sightsOf_8 : decode cX1_sightsOf 8 = .ok (.iload_n 2, 1) := by decide +kernel
theorem dX1_sightsOf_9 : decode cX1_sightsOf 9 = .ok (.iand, 1) := by decide +kernel
theorem dX1_sightsOf_10 : decode cX1_sightsOf 10 = .ok (.invokestatic 32, 3) := by decide +kernel
theorem dX1_sightsOf_13 : decode cX1_sightsOf 13 = .ok (.iload_n 1, 1) := by decide +kernel
theorem dX1_sightsOf_14 : decode cX1_sightsOf 14 = .ok (.iload_n 2, 1) := by decide +kernel
theorem dX1_sightsOf_15 : decode cX1_sightsOf 15 = .ok (.iconst (-1), 1) := by decide +kernel
theorem dX1_sightsOf_16 : decode cX1_sightsOf 16 = .ok (.ixor, 1) := by decide +kernel
theorem dX1_sightsOf_17 : decode cX1_sightsOf 17 = .ok (.iand, 1) := by decide +kernel
theorem dX1_sightsOf_18 : decode cX1_sightsOf 18 = .ok (.invokestatic 32, 3) := by decide +kernel
theorem dX1_sightsOf_21 : decode cX1_sightsOf 21 = .ok (.invokevirtual 74, 3) := by decide +kernel
theorem dX1_sightsOf_24 : decode cX1_sightsOf 24 = .ok (.ireturn, 1) := by decide +kernel
theorem dX1_sights_0 : decode cX1_sights 0 = .ok (.aload_n 0, 1) := by decide +kernel
theorem dX1_sights_1 : decode cX1_sights 1 = .ok (.getfield 15, 3) := by decide +kernel
theorem dX1_sights_4 : decode cX1_sights 4 = .ok (.ifCond .ne 15, 3) := by decide +kernel
theorem dX1_sights_7 : decode cX1_sights 7 = .ok (.aload_n 0, 1) := by decide +kernel
theorem dX1_sights_8 : decode cX1_sights 8 = .ok (.getfield 9, 3) := by decide +kernel
theorem dX1_sights_11 : decode cX1_sights 11 = .ok (.aload_n 0, 1) := by decide +kernel
theorem dX1_sights_12 : decode cX1_sights 12 = .ok (.getfield 18, 3) := by decide +kernel
theorem dX1_sights_15 : decode cX1_sights 15 = .ok (.invokestatic 77, 3) := by decide +kernel
theorem dX1_sights_18 : decode cX1_sights 18 = .ok (.ireturn, 1) := by decide +kernel
theorem dX1_sights_19 : decode cX1_sights 19 = .ok (.iload_n 1, 1) := by decide +kernel
theorem dX1_sights_20 : decode cX1_sights 20 = .ok (.iload_n 2, 1) := by decide +kernel
theorem dX1_sights_21 : decode cX1_sights 21 = .ok (.iadd, 1) := by decide +kernel
theorem dX1_sights_22 : decode cX1_sights 22 = .ok (.istore_n 3, 1) := by decide +kernel
theorem dX1_sights_23 : decode cX1_sights 23 = .ok (.iload_n 3, 1) := by decide +kernel
theorem dX1_sights_24 : decode cX1_sights 24 = .ok (.aload_n 0, 1) := by decide +kernel
theorem dX1_sights_25 : decode cX1_sights 25 = .ok (.getfield 18, 3) := by decide +kernel
theorem dX1_sights_28 : decode cX1_sights 28 = .ok (.invokestatic 77, 3) := by decide +kernel
theorem dX1_sights_31 : decode cX1_sights 31 = .ok (.aload_n 0, 1) := by decide +kernel
theorem dX1_sights_32 : decode cX1_sights 32 = .ok (.getfield 9, 3) := by decide +kernel
theorem dX1_sights_35 : decode cX1_sights 35 = .ok (.iload_n 3, 1) := by decide +kernel
theorem dX1_sights_36 : decode cX1_sights 36 = .ok (.isub, 1) := by decide +kernel
theorem dX1_sights_37 : decode cX1_sights 37 = .ok (.aload_n 0, 1) := by decide +kernel
theorem dX1_sights_38 : decode cX1_sights 38 = .ok (.invokevirtual 45, 3) := by decide +kernel
theorem dX1_sights_41 : decode cX1_sights 41 = .ok (.invokestatic 77, 3) := by decide +kernel
theorem dX1_sights_44 : decode cX1_sights 44 = .ok (.imul, 1) := by decide +kernel
theorem dX1_sights_45 : decode cX1_sights 45 = .ok (.istore 4, 2) := by decide +kernel
theorem dX1_sights_47 : decode cX1_sights 47 = .ok (.aload_n 0, 1) := by decide +kernel
theorem dX1_sights_48 : decode cX1_sights 48 = .ok (.getfield 15, 3) := by decide +kernel
theorem dX1_sights_51 : decode cX1_sights 51 = .ok (.iconst 3, 1) := by decide +kernel
theorem dX1_sights_52 : decode cX1_sights 52 = .ok (.if_icmp .ne 17, 3) := by decide +kernel
theorem dX1_sights_55 : decode cX1_sights 55 = .ok (.iconst 2, 1) := by decide +kernel
theorem dX1_sights_56 : decode cX1_sights 56 = .ok (.iload 4, 2) := by decide +kernel
theorem dX1_sights_58 : decode cX1_sights 58 = .ok (.imul, 1) := by decide +kernel
theorem dX1_sights_59 : decode cX1_sights 59 = .ok (.aload_n 0, 1) := by decide +kernel
theorem dX1_sights_60 : decode cX1_sights 60 = .ok (.iload_n 1, 1) := by decide +kernel
theorem dX1_sights_61 : decode cX1_sights 61 = .ok (.iload_n 2, 1) := by decide +kernel
theorem dX1_sights_62 : decode cX1_sights 62 = .ok (.invokevirtual 80, 3) := by decide +kernel
theorem dX1_sights_65 : decode cX1_sights 65 = .ok (.isub, 1) := by decide +kernel
theorem dX1_sights_66 : decode cX1_sights 66 = .ok (.goto 5, 3) := by decide +kernel
theorem dX1_sights_69 : decode cX1_sights 69 = .ok (.iload 4, 2) := by decide +kernel
theorem dX1_sights_71 : decode cX1_sights 71 = .ok (.ireturn, 1) := by decide +kernel
theorem dX1_sightsBothWays_0 : decode cX1_sightsBothWays 0 = .ok (.aload_n 0, 1) := by decide +kernel
theorem dX1_sightsBothWays_1 : decode cX1_sightsBothWays 1 = .ok (.getfield 9, 3) := by decide +kernel
theorem dX1_sightsBothWays_4 : decode cX1_sightsBothWays 4 = .ok (.iload_n 1, 1) := by decide +kernel
theorem dX1_sightsBothWays_5 : decode cX1_sightsBothWays 5 = .ok (.isub, 1) := by decide +kernel
theorem dX1_sightsBothWays_6 : decode cX1_sightsBothWays 6 = .ok (.iconst 2, 1) := by decide +kernel
theorem dX1_sightsBothWays_7 : decode cX1_sightsBothWays 7 = .ok (.iload_n 2, 1) := by decide +kernel
theorem dX1_sightsBothWays_8 : decode cX1_sightsBothWays 8 = .ok (.imul, 1) := by decide +kernel
theorem dX1_sightsBothWays_9 : decode cX1_sightsBothWays 9 = .ok (.isub, 1) := by decide +kernel
theorem dX1_sightsBothWays_10 : decode cX1_sightsBothWays 10 = .ok (.istore_n 3, 1) := by decide +kernel
theorem dX1_sightsBothWays_11 : decode cX1_sightsBothWays 11 = .ok (.iconst 0, 1) := by decide +kernel
theorem dX1_sightsBothWays_12 : decode cX1_sightsBothWays 12 = .ok (.istore 4, 2) := by decide +kernel
theorem dX1_sightsBothWays_14 : decode cX1_sightsBothWays 14 = .ok (.iconst 0, 1) := by decide +kernel
theorem dX1_sightsBothWays_15 : decode cX1_sightsBothWays 15 = .ok (.istore 5, 2) := by decide +kernel
theorem dX1_sightsBothWays_17 : decode cX1_sightsBothWays 17 = .ok (.iload 5, 2) := by decide +kernel
theorem dX1_sightsBothWays_19 : decode cX1_sightsBothWays 19 = .ok (.aload_n 0, 1) := by decide +kernel
theorem dX1_sightsBothWays_20 : decode cX1_sightsBothWays 20 = .ok (.getfield 18, 3) := by decide +kernel
theorem dX1_sightsBothWays_23 : decode cX1_sightsBothWays 23 = .ok (.if_icmp .gt 98, 3) := by decide +kernel
theorem dX1_sightsBothWays_26 : decode cX1_sightsBothWays 26 = .ok (.iconst 0, 1) := by decide +kernel
theorem dX1_sightsBothWays_27 : decode cX1_sightsBothWays 27 = .ok (.istore 6, 2) := by decide +kernel
theorem dX1_sightsBothWays_29 : decode cX1_sightsBothWays 29 = .ok (.iload 6, 2) := by decide +kernel
theorem dX1_sightsBothWays_31 : decode cX1_sightsBothWays 31 = .ok (.aload_n 0, 1) := by decide +kernel
theorem dX1_sightsBothWays_32 : decode cX1_sightsBothWays 32 = .ok (.getfield 21, 3) := by decide +kernel
theorem dX1_sightsBothWays_35 : decode cX1_sightsBothWays 35 = .ok (.if_icmp .gt 80, 3) := by decide +kernel
theorem dX1_sightsBothWays_38 : decode cX1_sightsBothWays 38 = .ok (.iconst 0, 1) := by decide +kernel
theorem dX1_sightsBothWays_39 : decode cX1_sightsBothWays 39 = .ok (.istore 7, 2) := by decide +kernel
theorem dX1_sightsBothWays_41 : decode cX1_sightsBothWays 41 = .ok (.iconst 0, 1) := by decide +kernel
theorem dX1_sightsBothWays_42 : decode cX1_sightsBothWays 42 = .ok (.iload_n 2, 1) := by decide +kernel
theorem dX1_sightsBothWays_43 : decode cX1_sightsBothWays 43 = .ok (.aload_n 0, 1) := by decide +kernel
theorem dX1_sightsBothWays_44 : decode cX1_sightsBothWays 44 = .ok (.getfield 18, 3) := by decide +kernel
theorem dX1_sightsBothWays_47 : decode cX1_sightsBothWays 47 = .ok (.iload 5, 2) := by decide +kernel
theorem dX1_sightsBothWays_49 : decode cX1_sightsBothWays 49 = .ok (.isub, 1) := by decide +kernel
theorem dX1_sightsBothWays_50 : decode cX1_sightsBothWays 50 = .ok (.isub, 1) := by decide +kernel
theorem dX1_sightsBothWays_51 : decode cX1_sightsBothWays 51 = .ok (.invokestatic 62, 3) := by decide +kernel
theorem dX1_sightsBothWays_54 : decode cX1_sightsBothWays 54 = .ok (.istore 8, 2) := by decide +kernel
theorem dX1_sightsBothWays_56 : decode cX1_sightsBothWays 56 = .ok (.iload 8, 2) := by decide +kernel
theorem dX1_sightsBothWays_58 : decode cX1_sightsBothWays 58 = .ok (.aload_n 0, 1) := by decide +kernel
theorem dX1_sightsBothWays_59 : decode cX1_sightsBothWays 59 = .ok (.getfield 21, 3) := by decide +kernel
theorem dX1_sightsBothWays_62 : decode cX1_sightsBothWays 62 = .ok (.iload 6, 2) := by decide +kernel
theorem dX1_sightsBothWays_64 : decode cX1_sightsBothWays 64 = .ok (.isub, 1) := by decide +kernel
theorem dX1_sightsBothWays_65 : decode cX1_sightsBothWays 65 = .ok (.if_icmp .gt 20, 3) := by decide +kernel
theorem dX1_sightsBothWays_68 : decode cX1_sightsBothWays 68 = .ok (.iload 7, 2) := by decide +kernel
theorem dX1_sightsBothWays_70 : decode cX1_sightsBothWays 70 = .ok (.iload_n 2, 1) := by decide +kernel
theorem dX1_sightsBothWays_71 : decode cX1_sightsBothWays 71 = .ok (.iload 8, 2) := by decide +kernel
theorem dX1_sightsBothWays_73 : decode cX1_sightsBothWays 73 = .ok (.invokestatic 83, 3) := by decide +kernel
theorem dX1_sightsBothWays_76 : decode cX1_sightsBothWays 76 = .ok (.iadd, 1) := by decide +kernel
theorem dX1_sightsBothWays_77 : decode cX1_sightsBothWays 77 = .ok (.istore 7, 2) := by decide +kernel
theorem dX1_sightsBothWays_79 : decode cX1_sightsBothWays 79 = .ok (.iinc 8 1, 3) := by decide +kernel
theorem dX1_sightsBothWays_82 : decode cX1_sightsBothWays 82 = .ok (.goto (-26), 3) := by decide +kernel
theorem dX1_sightsBothWays_85 : decode cX1_sightsBothWays 85 = .ok (.iload 4, 2) := by decide +kernel
theorem dX1_sightsBothWays_87 : decode cX1_sightsBothWays 87 = .ok (.iload_n 1, 1) := by decide +kernel
theorem dX1_sightsBothWays_88 : decode cX1_sightsBothWays 88 = .ok (.iload 5, 2) := by decide +kernel
theorem dX1_sightsBothWays_90 : decode cX1_sightsBothWays 90 = .ok (.invokestatic 83, 3) := by decide +kernel
theorem dX1_sightsBothWays_93 : decode cX1_sightsBothWays 93 = .ok (.iload_n 3, 1) := by decide +kernel
theorem dX1_sightsBothWays_94 : decode cX1_sightsBothWays 94 = .ok (.iload 6, 2) := by decide +kernel
theorem dX1_sightsBothWays_96 : decode cX1_sightsBothWays 96 = .ok (.invokestatic 83, 3) := by decide +kernel
theorem dX1_sightsBothWays_99 : decode cX1_sightsBothWays 99 = .ok (.imul, 1) := by decide +kernel
theorem dX1_sightsBothWays_100 : decode cX1_sightsBothWays 100 = .ok (.iload 7, 2) := by decide +kernel
theorem dX1_sightsBothWays_102 : decode cX1_sightsBothWays 102 = .ok (.imul, 1) := by decide +kernel
theorem dX1_sightsBothWays_103 : decode cX1_sightsBothWays 103 = .ok (.iload 7, 2) := by decide +kernel
theorem dX1_sightsBothWays_105 : decode cX1_sightsBothWays 105 = .ok (.imul, 1) := by decide +kernel
theorem dX1_sightsBothWays_106 : decode cX1_sightsBothWays 106 = .ok (.iadd, 1) := by decide +kernel
theorem dX1_sightsBothWays_107 : decode cX1_sightsBothWays 107 = .ok (.istore 4, 2) := by decide +kernel
theorem dX1_sightsBothWays_109 : decode cX1_sightsBothWays 109 = .ok (.iinc 6 1, 3) := by decide +kernel
theorem dX1_sightsBothWays_112 : decode cX1_sightsBothWays 112 = .ok (.goto (-83), 3) := by decide +kernel
theorem dX1_sightsBothWays_115 : decode cX1_sightsBothWays 115 = .ok (.iinc 5 1, 3) := by decide +kernel
theorem dX1_sightsBothWays_118 : decode cX1_sightsBothWays 118 = .ok (.goto (-101), 3) := by decide +kernel
theorem dX1_sightsBothWays_121 : decode cX1_sightsBothWays 121 = .ok (.iload 4, 2) := by decide +kernel
theorem dX1_sightsBothWays_123 : decode cX1_sightsBothWays 123 = .ok (.ireturn, 1) := by decide +kernel
theorem dX1_leastSights_0 : decode cX1_leastSights 0 = .ok (.aload_n 0, 1) := by decide +kernel
theorem dX1_leastSights_1 : decode cX1_leastSights 1 = .ok (.getfield 9, 3) := by decide +kernel
theorem dX1_leastSights_4 : decode cX1_leastSights 4 = .ok (.iconst 2, 1) := by decide +kernel
theorem dX1_leastSights_5 : decode cX1_leastSights 5 = .ok (.idiv, 1) := by decide +kernel
theorem dX1_leastSights_6 : decode cX1_leastSights 6 = .ok (.istore_n 1, 1) := by decide +kernel
theorem dX1_leastSights_7 : decode cX1_leastSights 7 = .ok (.aload_n 0, 1) := by decide +kernel
theorem dX1_leastSights_8 : decode cX1_leastSights 8 = .ok (.iconst 0, 1) := by decide +kernel
theorem dX1_leastSights_9 : decode cX1_leastSights 9 = .ok (.iconst 0, 1) := by decide +kernel
theorem dX1_leastSights_10 : decode cX1_leastSights 10 = .ok (.invokevirtual 74, 3) := by decide +kernel
theorem dX1_leastSights_13 : decode cX1_leastSights 13 = .ok (.istore_n 2, 1) := by decide +kernel
theorem dX1_leastSights_14 : decode cX1_leastSights 14 = .ok (.iconst 0, 1) := by decide +kernel
theorem dX1_leastSights_15 : decode cX1_leastSights 15 = .ok (.istore_n 3, 1) := by decide +kernel
theorem dX1_leastSights_16 : decode cX1_leastSights 16 = .ok (.iload_n 3, 1) := by decide +kernel
theorem dX1_leastSights_17 : decode cX1_leastSights 17 = .ok (.iload_n 1, 1) := by decide +kernel
theorem dX1_leastSights_18 : decode cX1_leastSights 18 = .ok (.if_icmp .gt 63, 3) := by decide +kernel
theorem dX1_leastSights_21 : decode cX1_leastSights 21 = .ok (.iconst 0, 1) := by decide +kernel
theorem dX1_leastSights_22 : decode cX1_leastSights 22 = .ok (.istore 4, 2) := by decide +kernel
theorem dX1_leastSights_24 : decode cX1_leastSights 24 = .ok (.iload 4, 2) := by decide +kernel
theorem dX1_leastSights_26 : decode cX1_leastSights 26 = .ok (.iload_n 1, 1) := by decide +kernel
theorem dX1_leastSights_27 : decode cX1_leastSights 27 = .ok (.iload_n 3, 1) := by decide +kernel
theorem dX1_leastSights_28 : decode cX1_leastSights 28 = .ok (.isub, 1) := by decide +kernel
theorem dX1_leastSights_29 : decode cX1_leastSights 29 = .ok (.if_icmp .gt 46, 3) := by decide +kernel
theorem dX1_leastSights_32 : decode cX1_leastSights 32 = .ok (.iconst 0, 1) := by decide +kernel
theorem dX1_leastSights_33 : decode cX1_leastSights 33 = .ok (.istore 5, 2) := by decide +kernel
theorem dX1_leastSights_35 : decode cX1_leastSights 35 = .ok (.iload 5, 2) := by decide +kernel
theorem dX1_leastSights_37 : decode cX1_leastSights 37 = .ok (.aload_n 0, 1) := by decide +kernel
theorem dX1_leastSights_38 : decode cX1_leastSights 38 = .ok (.getfield 9, 3) := by decide +kernel
theorem dX1_leastSights_41 : decode cX1_leastSights 41 = .ok (.iconst 2, 1) := by decide +kernel
theorem dX1_leastSights_42 : decode cX1_leastSights 42 = .ok (.irem, 1) := by decide +kernel
theorem dX1_leastSights_43 : decode cX1_leastSights 43 = .ok (.if_icmp .gt 26, 3) := by decide +kernel
theorem dX1_leastSights_46 : decode cX1_leastSights 46 = .ok (.iload_n 2, 1) := by decide +kernel
theorem dX1_leastSights_47 : decode cX1_leastSights 47 = .ok (.aload_n 0, 1) := by decide +kernel
theorem dX1_leastSights_48 : decode cX1_leastSights 48 = .ok (.iconst 2, 1) := by decide +kernel
theorem dX1_leastSights_49 : decode cX1_leastSights 49 = .ok (.iload 4, 2) := by decide +kernel
theorem dX1_leastSights_51 : decode cX1_leastSights 51 = .ok (.imul, 1) := by decide +kernel
theorem dX1_leastSights_52 : decode cX1_leastSights 52 = .ok (.iload 5, 2) := by decide +kernel
theorem dX1_leastSights_54 : decode cX1_leastSights 54 = .ok (.iadd, 1) := by decide +kernel
theorem dX1_leastSights_55 : decode cX1_leastSights 55 = .ok (.iload_n 3, 1) := by decide +kernel
theorem dX1_leastSights_56 : decode cX1_leastSights 56 = .ok (.invokevirtual 74, 3) := by decide +kernel
theorem dX1_leastSights_59 : decode cX1_leastSights 59 = .ok (.invokestatic 67, 3) := by decide +kernel
theorem dX1_leastSights_62 : decode cX1_leastSights 62 = .ok (.istore_n 2, 1) := by decide +kernel
theorem dX1_leastSights_63 : decode cX1_leastSights 63 = .ok (.iinc 5 1, 3) := by decide +kernel
theorem dX1_leastSights_66 : decode cX1_leastSights 66 = .ok (.goto (-31), 3) := by decide +kernel
theorem dX1_leastSights_69 : decode cX1_leastSights 69 = .ok (.iinc 4 1, 3) := by decide +kernel
theorem dX1_leastSights_72 : decode cX1_leastSights 72 = .ok (.goto (-48), 3) := by decide +kernel
theorem dX1_leastSights_75 : decode cX1_leastSights 75 = .ok (.iinc 3 1, 3) := by decide +kernel
theorem dX1_leastSights_78 : decode cX1_leastSights 78 = .ok (.goto (-62), 3) := by decide +kernel
theorem dX1_leastSights_81 : decode cX1_leastSights 81 = .ok (.iload_n 2, 1) := by decide +kernel
theorem dX1_leastSights_82 : decode cX1_leastSights 82 = .ok (.ireturn, 1) := by decide +kernel
theorem dX1_allSights_0 : decode cX1_allSights 0 = .ok (.aload_n 0, 1) := by decide +kernel
theorem dX1_allSights_1 : decode cX1_allSights 1 = .ok (.getfield 15, 3) := by decide +kernel
theorem dX1_allSights_4 : decode cX1_allSights 4 = .ok (.ifCond .eq 10, 3) := by decide +kernel
theorem dX1_allSights_7 : decode cX1_allSights 7 = .ok (.iconst 1, 1) := by decide +kernel
theorem dX1_allSights_8 : decode cX1_allSights 8 = .ok (.aload_n 0, 1) := by decide +kernel
theorem dX1_allSights_9 : decode cX1_allSights 9 = .ok (.getfield 9, 3) := by decide +kernel
theorem dX1_allSights_12 : decode cX1_allSights 12 = .ok (.ishl, 1) := by decide +kernel
theorem dX1_allSights_13 : decode cX1_allSights 13 = .ok (.ireturn, 1) := by decide +kernel
theorem dX1_allSights_14 : decode cX1_allSights 14 = .ok (.iconst 0, 1) := by decide +kernel
theorem dX1_allSights_15 : decode cX1_allSights 15 = .ok (.istore_n 1, 1) := by decide +kernel
theorem dX1_allSights_16 : decode cX1_allSights 16 = .ok (.iconst 0, 1) := by decide +kernel
theorem dX1_allSights_17 : decode cX1_allSights 17 = .ok (.istore_n 2, 1) := by decide +kernel
theorem dX1_allSights_18 : decode cX1_allSights 18 = .ok (.iload_n 2, 1) := by decide +kernel
theorem dX1_allSights_19 : decode cX1_allSights 19 = .ok (.aload_n 0, 1) := by decide +kernel
theorem dX1_allSights_20 : decode cX1_allSights 20 = .ok (.getfield 18, 3) := by decide +kernel
theorem dX1_allSights_23 : decode cX1_allSights 23 = .ok (.if_icmp .gt 35, 3) := by decide +kernel
theorem dX1_allSights_26 : decode cX1_allSights 26 = .ok (.iload_n 2, 1) := by decide +kernel
theorem dX1_allSights_27 : decode cX1_allSights 27 = .ok (.aload_n 0, 1) := by decide +kernel
theorem dX1_allSights_28 : decode cX1_allSights 28 = .ok (.getfield 9, 3) := by decide +kernel
theorem dX1_allSights_31 : decode cX1_allSights 31 = .ok (.if_icmp .gt 27, 3) := by decide +kernel
theorem dX1_allSights_34 : decode cX1_allSights 34 = .ok (.iload_n 1, 1) := by decide +kernel
theorem dX1_allSights_35 : decode cX1_allSights 35 = .ok (.aload_n 0, 1) := by decide +kernel
theorem dX1_allSights_36 : decode cX1_allSights 36 = .ok (.getfield 9, 3) := by decide +kernel
theorem dX1_allSights_39 : decode cX1_allSights 39 = .ok (.iload_n 2, 1) := by decide +kernel
theorem dX1_allSights_40 : decode cX1_allSights 40 = .ok (.invokestatic 83, 3) := by decide +kernel
theorem dX1_allSights_43 : decode cX1_allSights 43 = .ok (.aload_n 0, 1) := by decide +kernel
theorem dX1_allSights_44 : decode cX1_allSights 44 = .ok (.getfield 9, 3) := by decide +kernel
theorem dX1_allSights_47 : decode cX1_allSights 47 = .ok (.iload_n 2, 1) := by decide +kernel
theorem dX1_allSights_48 : decode cX1_allSights 48 = .ok (.isub, 1) := by decide +kernel
theorem dX1_allSights_49 : decode cX1_allSights 49 = .ok (.ishl, 1) := by decide +kernel
theorem dX1_allSights_50 : decode cX1_allSights 50 = .ok (.iadd, 1) := by decide +kernel
theorem dX1_allSights_51 : decode cX1_allSights 51 = .ok (.istore_n 1, 1) := by decide +kernel
theorem dX1_allSights_52 : decode cX1_allSights 52 = .ok (.iinc 2 1, 3) := by decide +kernel
theorem dX1_allSights_55 : decode cX1_allSights 55 = .ok (.goto (-37), 3) := by decide +kernel
theorem dX1_allSights_58 : decode cX1_allSights 58 = .ok (.iload_n 1, 1) := by decide +kernel
theorem dX1_allSights_59 : decode cX1_allSights 59 = .ok (.ireturn, 1) := by decide +kernel
theorem dX1_upTo_0 : decode cX1_upTo 0 = .ok (.iconst 0, 1) := by decide +kernel
theorem dX1_upTo_1 : decode cX1_upTo 1 = .ok (.istore_n 2, 1) := by decide +kernel
theorem dX1_upTo_2 : decode cX1_upTo 2 = .ok (.iconst 0, 1) := by decide +kernel
theorem dX1_upTo_3 : decode cX1_upTo 3 = .ok (.istore_n 3, 1) := by decide +kernel
theorem dX1_upTo_4 : decode cX1_upTo 4 = .ok (.iload_n 3, 1) := by decide +kernel
theorem dX1_upTo_5 : decode cX1_upTo 5 = .ok (.iload_n 1, 1) := by decide +kernel
theorem dX1_upTo_6 : decode cX1_upTo 6 = .ok (.if_icmp .gt 17, 3) := by decide +kernel
theorem dX1_upTo_9 : decode cX1_upTo 9 = .ok (.iload_n 2, 1) := by decide +kernel
theorem dX1_upTo_10 : decode cX1_upTo 10 = .ok (.iload_n 0, 1) := by decide +kernel
theorem dX1_upTo_11 : decode cX1_upTo 11 = .ok (.iload_n 3, 1) := by decide +kernel
theorem dX1_upTo_12 : decode cX1_upTo 12 = .ok (.invokestatic 83, 3) := by decide +kernel
theorem dX1_upTo_15 : decode cX1_upTo 15 = .ok (.iadd, 1) := by decide +kernel
theorem dX1_upTo_16 : decode cX1_upTo 16 = .ok (.istore_n 2, 1) := by decide +kernel
theorem dX1_upTo_17 : decode cX1_upTo 17 = .ok (.iinc 3 1, 3) := by decide +kernel
theorem dX1_upTo_20 : decode cX1_upTo 20 = .ok (.goto (-16), 3) := by decide +kernel
theorem dX1_upTo_23 : decode cX1_upTo 23 = .ok (.iload_n 2, 1) := by decide +kernel
theorem dX1_upTo_24 : decode cX1_upTo 24 = .ok (.ireturn, 1) := by decide +kernel
theorem dX1_choose_0 : decode cX1_choose 0 = .ok (.iload_n 1, 1) := by decide +kernel
theorem dX1_choose_1 : decode cX1_choose 1 = .ok (.ifCond .lt 8, 3) := by decide +kernel
theorem dX1_choose_4 : decode cX1_choose 4 = .ok (.iload_n 1, 1) := by decide +kernel
theorem dX1_choose_5 : decode cX1_choose 5 = .ok (.iload_n 0, 1) := by decide +kernel
theorem dX1_choose_6 : decode cX1_choose 6 = .ok (.if_icmp .le 5, 3) := by decide +kernel
theorem dX1_choose_9 : decode cX1_choose 9 = .ok (.iconst 0, 1) := by decide +kernel
theorem dX1_choose_10 : decode cX1_choose 10 = .ok (.ireturn, 1) := by decide +kernel
theorem dX1_choose_11 : decode cX1_choose 11 = .ok (.iconst 1, 1) := by decide +kernel
theorem dX1_choose_12 : decode cX1_choose 12 = .ok (.istore_n 2, 1) := by decide +kernel
theorem dX1_choose_13 : decode cX1_choose 13 = .ok (.iconst 0, 1) := by decide +kernel
theorem dX1_choose_14 : decode cX1_choose 14 = .ok (.istore_n 3, 1) := by decide +kernel
theorem dX1_choose_15 : decode cX1_choose 15 = .ok (.iload_n 3, 1) := by decide +kernel
theorem dX1_choose_16 : decode cX1_choose 16 = .ok (.iload_n 1, 1) := by decide +kernel
theorem dX1_choose_17 : decode cX1_choose 17 = .ok (.if_icmp .ge 19, 3) := by decide +kernel
theorem dX1_choose_20 : decode cX1_choose 20 = .ok (.iload_n 2, 1) := by decide +kernel
theorem dX1_choose_21 : decode cX1_choose 21 = .ok (.iload_n 0, 1) := by decide +kernel
theorem dX1_choose_22 : decode cX1_choose 22 = .ok (.iload_n 3, 1) := by decide +kernel
theorem dX1_choose_23 : decode cX1_choose 23 = .ok (.isub, 1) := by decide +kernel
theorem dX1_choose_24 : decode cX1_choose 24 = .ok (.imul, 1) := by decide +kernel
theorem dX1_choose_25 : decode cX1_choose 25 = .ok (.iload_n 3, 1) := by decide +kernel
theorem dX1_choose_26 : decode cX1_choose 26 = .ok (.iconst 1, 1) := by decide +kernel
theorem dX1_choose_27 : decode cX1_choose 27 = .ok (.iadd, 1) := by decide +kernel
theorem dX1_choose_28 : decode cX1_choose 28 = .ok (.idiv, 1) := by decide +kernel
theorem dX1_choose_29 : decode cX1_choose 29 = .ok (.istore_n 2, 1) := by decide +kernel
theorem dX1_choose_30 : decode cX1_choose 30 = .ok (.iinc 3 1, 3) := by decide +kernel
theorem dX1_choose_33 : decode cX1_choose 33 = .ok (.goto (-18), 3) := by decide +kernel
theorem dX1_choose_36 : decode cX1_choose 36 = .ok (.iload_n 2, 1) := by decide +kernel
theorem dX1_choose_37 : decode cX1_choose 37 = .ok (.ireturn, 1) := by decide +kernel
theorem dX2_init_0 : decode cX2_init 0 = .ok (.aload_n 0, 1) := by decide +kernel
theorem dX2_init_1 : decode cX2_init 1 = .ok (.invokespecial 5, 3) := by decide +kernel
theorem dX2_init_4 : decode cX2_init 4 = .ok (.aload_n 0, 1) := by decide +kernel
theorem dX2_init_5 : decode cX2_init 5 = .ok (.bipush 32, 2) := by decide +kernel
theorem dX2_init_7 : decode cX2_init 7 = .ok (.newarray .int, 2) := by decide +kernel
theorem dX2_init_9 : decode cX2_init 9 = .ok (.putfield 11, 3) := by decide +kernel
theorem dX2_init_12 : decode cX2_init 12 = .ok (.aload_n 0, 1) := by decide +kernel
theorem dX2_init_13 : decode cX2_init 13 = .ok (.bipush 32, 2) := by decide +kernel
theorem dX2_init_15 : decode cX2_init 15 = .ok (.newarray .long, 2) := by decide +kernel
theorem dX2_init_17 : decode cX2_init 17 = .ok (.putfield 15, 3) := by decide +kernel
theorem dX2_init_20 : decode cX2_init 20 = .ok (.aload_n 0, 1) := by decide +kernel
theorem dX2_init_21 : decode cX2_init 21 = .ok (.bipush 33, 2) := by decide +kernel
theorem dX2_init_23 : decode cX2_init 23 = .ok (.newarray .int, 2) := by decide +kernel
theorem dX2_init_25 : decode cX2_init 25 = .ok (.putfield 19, 3) := by decide +kernel
theorem dX2_init_28 : decode cX2_init 28 = .ok (.aload_n 0, 1) := by decide +kernel
theorem dX2_init_29 : decode cX2_init 29 = .ok (.iconst 0, 1) := by decide +kernel
theorem dX2_init_30 : decode cX2_init 30 = .ok (.putfield 22, 3) := by decide +kernel
theorem dX2_init_33 : decode cX2_init 33 = .ok (.aload_n 0, 1) := by decide +kernel
theorem dX2_init_34 : decode cX2_init 34 = .ok (.iconst (-1), 1) := by decide +kernel
theorem dX2_init_35 : decode cX2_init 35 = .ok (.putfield 26, 3) := by decide +kernel
theorem dX2_init_38 : decode cX2_init 38 = .ok (.aload_n 0, 1) := by decide +kernel
theorem dX2_init_39 : decode cX2_init 39 = .ok (.iconst 0, 1) := by decide +kernel
theorem dX2_init_40 : decode cX2_init 40 = .ok (.putfield 29, 3) := by decide +kernel
theorem dX2_init_43 : decode cX2_init 43 = .ok (.return_, 1) := by decide +kernel
theorem dX2_forget_0 : decode cX2_forget 0 = .ok (.aload_n 0, 1) := by decide +kernel
theorem dX2_forget_1 : decode cX2_forget 1 = .ok (.iconst 0, 1) := by decide +kernel
theorem dX2_forget_2 : decode cX2_forget 2 = .ok (.putfield 29, 3) := by decide +kernel
theorem dX2_forget_5 : decode cX2_forget 5 = .ok (.return_, 1) := by decide +kernel
theorem dX2_seek_0 : decode cX2_seek 0 = .ok (.aload_n 0, 1) := by decide +kernel
theorem dX2_seek_1 : decode cX2_seek 1 = .ok (.getfield 29, 3) := by decide +kernel
theorem dX2_seek_4 : decode cX2_seek 4 = .ok (.ifCond .eq 12, 3) := by decide +kernel
theorem dX2_seek_7 : decode cX2_seek 7 = .ok (.aload_n 0, 1) := by decide +kernel
theorem dX2_seek_8 : decode cX2_seek 8 = .ok (.getfield 26, 3) := by decide +kernel
theorem dX2_seek_11 : decode cX2_seek 11 = .ok (.iload_n 2, 1) := by decide +kernel
theorem dX2_seek_12 : decode cX2_seek 12 = .ok (.if_icmp .ne 4, 3) := by decide +kernel
theorem dX2_seek_15 : decode cX2_seek 15 = .ok (.return_, 1) := by decide +kernel
theorem dX2_seek_16 : decode cX2_seek 16 = .ok (.aload_n 0, 1) := by decide +kernel
theorem dX2_seek_17 : decode cX2_seek 17 = .ok (.iconst 1, 1) := by decide +kernel
theorem dX2_seek_18 : decode cX2_seek 18 = .ok (.putfield 29, 3) := by decide +kernel
theorem dX2_seek_21 : decode cX2_seek 21 = .ok (.aload_n 0, 1) := by decide +kernel
theorem dX2_seek_22 : decode cX2_seek 22 = .ok (.iload_n 2, 1) := by decide +kernel
theorem dX2_seek_23 : decode cX2_seek 23 = .ok (.putfield 26, 3) := by decide +kernel
theorem dX2_seek_26 : decode cX2_seek 26 = .ok (.bipush 32, 2) := by decide +kernel
theorem dX2_seek_28 : decode cX2_seek 28 = .ok (.aload_n 1, 1) := by decide +kernel
theorem dX2_seek_29 : decode cX2_seek 29 = .ok (.invokevirtual 33, 3) := by decide +kernel
theorem dX2_seek_32 : decode cX2_seek 32 = .ok (.iconst 1, 1) := by decide +kernel
theorem dX2_seek_33 : decode cX2_seek 33 = .ok (.iadd, 1) := by decide +kernel
theorem dX2_seek_34 : decode cX2_seek 34 = .ok (.invokestatic 39, 3) := by decide +kernel
theorem dX2_seek_37 : decode cX2_seek 37 = .ok (.istore_n 3, 1) := by decide +kernel
theorem dX2_seek_38 : decode cX2_seek 38 = .ok (.iload_n 3, 1) := by decide +kernel
theorem dX2_seek_39 : decode cX2_seek 39 = .ok (.iload_n 2, 1) := by decide +kernel
theorem dX2_seek_40 : decode cX2_seek 40 = .ok (.invokestatic 45, 3) := by decide +kernel
theorem dX2_seek_43 : decode cX2_seek 43 = .ok (.lstore 4, 2) := by decide +kernel
theorem dX2_seek_45 : decode cX2_seek 45 = .ok (.aload_n 0, 1) := by decide +kernel
theorem dX2_seek_46 : decode cX2_seek 46 = .ok (.getfield 19, 3) := by decide +kernel
theorem dX2_seek_49 : decode cX2_seek 49 = .ok (.iload_n 3, 1) := by decide +kernel
theorem dX2_seek_50 : decode cX2_seek 50 = .ok (.iconst 0, 1) := by decide +kernel
theorem dX2_seek_51 : decode cX2_seek 51 = .ok (.iastore, 1) := by decide +kernel
theorem dX2_seek_52 : decode cX2_seek 52 = .ok (.iload_n 3, 1) := by decide +kernel
theorem dX2_seek_53 : decode cX2_seek 53 = .ok (.iconst 1, 1) := by decide +kernel
theorem dX2_seek_54 : decode cX2_seek 54 = .ok (.isub, 1) := by decide +kernel
theorem dX2_seek_55 : decode cX2_seek 55 = .ok (.istore 6, 2) := by decide +kernel
theorem dX2_seek_57 : decode cX2_seek 57 = .ok (.iload 6, 2) := by decide +kernel
theorem dX2_seek_59 : decode cX2_seek 59 = .ok (.ifCond .lt 92, 3) := by decide +kernel
theorem dX2_seek_62 : decode cX2_seek 62 = .ok (.aload_n 0, 1) := by decide +kernel
theorem dX2_seek_63 : decode cX2_seek 63 = .ok (.getfield 19, 3) := by decide +kernel
theorem dX2_seek_66 : decode cX2_seek 66 = .ok (.iload 6, 2) := by decide +kernel
theorem dX2_seek_68 : decode cX2_seek 68 = .ok (.aload_n 0, 1) := by decide +kernel
theorem dX2_seek_69 : decode cX2_seek 69 = .ok (.getfield 19, 3) := by decide +kernel
theorem dX2_seek_72 : decode cX2_seek 72 = .ok (.iload 6, 2) := by decide +kernel
theorem dX2_seek_74 : decode cX2_seek 74 = .ok (.iconst 1, 1) := by decide +kernel
theorem dX2_seek_75 : decode cX2_seek 75 = .ok (.iadd, 1) := by decide +kernel
theorem dX2_seek_76 : decode cX2_seek 76 = .ok (.iaload, 1) := by decide +kernel
theorem dX2_seek_77 : decode cX2_seek 77 = .ok (.iastore, 1) := by decide +kernel
theorem dX2_seek_78 : decode cX2_seek 78 = .ok (.aload_n 0, 1) := by decide +kernel
theorem dX2_seek_79 : decode cX2_seek 79 = .ok (.getfield 15, 3) := by decide +kernel
theorem dX2_seek_82 : decode cX2_seek 82 = .ok (.iload 6, 2) := by decide +kernel
theorem dX2_seek_84 : decode cX2_seek 84 = .ok (.aload_n 1, 1) := by decide +kernel
theorem dX2_seek_85 : decode cX2_seek 85 = .ok (.iload 6, 2) := by decide +kernel
theorem dX2_seek_87 : decode cX2_seek 87 = .ok (.lload 4, 2) := by decide +kernel
theorem dX2_seek_89 : decode cX2_seek 89 = .ok (.iload_n 3, 1) := by decide +kernel
theorem dX2_seek_90 : decode cX2_seek 90 = .ok (.invokestatic 49, 3) := by decide +kernel
theorem dX2_seek_93 : decode cX2_seek 93 = .ok (.lastore, 1) := by decide +kernel
theorem dX2_seek_94 : decode cX2_seek 94 = .ok (.lload 4, 2) := by decide +kernel
theorem dX2_seek_96 : decode cX2_seek 96 = .ok (.iload 6, 2) := by decide +kernel
theorem dX2_seek_98 : decode cX2_seek 98 = .ok (.lushr, 1) := by decide +kernel
theorem dX2_seek_99 : decode cX2_seek 99 = .ok (.lconst 1, 1) := by decide +kernel
theorem dX2_seek_100 : decode cX2_seek 100 = .ok (.land, 1) := by decide +kernel
theorem dX2_seek_101 : decode cX2_seek 101 = .ok (.lconst 0, 1) := by decide +kernel
theorem dX2_seek_102 : decode cX2_seek 102 = .ok (.lcmp, 1) := by decide +kernel
theorem dX2_seek_103 : decode cX2_seek 103 = .ok (.ifCond .eq 42, 3) := by decide +kernel
theorem dX2_seek_106 : decode cX2_seek 106 = .ok (.aload_n 0, 1) := by decide +kernel
theorem dX2_seek_107 : decode cX2_seek 107 = .ok (.aload_n 0, 1) := by decide +kernel
theorem dX2_seek_108 : decode cX2_seek 108 = .ok (.getfield 15, 3) := by decide +kernel
theorem dX2_seek_111 : decode cX2_seek 111 = .ok (.iload 6, 2) := by decide +kernel
theorem dX2_seek_113 : decode cX2_seek 113 = .ok (.laload, 1) := by decide +kernel
theorem dX2_seek_114 : decode cX2_seek 114 = .ok (.aload_n 0, 1) := by decide +kernel
theorem dX2_seek_115 : decode cX2_seek 115 = .ok (.getfield 19, 3) := by decide +kernel
theorem dX2_seek_118 : decode cX2_seek 118 = .ok (.iload 6, 2) := by decide +kernel
theorem dX2_seek_120 : decode cX2_seek 120 = .ok (.iconst 1, 1) := by decide +kernel
theorem dX2_seek_121 : decode cX2_seek 121 = .ok (.iadd, 1) := by decide +kernel
theorem dX2_seek_122 : decode cX2_seek 122 = .ok (.iaload, 1) := by decide +kernel
theorem dX2_seek_123 : decode cX2_seek 123 = .ok (.iload 6, 2) := by decide +kernel
theorem dX2_seek_125 : decode cX2_seek 125 = .ok (.iconst 1, 1) := by decide +kernel
theorem dX2_seek_126 : decode cX2_seek 126 = .ok (.iadd, 1) := by decide +kernel
theorem dX2_seek_127 : decode cX2_seek 127 = .ok (.iconst 0, 1) := by decide +kernel
theorem dX2_seek_128 : decode cX2_seek 128 = .ok (.invokevirtual 53, 3) := by decide +kernel
theorem dX2_seek_131 : decode cX2_seek 131 = .ok (.ifCond .eq 14, 3) := by decide +kernel
theorem dX2_seek_134 : decode cX2_seek 134 = .ok (.aload_n 0, 1) := by decide +kernel
theorem dX2_seek_135 : decode cX2_seek 135 = .ok (.getfield 19, 3) := by decide +kernel
theorem dX2_seek_138 : decode cX2_seek 138 = .ok (.iload 6, 2) := by decide +kernel
theorem dX2_seek_140 : decode cX2_seek 140 = .ok (.dup2, 1) := by decide +kernel
theorem dX2_seek_141 : decode cX2_seek 141 = .ok (.iaload, 1) := by decide +kernel
theorem dX2_seek_142 : decode cX2_seek 142 = .ok (.iconst 1, 1) := by decide +kernel
theorem dX2_seek_143 : decode cX2_seek 143 = .ok (.iadd, 1) := by decide +kernel
theorem dX2_seek_144 : decode cX2_seek 144 = .ok (.iastore, 1) := by decide +kernel
theorem dX2_seek_145 : decode cX2_seek 145 = .ok (.iinc 6 (-1), 3) := by decide +kernel
theorem dX2_seek_148 : decode cX2_seek 148 = .ok (.goto (-91), 3) := by decide +kernel
theorem dX2_seek_151 : decode cX2_seek 151 = .ok (.aload_n 0, 1) := by decide +kernel
theorem dX2_seek_152 : decode cX2_seek 152 = .ok (.aload_n 0, 1) := by decide +kernel
theorem dX2_seek_153 : decode cX2_seek 153 = .ok (.getfield 19, 3) := by decide +kernel
theorem dX2_seek_156 : decode cX2_seek 156 = .ok (.iconst 0, 1) := by decide +kernel
theorem dX2_seek_157 : decode cX2_seek 157 = .ok (.iaload, 1) := by decide +kernel
theorem dX2_seek_158 : decode cX2_seek 158 = .ok (.putfield 22, 3) := by decide +kernel
theorem dX2_seek_161 : decode cX2_seek 161 = .ok (.aload_n 0, 1) := by decide +kernel
theorem dX2_seek_162 : decode cX2_seek 162 = .ok (.lload 4, 2) := by decide +kernel
theorem dX2_seek_164 : decode cX2_seek 164 = .ok (.aload_n 0, 1) := by decide +kernel
theorem dX2_seek_165 : decode cX2_seek 165 = .ok (.getfield 22, 3) := by decide +kernel
theorem dX2_seek_168 : decode cX2_seek 168 = .ok (.iconst 0, 1) := by decide +kernel
theorem dX2_seek_169 : decode cX2_seek 169 = .ok (.iconst 0, 1) := by decide +kernel
theorem dX2_seek_170 : decode cX2_seek 170 = .ok (.invokevirtual 53, 3) := by decide +kernel
theorem dX2_seek_173 : decode cX2_seek 173 = .ok (.pop, 1) := by decide +kernel
theorem dX2_seek_174 : decode cX2_seek 174 = .ok (.return_, 1) := by decide +kernel
theorem dX2_marksWith_0 : decode cX2_marksWith 0 = .ok (.lconst 0, 1) := by decide +kernel
theorem dX2_marksWith_1 : decode cX2_marksWith 1 = .ok (.lstore_n 2, 1) := by decide +kernel
theorem dX2_marksWith_2 : decode cX2_marksWith 2 = .ok (.iconst 0, 1) := by decide +kernel
theorem dX2_marksWith_3 : decode cX2_marksWith 3 = .ok (.istore 4, 2) := by decide +kernel
theorem dX2_marksWith_5 : decode cX2_marksWith 5 = .ok (.iload 4, 2) := by decide +kernel
theorem dX2_marksWith_7 : decode cX2_marksWith 7 = .ok (.iload_n 0, 1) := by decide +kernel
theorem dX2_marksWith_8 : decode cX2_marksWith 8 = .ok (.if_icmp .ge 30, 3) := by decide +kernel
theorem dX2_marksWith_11 : decode cX2_marksWith 11 = .ok (.iload_n 1, 1) := by decide +kernel
theorem dX2_marksWith_12 : decode cX2_marksWith 12 = .ok (.iconst (-1), 1) := by decide +kernel
theorem dX2_marksWith_13 : decode cX2_marksWith 13 = .ok (.if_icmp .eq 12, 3) := by decide +kernel
theorem dX2_marksWith_16 : decode cX2_marksWith 16 = .ok (.iload 4, 2) := by decide +kernel
theorem dX2_marksWith_18 : decode cX2_marksWith 18 = .ok (.invokestatic 57, 3) := by decide +kernel
theorem dX2_marksWith_21 : decode cX2_marksWith 21 = .ok (.iload_n 1, 1) := by decide +kernel
theorem dX2_marksWith_22 : decode cX2_marksWith 22 = .ok (.if_icmp .ne 10, 3) := by decide +kernel
theorem dX2_marksWith_25 : decode cX2_marksWith 25 = .ok (.lload_n 2, 1) := by decide +kernel
theorem dX2_marksWith_26 : decode cX2_marksWith 26 = .ok (.lconst 1, 1) := by decide +kernel
theorem dX2_marksWith_27 : decode cX2_marksWith 27 = .ok (.iload 4, 2) := by decide +kernel
theorem dX2_marksWith_29 : decode cX2_marksWith 29 = .ok (.lshl, 1) := by decide +kernel
theorem dX2_marksWith_30 : decode cX2_marksWith 30 = .ok (.lor, 1) := by decide +kernel
theorem dX2_marksWith_31 : decode cX2_marksWith 31 = .ok (.lstore_n 2, 1) := by decide +kernel
theorem dX2_marksWith_32 : decode cX2_marksWith 32 = .ok (.iinc 4 1, 3) := by decide +kernel
theorem dX2_marksWith_35 : decode cX2_marksWith 35 = .ok (.goto (-30), 3) := by decide +kernel
theorem dX2_marksWith_38 : decode cX2_marksWith 38 = .ok (.lload_n 2, 1) := by decide +kernel
theorem dX2_marksWith_39 : decode cX2_marksWith 39 = .ok (.lreturn, 1) := by decide +kernel
theorem dX2_apartAbove_0 : decode cX2_apartAbove 0 = .ok (.aload_n 0, 1) := by decide +kernel
theorem dX2_apartAbove_1 : decode cX2_apartAbove 1 = .ok (.iload_n 1, 1) := by decide +kernel
theorem dX2_apartAbove_2 : decode cX2_apartAbove 2 = .ok (.invokevirtual 63, 3) := by decide +kernel
theorem dX2_apartAbove_5 : decode cX2_apartAbove 5 = .ok (.istore 5, 2) := by decide +kernel
theorem dX2_apartAbove_7 : decode cX2_apartAbove 7 = .ok (.lconst 0, 1) := by decide +kernel
theorem dX2_apartAbove_8 : decode cX2_apartAbove 8 = .ok (.lstore 6, 2) := by decide +kernel
theorem dX2_apartAbove_10 : decode cX2_apartAbove 10 = .ok (.iload_n 1, 1) := by decide +kernel
theorem dX2_apartAbove_11 : decode cX2_apartAbove 11 = .ok (.iconst 1, 1) := by decide +kernel
theorem dX2_apartAbove_12 : decode cX2_apartAbove 12 = .ok (.iadd, 1) := by decide +kernel
theorem dX2_apartAbove_13 : decode cX2_apartAbove 13 = .ok (.istore 8, 2) := by decide +kernel
theorem dX2_apartAbove_15 : decode cX2_apartAbove 15 = .ok (.iload 8, 2) := by decide +kernel
theorem dX2_apartAbove_17 : decode cX2_apartAbove 17 = .ok (.iload 4, 2) := by decide +kernel
theorem dX2_apartAbove_19 : decode cX2_apartAbove 19 = .ok (.if_icmp .ge 41, 3) := by decide +kernel
theorem dX2_apartAbove_22 : decode cX2_apartAbove 22 = .ok (.lload_n 2, 1) := by decide +kernel
theorem dX2_apartAbove_23 : decode cX2_apartAbove 23 = .ok (.iload 8, 2) := by decide +kernel
theorem dX2_apartAbove_25 : decode cX2_apartAbove 25 = .ok (.lushr, 1) := by decide +kernel
theorem dX2_apartAbove_26 : decode cX2_apartAbove 26 = .ok (.lconst 1, 1) := by decide +kernel
theorem dX2_apartAbove_27 : decode cX2_apartAbove 27 = .ok (.land, 1) := by decide +kernel
theorem dX2_apartAbove_28 : decode cX2_apartAbove 28 = .ok (.lconst 0, 1) := by decide +kernel
theorem dX2_apartAbove_29 : decode cX2_apartAbove 29 = .ok (.lcmp, 1) := by decide +kernel
theorem dX2_apartAbove_30 : decode cX2_apartAbove 30 = .ok (.ifCond .eq 24, 3) := by decide +kernel
theorem dX2_apartAbove_33 : decode cX2_apartAbove 33 = .ok (.aload_n 0, 1) := by decide +kernel
theorem dX2_apartAbove_34 : decode cX2_apartAbove 34 = .ok (.iload_n 1, 1) := by decide +kernel
theorem dX2_apartAbove_35 : decode cX2_apartAbove 35 = .ok (.iload 5, 2) := by decide +kernel
theorem dX2_apartAbove_37 : decode cX2_apartAbove 37 = .ok (.iload 8, 2) := by decide +kernel
theorem dX2_apartAbove_39 : decode cX2_apartAbove 39 = .ok (.invokevirtual 66, 3) := by decide +kernel
theorem dX2_apartAbove_42 : decode cX2_apartAbove 42 = .ok (.ifCond .ne 12, 3) := by decide +kernel
theorem dX2_apartAbove_45 : decode cX2_apartAbove 45 = .ok (.lload 6, 2) := by decide +kernel
theorem dX2_apartAbove_47 : decode cX2_apartAbove 47 = .ok (.lconst 1, 1) := by decide +kernel
theorem dX2_apartAbove_48 : decode cX2_apartAbove 48 = .ok (.iload 8, 2) := by decide +kernel
theorem dX2_apartAbove_50 : decode cX2_apartAbove 50 = .ok (.lshl, 1) := by decide +kernel
theorem dX2_apartAbove_51 : decode cX2_apartAbove 51 = .ok (.lor, 1) := by decide +kernel
theorem dX2_apartAbove_52 : decode cX2_apartAbove 52 = .ok (.lstore 6, 2) := by decide +kernel
theorem dX2_apartAbove_54 : decode cX2_apartAbove 54 = .ok (.iinc 8 1, 3) := by decide +kernel
theorem dX2_apartAbove_57 : decode cX2_apartAbove 57 = .ok (.goto (-42), 3) := by decide +kernel
theorem dX2_apartAbove_60 : decode cX2_apartAbove 60 = .ok (.lload 6, 2) := by decide +kernel
theorem dX2_apartAbove_62 : decode cX2_apartAbove 62 = .ok (.lreturn, 1) := by decide +kernel
theorem dX2_canPick_0 : decode cX2_canPick 0 = .ok (.iload_n 3, 1) := by decide +kernel
theorem dX2_canPick_1 : decode cX2_canPick 1 = .ok (.ifCond .gt 5, 3) := by decide +kernel
theorem dX2_canPick_4 : decode cX2_canPick 4 = .ok (.iconst 1, 1) := by decide +kernel
theorem dX2_canPick_5 : decode cX2_canPick 5 = .ok (.ireturn, 1) := by decide +kernel
theorem dX2_canPick_6 : decode cX2_canPick 6 = .ok (.iload 5, 2) := by decide +kernel
theorem dX2_canPick_8 : decode cX2_canPick 8 = .ok (.bipush 32, 2) := by decide +kernel
theorem dX2_canPick_10 : decode cX2_canPick 10 = .ok (.if_icmp .lt 5, 3) := by decide +kernel
theorem dX2_canPick_13 : decode cX2_canPick 13 = .ok (.iconst 0, 1) := by decide +kernel
theorem dX2_canPick_14 : decode cX2_canPick 14 = .ok (.ireturn, 1) := by decide +kernel
theorem dX2_canPick_15 : decode cX2_canPick 15 = .ok (.iload 4, 2) := by decide +kernel
theorem dX2_canPick_17 : decode cX2_canPick 17 = .ok (.istore 6, 2) := by decide +kernel
theorem dX2_canPick_19 : decode cX2_canPick 19 = .ok (.iload 6, 2) := by decide +kernel
theorem dX2_canPick_21 : decode cX2_canPick 21 = .ok (.bipush 32, 2) := by decide +kernel
theorem dX2_canPick_23 : decode cX2_canPick 23 = .ok (.if_icmp .ge 81, 3) := by decide +kernel
theorem dX2_canPick_26 : decode cX2_canPick 26 = .ok (.aload_n 0, 1) := by decide +kernel
theorem dX2_canPick_27 : decode cX2_canPick 27 = .ok (.getfield 19, 3) := by decide +kernel
theorem dX2_canPick_30 : decode cX2_canPick 30 = .ok (.iload 6, 2) := by decide +kernel
theorem dX2_canPick_32 : decode cX2_canPick 32 = .ok (.iaload, 1) := by decide +kernel
theorem dX2_canPick_33 : decode cX2_canPick 33 = .ok (.iload_n 3, 1) := by decide +kernel
theorem dX2_canPick_34 : decode cX2_canPick 34 = .ok (.if_icmp .lt 70, 3) := by decide +kernel
theorem dX2_canPick_37 : decode cX2_canPick 37 = .ok (.lload_n 1, 1) := by decide +kernel
theorem dX2_canPick_38 : decode cX2_canPick 38 = .ok (.iload 6, 2) := by decide +kernel
theorem dX2_canPick_40 : decode cX2_canPick 40 = .ok (.lushr, 1) := by decide +kernel
theorem dX2_canPick_41 : decode cX2_canPick 41 = .ok (.lconst 1, 1) := by decide +kernel
theorem dX2_canPick_42 : decode cX2_canPick 42 = .ok (.land, 1) := by decide +kernel
theorem dX2_canPick_43 : decode cX2_canPick 43 = .ok (.lconst 0, 1) := by decide +kernel
theorem dX2_canPick_44 : decode cX2_canPick 44 = .ok (.lcmp, 1) := by decide +kernel
theorem dX2_canPick_45 : decode cX2_canPick 45 = .ok (.ifCond .eq 53, 3) := by decide +kernel
theorem dX2_canPick_48 : decode cX2_canPick 48 = .ok (.aload_n 0, 1) := by decide +kernel
theorem dX2_canPick_49 : decode cX2_canPick 49 = .ok (.getfield 11, 3) := by decide +kernel
theorem dX2_canPick_52 : decode cX2_canPick 52 = .ok (.iload 5, 2) := by decide +kernel
theorem dX2_canPick_54 : decode cX2_canPick 54 = .ok (.iload 6, 2) := by decide +kernel
theorem dX2_canPick_56 : decode cX2_canPick 56 = .ok (.iastore, 1) := by decide +kernel
theorem dX2_canPick_57 : decode cX2_canPick 57 = .ok (.aload_n 0, 1) := by decide +kernel
theorem dX2_canPick_58 : decode cX2_canPick 58 = .ok (.lload_n 1, 1) := by decide +kernel
theorem dX2_canPick_59 : decode cX2_canPick 59 = .ok (.aload_n 0, 1) := by decide +kernel
theorem dX2_canPick_60 : decode cX2_canPick 60 = .ok (.getfield 15, 3) := by decide +kernel
theorem dX2_canPick_63 : decode cX2_canPick 63 = .ok (.iload 6, 2) := by decide +kernel
theorem dX2_canPick_65 : decode cX2_canPick 65 = .ok (.laload, 1) := by decide +kernel
theorem dX2_canPick_66 : decode cX2_canPick 66 = .ok (.land, 1) := by decide +kernel
theorem dX2_canPick_67 : decode cX2_canPick 67 = .ok (.iload_n 3, 1) := by decide +kernel
theorem dX2_canPick_68 : decode cX2_canPick 68 = .ok (.iconst 1, 1) := by decide +kernel
theorem dX2_canPick_69 : decode cX2_canPick 69 = .ok (.isub, 1) := by decide +kernel
theorem dX2_canPick_70 : decode cX2_canPick 70 = .ok (.iload 6, 2) := by decide +kernel
theorem dX2_canPick_72 : decode cX2_canPick 72 = .ok (.iconst 1, 1) := by decide +kernel
theorem dX2_canPick_73 : decode cX2_canPick 73 = .ok (.iadd, 1) := by decide +kernel
theorem dX2_canPick_74 : decode cX2_canPick 74 = .ok (.iload 5, 2) := by decide +kernel
theorem dX2_canPick_76 : decode cX2_canPick 76 = .ok (.iconst 1, 1) := by decide +kernel
theorem dX2_canPick_77 : decode cX2_canPick 77 = .ok (.iadd, 1) := by decide +kernel
theorem dX2_canPick_78 : decode cX2_canPick 78 = .ok (.invokevirtual 53, 3) := by decide +kernel
theorem dX2_canPick_81 : decode cX2_canPick 81 = .ok (.ifCond .eq 5, 3) := by decide +kernel
theorem dX2_canPick_84 : decode cX2_canPick 84 = .ok (.iconst 1, 1) := by decide +kernel
theorem dX2_canPick_85 : decode cX2_canPick 85 = .ok (.ireturn, 1) := by decide +kernel
theorem dX2_canPick_86 : decode cX2_canPick 86 = .ok (.aload_n 0, 1) := by decide +kernel
theorem dX2_canPick_87 : decode cX2_canPick 87 = .ok (.iload 6, 2) := by decide +kernel
theorem dX2_canPick_89 : decode cX2_canPick 89 = .ok (.lload_n 1, 1) := by decide +kernel
theorem dX2_canPick_90 : decode cX2_canPick 90 = .ok (.invokevirtual 70, 3) := by decide +kernel
theorem dX2_canPick_93 : decode cX2_canPick 93 = .ok (.ifCond .eq 5, 3) := by decide +kernel
theorem dX2_canPick_96 : decode cX2_canPick 96 = .ok (.iconst 0, 1) := by decide +kernel
theorem dX2_canPick_97 : decode cX2_canPick 97 = .ok (.ireturn, 1) := by decide +kernel
theorem dX2_canPick_98 : decode cX2_canPick 98 = .ok (.iinc 6 1, 3) := by decide +kernel
theorem dX2_canPick_101 : decode cX2_canPick 101 = .ok (.goto (-82), 3) := by decide +kernel
theorem dX2_canPick_104 : decode cX2_canPick 104 = .ok (.iconst 0, 1) := by decide +kernel
theorem dX2_canPick_105 : decode cX2_canPick 105 = .ok (.ireturn, 1) := by decide +kernel
theorem dX2_canStandForAny_0 : decode cX2_canStandForAny 0 = .ok (.lload_n 2, 1) := by decide +kernel
theorem dX2_canStandForAny_1 : decode cX2_canStandForAny 1 = .ok (.aload_n 0, 1) := by decide +kernel
theorem dX2_canStandForAny_2 : decode cX2_canStandForAny 2 = .ok (.getfield 15, 3) := by decide +kernel
theorem dX2_canStandForAny_5 : decode cX2_canStandForAny 5 = .ok (.iload_n 1, 1) := by decide +kernel
theorem dX2_canStandForAny_6 : decode cX2_canStandForAny 6 = .ok (.laload, 1) := by decide +kernel
theorem dX2_canStandForAny_7 : decode cX2_canStandForAny 7 = .ok (.ldc2_w 74, 3) := by decide +kernel
theorem dX2_canStandForAny_10 : decode cX2_canStandForAny 10 = .ok (.lxor, 1) := by decide +kernel
theorem dX2_canStandForAny_11 : decode cX2_canStandForAny 11 = .ok (.land, 1) := by decide +kernel
theorem dX2_canStandForAny_12 : decode cX2_canStandForAny 12 = .ok (.iload_n 1, 1) := by decide +kernel
theorem dX2_canStandForAny_13 : decode cX2_canStandForAny 13 = .ok (.iconst 1, 1) := by decide +kernel
theorem dX2_canStandForAny_14 : decode cX2_canStandForAny 14 = .ok (.iadd, 1) := by decide +kernel
theorem dX2_canStandForAny_15 : decode cX2_canStandForAny 15 = .ok (.lushr, 1) := by decide +kernel
theorem dX2_canStandForAny_16 : decode cX2_canStandForAny 16 = .ok (.invokestatic 76, 3) := by decide +kernel
theorem dX2_canStandForAny_19 : decode cX2_canStandForAny 19 = .ok (.iconst 1, 1) := by decide +kernel
theorem dX2_canStandForAny_20 : decode cX2_canStandForAny 20 = .ok (.if_icmp .gt 7, 3) := by decide +kernel
theorem dX2_canStandForAny_23 : decode cX2_canStandForAny 23 = .ok (.iconst 1, 1) := by decide +kernel
theorem dX2_canStandForAny_24 : decode cX2_canStandForAny 24 = .ok (.goto 4, 3) := by decide +kernel
theorem dX2_canStandForAny_27 : decode cX2_canStandForAny 27 = .ok (.iconst 0, 1) := by decide +kernel
theorem dX2_canStandForAny_28 : decode cX2_canStandForAny 28 = .ok (.ireturn, 1) := by decide +kernel
theorem dX3_init_0 : decode cX3_init 0 = .ok (.aload_n 0, 1) := by decide +kernel
theorem dX3_init_1 : decode cX3_init 1 = .ok (.invokespecial 3, 3) := by decide +kernel
theorem dX3_init_4 : decode cX3_init 4 = .ok (.aload_n 0, 1) := by decide +kernel
theorem dX3_init_5 : decode cX3_init 5 = .ok (.bipush 64, 2) := by decide +kernel
theorem dX3_init_7 : decode cX3_init 7 = .ok (.newarray .int, 2) := by decide +kernel
theorem dX3_init_9 : decode cX3_init 9 = .ok (.putfield 9, 3) := by decide +kernel
theorem dX3_init_12 : decode cX3_init 12 = .ok (.aload_n 0, 1) := by decide +kernel
theorem dX3_init_13 : decode cX3_init 13 = .ok (.bipush 64, 2) := by decide +kernel
theorem dX3_init_15 : decode cX3_init 15 = .ok (.newarray .long, 2) := by decide +kernel
theorem dX3_init_17 : decode cX3_init 17 = .ok (.putfield 15, 3) := by decide +kernel
theorem dX3_init_20 : decode cX3_init 20 = .ok (.aload_n 0, 1) := by decide +kernel
theorem dX3_init_21 : decode cX3_init 21 = .ok (.iconst 0, 1) := by decide +kernel
theorem dX3_init_22 : decode cX3_init 22 = .ok (.putfield 19, 3) := by decide +kernel
theorem dX3_init_25 : decode cX3_init 25 = .ok (.return_, 1) := by decide +kernel
theorem dX3_holds_0 : decode cX3_holds 0 = .ok (.iload_n 1, 1) := by decide +kernel
theorem dX3_holds_1 : decode cX3_holds 1 = .ok (.ifCond .lt 35, 3) := by decide +kernel
theorem dX3_holds_4 : decode cX3_holds 4 = .ok (.iload_n 1, 1) := by decide +kernel
theorem dX3_holds_5 : decode cX3_holds 5 = .ok (.sipush 4096, 3) := by decide +kernel
theorem dX3_holds_8 : decode cX3_holds 8 = .ok (.if_icmp .ge 28, 3) := by decide +kernel
theorem dX3_holds_11 : decode cX3_holds 11 = .ok (.aload_n 0, 1) := by decide +kernel
theorem dX3_holds_12 : decode cX3_holds 12 = .ok (.getfield 15, 3) := by decide +kernel
theorem dX3_holds_15 : decode cX3_holds 15 = .ok (.iload_n 1, 1) := by decide +kernel
theorem dX3_holds_16 : decode cX3_holds 16 = .ok (.bipush 64, 2) := by decide +kernel
theorem dX3_holds_18 : decode cX3_holds 18 = .ok (.idiv, 1) := by decide +kernel
theorem dX3_holds_19 : decode cX3_holds 19 = .ok (.laload, 1) := by decide +kernel
theorem dX3_holds_20 : decode cX3_holds 20 = .ok (.iload_n 1, 1) := by decide +kernel
theorem dX3_holds_21 : decode cX3_holds 21 = .ok (.bipush 64, 2) := by decide +kernel
theorem dX3_holds_23 : decode cX3_holds 23 = .ok (.irem, 1) := by decide +kernel
theorem dX3_holds_24 : decode cX3_holds 24 = .ok (.lushr, 1) := by decide +kernel
theorem dX3_holds_25 : decode cX3_holds 25 = .ok (.lconst 1, 1) := by decide +kernel
theorem dX3_holds_26 : decode cX3_holds 26 = .ok (.land, 1) := by decide +kernel
theorem dX3_holds_27 : decode cX3_holds 27 = .ok (.lconst 0, 1) := by decide +kernel
theorem dX3_holds_28 : decode cX3_holds 28 = .ok (.lcmp, 1) := by decide +kernel
theorem dX3_holds_29 : decode cX3_holds 29 = .ok (.ifCond .eq 7, 3) := by decide +kernel
theorem dX3_holds_32 : decode cX3_holds 32 = .ok (.iconst 1, 1) := by decide +kernel
theorem dX3_holds_33 : decode cX3_holds 33 = .ok (.goto 4, 3) := by decide +kernel
theorem dX3_holds_36 : decode cX3_holds 36 = .ok (.iconst 0, 1) := by decide +kernel
theorem dX3_holds_37 : decode cX3_holds 37 = .ok (.ireturn, 1) := by decide +kernel
theorem dX3_append_0 : decode cX3_append 0 = .ok (.aload_n 0, 1) := by decide +kernel
theorem dX3_append_1 : decode cX3_append 1 = .ok (.getfield 19, 3) := by decide +kernel
theorem dX3_append_4 : decode cX3_append 4 = .ok (.bipush 64, 2) := by decide +kernel
theorem dX3_append_6 : decode cX3_append 6 = .ok (.if_icmp .ge 14, 3) := by decide +kernel
theorem dX3_append_9 : decode cX3_append 9 = .ok (.iload_n 1, 1) := by decide +kernel
theorem dX3_append_10 : decode cX3_append 10 = .ok (.ifCond .lt 10, 3) := by decide +kernel
theorem dX3_append_13 : decode cX3_append 13 = .ok (.iload_n 1, 1) := by decide +kernel
theorem dX3_append_14 : decode cX3_append 14 = .ok (.sipush 4096, 3) := by decide +kernel
theorem dX3_append_17 : decode cX3_append 17 = .ok (.if_icmp .lt 5, 3) := by decide +kernel
theorem dX3_append_20 : decode cX3_append 20 = .ok (.iconst 0, 1) := by decide +kernel
theorem dX3_append_21 : decode cX3_append 21 = .ok (.ireturn, 1) := by decide +kernel
theorem dX3_append_22 : decode cX3_append 22 = .ok (.aload_n 0, 1) := by decide +kernel
theorem dX3_append_23 : decode cX3_append 23 = .ok (.getfield 9, 3) := by decide +kernel
theorem dX3_append_26 : decode cX3_append 26 = .ok (.aload_n 0, 1) := by decide +kernel
theorem dX3_append_27 : decode cX3_append 27 = .ok (.getfield 19, 3) := by decide +kernel
theorem dX3_append_30 : decode cX3_append 30 = .ok (.iload_n 1, 1) := by decide +kernel
theorem dX3_append_31 : decode cX3_append 31 = .ok (.iastore, 1) := by decide +kernel
theorem dX3_append_32 : decode cX3_append 32 = .ok (.aload_n 0, 1) := by decide +kernel
theorem dX3_append_33 : decode cX3_append 33 = .ok (.dup, 1) := by decide +kernel
theorem dX3_append_34 : decode cX3_append 34 = .ok (.getfield 19, 3) := by decide +kernel
theorem dX3_append_37 : decode cX3_append 37 = .ok (.iconst 1, 1) := by decide +kernel
theorem dX3_append_38 : decode cX3_append 38 = .ok (.iadd, 1) := by decide +kernel
theorem dX3_append_39 : decode cX3_append 39 = .ok (.putfield 19, 3) := by decide +kernel
theorem dX3_append_42 : decode cX3_append 42 = .ok (.aload_n 0, 1) := by decide +kernel
theorem dX3_append_43 : decode cX3_append 43 = .ok (.getfield 15, 3) := by decide +kernel
theorem dX3_append_46 : decode cX3_append 46 = .ok (.iload_n 1, 1) := by decide +kernel
theorem dX3_append_47 : decode cX3_append 47 = .ok (.bipush 64, 2) := by decide +kernel
theorem dX3_append_49 : decode cX3_append 49 = .ok (.idiv, 1) := by decide +kernel
theorem dX3_append_50 : decode cX3_append 50 = .ok (.dup2, 1) := by decide +kernel
theorem dX3_append_51 : decode cX3_append 51 = .ok (.laload, 1) := by decide +kernel
theorem dX3_append_52 : decode cX3_append 52 = .ok (.lconst 1, 1) := by decide +kernel
theorem dX3_append_53 : decode cX3_append 53 = .ok (.iload_n 1, 1) := by decide +kernel
theorem dX3_append_54 : decode cX3_append 54 = .ok (.bipush 64, 2) := by decide +kernel
theorem dX3_append_56 : decode cX3_append 56 = .ok (.irem, 1) := by decide +kernel
theorem dX3_append_57 : decode cX3_append 57 = .ok (.lshl, 1) := by decide +kernel
theorem dX3_append_58 : decode cX3_append 58 = .ok (.lor, 1) := by decide +kernel
theorem dX3_append_59 : decode cX3_append 59 = .ok (.lastore, 1) := by decide +kernel
theorem dX3_append_60 : decode cX3_append 60 = .ok (.iconst 1, 1) := by decide +kernel
theorem dX3_append_61 : decode cX3_append 61 = .ok (.ireturn, 1) := by decide +kernel
theorem dX3_appendOnce_0 : decode cX3_appendOnce 0 = .ok (.aload_n 0, 1) := by decide +kernel
theorem dX3_appendOnce_1 : decode cX3_appendOnce 1 = .ok (.iload_n 1, 1) := by decide +kernel
theorem dX3_appendOnce_2 : decode cX3_appendOnce 2 = .ok (.invokevirtual 23, 3) := by decide +kernel
theorem dX3_appendOnce_5 : decode cX3_appendOnce 5 = .ok (.ifCond .ne 11, 3) := by decide +kernel
theorem dX3_appendOnce_8 : decode cX3_appendOnce 8 = .ok (.aload_n 0, 1) := by decide +kernel
theorem dX3_appendOnce_9 : decode cX3_appendOnce 9 = .ok (.iload_n 1, 1) := by decide +kernel
theorem dX3_appendOnce_10 : decode cX3_appendOnce 10 = .ok (.invokevirtual 27, 3) := by decide +kernel
theorem dX3_appendOnce_13 : decode cX3_appendOnce 13 = .ok (.ifCond .eq 7, 3) := by decide +kernel
theorem dX3_appendOnce_16 : decode cX3_appendOnce 16 = .ok (.iconst 1, 1) := by decide +kernel
theorem dX3_appendOnce_17 : decode cX3_appendOnce 17 = .ok (.goto 4, 3) := by decide +kernel
theorem dX3_appendOnce_20 : decode cX3_appendOnce 20 = .ok (.iconst 0, 1) := by decide +kernel
theorem dX3_appendOnce_21 : decode cX3_appendOnce 21 = .ok (.ireturn, 1) := by decide +kernel
theorem dX3_remove_0 : decode cX3_remove 0 = .ok (.iload_n 1, 1) := by decide +kernel
theorem dX3_remove_1 : decode cX3_remove 1 = .ok (.ifCond .lt 11, 3) := by decide +kernel
theorem dX3_remove_4 : decode cX3_remove 4 = .ok (.iload_n 1, 1) := by decide +kernel
theorem dX3_remove_5 : decode cX3_remove 5 = .ok (.aload_n 0, 1) := by decide +kernel
theorem dX3_remove_6 : decode cX3_remove 6 = .ok (.getfield 19, 3) := by decide +kernel
theorem dX3_remove_9 : decode cX3_remove 9 = .ok (.if_icmp .lt 4, 3) := by decide +kernel
theorem dX3_remove_12 : decode cX3_remove 12 = .ok (.return_, 1) := by decide +kernel
theorem dX3_remove_13 : decode cX3_remove 13 = .ok (.aload_n 0, 1) := by decide +kernel
theorem dX3_remove_14 : decode cX3_remove 14 = .ok (.getfield 9, 3) := by decide +kernel
theorem dX3_remove_17 : decode cX3_remove 17 = .ok (.iload_n 1, 1) := by decide +kernel
theorem dX3_remove_18 : decode cX3_remove 18 = .ok (.iaload, 1) := by decide +kernel
theorem dX3_remove_19 : decode cX3_remove 19 = .ok (.istore_n 2, 1) := by decide +kernel
theorem dX3_remove_20 : decode cX3_remove 20 = .ok (.aload_n 0, 1) := by decide +kernel
theorem dX3_remove_21 : decode cX3_remove 21 = .ok (.getfield 15, 3) := by decide +kernel
theorem dX3_remove_24 : decode cX3_remove 24 = .ok (.iload_n 2, 1) := by decide +kernel
theorem dX3_remove_25 : decode cX3_remove 25 = .ok (.bipush 64, 2) := by decide +kernel
theorem dX3_remove_27 : decode cX3_remove 27 = .ok (.idiv, 1) := by decide +kernel
theorem dX3_remove_28 : decode cX3_remove 28 = .ok (.dup2, 1) := by decide +kernel
theorem dX3_remove_29 : decode cX3_remove 29 = .ok (.laload, 1) := by decide +kernel
theorem dX3_remove_30 : decode cX3_remove 30 = .ok (.lconst 1, 1) := by decide +kernel
theorem dX3_remove_31 : decode cX3_remove 31 = .ok (.iload_n 2, 1) := by decide +kernel
theorem dX3_remove_32 : decode cX3_remove 32 = .ok (.bipush 64, 2) := by decide +kernel
theorem dX3_remove_34 : decode cX3_remove 34 = .ok (.irem, 1) := by decide +kernel
theorem dX3_remove_35 : decode cX3_remove 35 = .ok (.lshl, 1) := by decide +kernel
theorem dX3_remove_36 : decode cX3_remove 36 = .ok (.ldc2_w 30, 3) := by decide +kernel
theorem dX3_remove_39 : decode cX3_remove 39 = .ok (.lxor, 1) := by decide +kernel
theorem dX3_remove_40 : decode cX3_remove 40 = .ok (.land, 1) := by decide +kernel
theorem dX3_remove_41 : decode cX3_remove 41 = .ok (.lastore, 1) := by decide +kernel
theorem dX3_remove_42 : decode cX3_remove 42 = .ok (.aload_n 0, 1) := by decide +kernel
theorem dX3_remove_43 : decode cX3_remove 43 = .ok (.dup, 1) := by decide +kernel
theorem dX3_remove_44 : decode cX3_remove 44 = .ok (.getfield 19, 3) := by decide +kernel
theorem dX3_remove_47 : decode cX3_remove 47 = .ok (.iconst 1, 1) := by decide +kernel
theorem dX3_remove_48 : decode cX3_remove 48 = .ok (.isub, 1) := by decide +kernel
theorem dX3_remove_49 : decode cX3_remove 49 = .ok (.putfield 19, 3) := by decide +kernel
theorem dX3_remove_52 : decode cX3_remove 52 = .ok (.aload_n 0, 1) := by decide +kernel
theorem dX3_remove_53 : decode cX3_remove 53 = .ok (.getfield 9, 3) := by decide +kernel
theorem dX3_remove_56 : decode cX3_remove 56 = .ok (.iload_n 1, 1) := by decide +kernel
theorem dX3_remove_57 : decode cX3_remove 57 = .ok (.iconst 1, 1) := by decide +kernel
theorem dX3_remove_58 : decode cX3_remove 58 = .ok (.iadd, 1) := by decide +kernel
theorem dX3_remove_59 : decode cX3_remove 59 = .ok (.aload_n 0, 1) := by decide +kernel
theorem dX3_remove_60 : decode cX3_remove 60 = .ok (.getfield 9, 3) := by decide +kernel
theorem dX3_remove_63 : decode cX3_remove 63 = .ok (.iload_n 1, 1) := by decide +kernel
theorem dX3_remove_64 : decode cX3_remove 64 = .ok (.aload_n 0, 1) := by decide +kernel
theorem dX3_remove_65 : decode cX3_remove 65 = .ok (.getfield 19, 3) := by decide +kernel
theorem dX3_remove_68 : decode cX3_remove 68 = .ok (.iload_n 1, 1) := by decide +kernel
theorem dX3_remove_69 : decode cX3_remove 69 = .ok (.isub, 1) := by decide +kernel
theorem dX3_remove_70 : decode cX3_remove 70 = .ok (.invokestatic 32, 3) := by decide +kernel
theorem dX3_remove_73 : decode cX3_remove 73 = .ok (.return_, 1) := by decide +kernel
theorem dX3_wipe_0 : decode cX3_wipe 0 = .ok (.aload_n 0, 1) := by decide +kernel
theorem dX3_wipe_1 : decode cX3_wipe 1 = .ok (.iconst 0, 1) := by decide +kernel
theorem dX3_wipe_2 : decode cX3_wipe 2 = .ok (.putfield 19, 3) := by decide +kernel
theorem dX3_wipe_5 : decode cX3_wipe 5 = .ok (.aload_n 0, 1) := by decide +kernel
theorem dX3_wipe_6 : decode cX3_wipe 6 = .ok (.getfield 15, 3) := by decide +kernel
theorem dX3_wipe_9 : decode cX3_wipe 9 = .ok (.lconst 0, 1) := by decide +kernel
theorem dX3_wipe_10 : decode cX3_wipe 10 = .ok (.invokestatic 38, 3) := by decide +kernel
theorem dX3_wipe_13 : decode cX3_wipe 13 = .ok (.return_, 1) := by decide +kernel
theorem dX3_copy_0 : decode cX3_copy 0 = .ok (.aload_n 0, 1) := by decide +kernel
theorem dX3_copy_1 : decode cX3_copy 1 = .ok (.aload_n 1, 1) := by decide +kernel
theorem dX3_copy_2 : decode cX3_copy 2 = .ok (.getfield 19, 3) := by decide +kernel
theorem dX3_copy_5 : decode cX3_copy 5 = .ok (.putfield 19, 3) := by decide +kernel
theorem dX3_copy_8 : decode cX3_copy 8 = .ok (.aload_n 1, 1) := by decide +kernel
theorem dX3_copy_9 : decode cX3_copy 9 = .ok (.getfield 9, 3) := by decide +kernel
theorem dX3_copy_12 : decode cX3_copy 12 = .ok (.iconst 0, 1) := by decide +kernel
theorem dX3_copy_13 : decode cX3_copy 13 = .ok (.aload_n 0, 1) := by decide +kernel
theorem dX3_copy_14 : decode cX3_copy 14 = .ok (.getfield 9, 3) := by decide +kernel
theorem dX3_copy_17 : decode cX3_copy 17 = .ok (.iconst 0, 1) := by decide +kernel
theorem dX3_copy_18 : decode cX3_copy 18 = .ok (.aload_n 0, 1) := by decide +kernel
theorem dX3_copy_19 : decode cX3_copy 19 = .ok (.getfield 19, 3) := by decide +kernel
theorem dX3_copy_22 : decode cX3_copy 22 = .ok (.invokestatic 32, 3) := by decide +kernel
theorem dX3_copy_25 : decode cX3_copy 25 = .ok (.aload_n 1, 1) := by decide +kernel
theorem dX3_copy_26 : decode cX3_copy 26 = .ok (.getfield 15, 3) := by decide +kernel
theorem dX3_copy_29 : decode cX3_copy 29 = .ok (.iconst 0, 1) := by decide +kernel
theorem dX3_copy_30 : decode cX3_copy 30 = .ok (.aload_n 0, 1) := by decide +kernel
theorem dX3_copy_31 : decode cX3_copy 31 = .ok (.getfield 15, 3) := by decide +kernel
theorem dX3_copy_34 : decode cX3_copy 34 = .ok (.iconst 0, 1) := by decide +kernel
theorem dX3_copy_35 : decode cX3_copy 35 = .ok (.aload_n 0, 1) := by decide +kernel
theorem dX3_copy_36 : decode cX3_copy 36 = .ok (.getfield 15, 3) := by decide +kernel
theorem dX3_copy_39 : decode cX3_copy 39 = .ok (.arraylength, 1) := by decide +kernel
theorem dX3_copy_40 : decode cX3_copy 40 = .ok (.invokestatic 32, 3) := by decide +kernel
theorem dX3_copy_43 : decode cX3_copy 43 = .ok (.return_, 1) := by decide +kernel
theorem dX4_init_0 : decode cX4_init 0 = .ok (.aload_n 0, 1) := by decide +kernel
theorem dX4_init_1 : decode cX4_init 1 = .ok (.invokespecial 3, 3) := by decide +kernel
theorem dX4_init_4 : decode cX4_init 4 = .ok (.aload_n 0, 1) := by decide +kernel
theorem dX4_init_5 : decode cX4_init 5 = .ok (.bipush 12, 2) := by decide +kernel
theorem dX4_init_7 : decode cX4_init 7 = .ok (.newarray .int, 2) := by decide +kernel
theorem dX4_init_9 : decode cX4_init 9 = .ok (.putfield 9, 3) := by decide +kernel
theorem dX4_init_12 : decode cX4_init 12 = .ok (.aload_n 0, 1) := by decide +kernel
theorem dX4_init_13 : decode cX4_init 13 = .ok (.bipush 64, 2) := by decide +kernel
theorem dX4_init_15 : decode cX4_init 15 = .ok (.newarray .long, 2) := by decide +kernel
theorem dX4_init_17 : decode cX4_init 17 = .ok (.putfield 15, 3) := by decide +kernel
theorem dX4_init_20 : decode cX4_init 20 = .ok (.aload_n 0, 1) := by decide +kernel
theorem dX4_init_21 : decode cX4_init 21 = .ok (.iconst 0, 1) := by decide +kernel
theorem dX4_init_22 : decode cX4_init 22 = .ok (.putfield 19, 3) := by decide +kernel
theorem dX4_init_25 : decode cX4_init 25 = .ok (.aload_n 0, 1) := by decide +kernel
theorem dX4_init_26 : decode cX4_init 26 = .ok (.getfield 9, 3) := by decide +kernel
theorem dX4_init_29 : decode cX4_init 29 = .ok (.iconst (-1), 1) := by decide +kernel
theorem dX4_init_30 : decode cX4_init 30 = .ok (.invokestatic 23, 3) := by decide +kernel
theorem dX4_init_33 : decode cX4_init 33 = .ok (.return_, 1) := by decide +kernel
theorem dX4_forget_0 : decode cX4_forget 0 = .ok (.aload_n 0, 1) := by decide +kernel
theorem dX4_forget_1 : decode cX4_forget 1 = .ok (.getfield 9, 3) := by decide +kernel
theorem dX4_forget_4 : decode cX4_forget 4 = .ok (.iconst (-1), 1) := by decide +kernel
theorem dX4_forget_5 : decode cX4_forget 5 = .ok (.invokestatic 23, 3) := by decide +kernel
theorem dX4_forget_8 : decode cX4_forget 8 = .ok (.return_, 1) := by decide +kernel
theorem dX4_lookedAt_0 : decode cX4_lookedAt 0 = .ok (.iconst 0, 1) := by decide +kernel
theorem dX4_lookedAt_1 : decode cX4_lookedAt 1 = .ok (.istore_n 1, 1) := by decide +kernel
theorem dX4_lookedAt_2 : decode cX4_lookedAt 2 = .ok (.iconst 0, 1) := by decide +kernel
theorem dX4_lookedAt_3 : decode cX4_lookedAt 3 = .ok (.istore_n 2, 1) := by decide +kernel
theorem dX4_lookedAt_4 : decode cX4_lookedAt 4 = .ok (.iload_n 2, 1) := by decide +kernel
theorem dX4_lookedAt_5 : decode cX4_lookedAt 5 = .ok (.aload_n 0, 1) := by decide +kernel
theorem dX4_lookedAt_6 : decode cX4_lookedAt 6 = .ok (.getfield 9, 3) := by decide +kernel
theorem dX4_lookedAt_9 : decode cX4_lookedAt 9 = .ok (.arraylength, 1) := by decide +kernel
theorem dX4_lookedAt_10 : decode cX4_lookedAt 10 = .ok (.if_icmp .ge 22, 3) := by decide +kernel
theorem dX4_lookedAt_13 : decode cX4_lookedAt 13 = .ok (.aload_n 0, 1) := by decide +kernel
theorem dX4_lookedAt_14 : decode cX4_lookedAt 14 = .ok (.getfield 9, 3) := by decide +kernel
theorem dX4_lookedAt_17 : decode cX4_lookedAt 17 = .ok (.iload_n 2, 1) := by decide +kernel
theorem dX4_lookedAt_18 : decode cX4_lookedAt 18 = .ok (.iaload, 1) := by decide +kernel
theorem dX4_lookedAt_19 : decode cX4_lookedAt 19 = .ok (.iconst (-1), 1) := by decide +kernel
theorem dX4_lookedAt_20 : decode cX4_lookedAt 20 = .ok (.if_icmp .eq 6, 3) := by decide +kernel
theorem dX4_lookedAt_23 : decode cX4_lookedAt 23 = .ok (.iinc 1 1, 3) := by decide +kernel
theorem dX4_lookedAt_26 : decode cX4_lookedAt 26 = .ok (.iinc 2 1, 3) := by decide +kernel
theorem dX4_lookedAt_29 : decode cX4_lookedAt 29 = .ok (.goto (-25), 3) := by decide +kernel
theorem dX4_lookedAt_32 : decode cX4_lookedAt 32 = .ok (.iload_n 1, 1) := by decide +kernel
theorem dX4_lookedAt_33 : decode cX4_lookedAt 33 = .ok (.ireturn, 1) := by decide +kernel
theorem dX4_chanceOf_0 : decode cX4_chanceOf 0 = .ok (.lconst 1, 1) := by decide +kernel
theorem dX4_chanceOf_1 : decode cX4_chanceOf 1 = .ok (.lstore_n 2, 1) := by decide +kernel
theorem dX4_chanceOf_2 : decode cX4_chanceOf 2 = .ok (.iconst 0, 1) := by decide +kernel
theorem dX4_chanceOf_3 : decode cX4_chanceOf 3 = .ok (.istore 4, 2) := by decide +kernel
theorem dX4_chanceOf_5 : decode cX4_chanceOf 5 = .ok (.iload 4, 2) := by decide +kernel
theorem dX4_chanceOf_7 : decode cX4_chanceOf 7 = .ok (.aload_n 0, 1) := by decide +kernel
theorem dX4_chanceOf_8 : decode cX4_chanceOf 8 = .ok (.getfield 9, 3) := by decide +kernel
theorem dX4_chanceOf_11 : decode cX4_chanceOf 11 = .ok (.arraylength, 1) := by decide +kernel
theorem dX4_chanceOf_12 : decode cX4_chanceOf 12 = .ok (.if_icmp .ge 54, 3) := by decide +kernel
theorem dX4_chanceOf_15 : decode cX4_chanceOf 15 = .ok (.aload_n 0, 1) := by decide +kernel
theorem dX4_chanceOf_16 : decode cX4_chanceOf 16 = .ok (.getfield 9, 3) := by decide +kernel
theorem dX4_chanceOf_19 : decode cX4_chanceOf 19 = .ok (.iload 4, 2) := by decide +kernel
theorem dX4_chanceOf_21 : decode cX4_chanceOf 21 = .ok (.iaload, 1) := by decide +kernel
theorem dX4_chanceOf_22 : decode cX4_chanceOf 22 = .ok (.iconst (-1), 1) := by decide +kernel
theorem dX4_chanceOf_23 : decode cX4_chanceOf 23 = .ok (.if_icmp .eq 37, 3) := by decide +kernel
theorem dX4_chanceOf_26 : decode cX4_chanceOf 26 = .ok (.lload_n 2, 1) := by decide +kernel
theorem dX4_chanceOf_27 : decode cX4_chanceOf 27 = .ok (.iload_n 1, 1) := by decide +kernel
theorem dX4_chanceOf_28 : decode cX4_chanceOf 28 = .ok (.iload 4, 2) := by decide +kernel
theorem dX4_chanceOf_30 : decode cX4_chanceOf 30 = .ok (.ishr, 1) := by decide +kernel
theorem dX4_chanceOf_31 : decode cX4_chanceOf 31 = .ok (.iconst 1, 1) := by decide +kernel
theorem dX4_chanceOf_32 : decode cX4_chanceOf 32 = .ok (.iand, 1) := by decide +kernel
theorem dX4_chanceOf_33 : decode cX4_chanceOf 33 = .ok (.ifCond .eq 14, 3) := by decide +kernel
theorem dX4_chanceOf_36 : decode cX4_chanceOf 36 = .ok (.aload_n 0, 1) := by decide +kernel
theorem dX4_chanceOf_37 : decode cX4_chanceOf 37 = .ok (.getfield 9, 3) := by decide +kernel
theorem dX4_chanceOf_40 : decode cX4_chanceOf 40 = .ok (.iload 4, 2) := by decide +kernel
theorem dX4_chanceOf_42 : decode cX4_chanceOf 42 = .ok (.iaload, 1) := by decide +kernel
theorem dX4_chanceOf_43 : decode cX4_chanceOf 43 = .ok (.i2l, 1) := by decide +kernel
theorem dX4_chanceOf_44 : decode cX4_chanceOf 44 = .ok (.goto 14, 3) := by decide +kernel
theorem dX4_chanceOf_47 : decode cX4_chanceOf 47 = .ok (.bipush 9, 2) := by decide +kernel
theorem dX4_chanceOf_49 : decode cX4_chanceOf 49 = .ok (.aload_n 0, 1) := by decide +kernel
theorem dX4_chanceOf_50 : decode cX4_chanceOf 50 = .ok (.getfield 9, 3) := by decide +kernel
theorem dX4_chanceOf_53 : decode cX4_chanceOf 53 = .ok (.iload 4, 2) := by decide +kernel
theorem dX4_chanceOf_55 : decode cX4_chanceOf 55 = .ok (.iaload, 1) := by decide +kernel
theorem dX4_chanceOf_56 : decode cX4_chanceOf 56 = .ok (.isub, 1) := by decide +kernel
theorem dX4_chanceOf_57 : decode cX4_chanceOf 57 = .ok (.i2l, 1) := by decide +kernel
theorem dX4_chanceOf_58 : decode cX4_chanceOf 58 = .ok (.lmul, 1) := by decide +kernel
theorem dX4_chanceOf_59 : decode cX4_chanceOf 59 = .ok (.lstore_n 2, 1) := by decide +kernel
theorem dX4_chanceOf_60 : decode cX4_chanceOf 60 = .ok (.iinc 4 1, 3) := by decide +kernel
theorem dX4_chanceOf_63 : decode cX4_chanceOf 63 = .ok (.goto (-58), 3) := by decide +kernel
theorem dX4_chanceOf_66 : decode cX4_chanceOf 66 = .ok (.lload_n 2, 1) := by decide +kernel
theorem dX4_chanceOf_67 : decode cX4_chanceOf 67 = .ok (.lreturn, 1) := by decide +kernel
theorem dX4_weigh_0 : decode cX4_weigh 0 = .ok (.aload_n 0, 1) := by decide +kernel
theorem dX4_weigh_1 : decode cX4_weigh 1 = .ok (.aload_n 1, 1) := by decide +kernel
theorem dX4_weigh_2 : decode cX4_weigh 2 = .ok (.getfield 29, 3) := by decide +kernel
theorem dX4_weigh_5 : decode cX4_weigh 5 = .ok (.putfield 19, 3) := by decide +kernel
theorem dX4_weigh_8 : decode cX4_weigh 8 = .ok (.iconst 0, 1) := by decide +kernel
theorem dX4_weigh_9 : decode cX4_weigh 9 = .ok (.istore_n 2, 1) := by decide +kernel
theorem dX4_weigh_10 : decode cX4_weigh 10 = .ok (.iload_n 2, 1) := by decide +kernel
theorem dX4_weigh_11 : decode cX4_weigh 11 = .ok (.aload_n 0, 1) := by decide +kernel
theorem dX4_weigh_12 : decode cX4_weigh 12 = .ok (.getfield 19, 3) := by decide +kernel
theorem dX4_weigh_15 : decode cX4_weigh 15 = .ok (.if_icmp .ge 25, 3) := by decide +kernel
theorem dX4_weigh_18 : decode cX4_weigh 18 = .ok (.aload_n 0, 1) := by decide +kernel
theorem dX4_weigh_19 : decode cX4_weigh 19 = .ok (.getfield 15, 3) := by decide +kernel
theorem dX4_weigh_22 : decode cX4_weigh 22 = .ok (.iload_n 2, 1) := by decide +kernel
theorem dX4_weigh_23 : decode cX4_weigh 23 = .ok (.aload_n 0, 1) := by decide +kernel
theorem dX4_weigh_24 : decode cX4_weigh 24 = .ok (.aload_n 1, 1) := by decide +kernel
theorem dX4_weigh_25 : decode cX4_weigh 25 = .ok (.getfield 34, 3) := by decide +kernel
theorem dX4_weigh_28 : decode cX4_weigh 28 = .ok (.iload_n 2, 1) := by decide +kernel
theorem dX4_weigh_29 : decode cX4_weigh 29 = .ok (.iaload, 1) := by decide +kernel
theorem dX4_weigh_30 : decode cX4_weigh 30 = .ok (.invokevirtual 37, 3) := by decide +kernel
theorem dX4_weigh_33 : decode cX4_weigh 33 = .ok (.lastore, 1) := by decide +kernel
theorem dX4_weigh_34 : decode cX4_weigh 34 = .ok (.iinc 2 1, 3) := by decide +kernel
theorem dX4_weigh_37 : decode cX4_weigh 37 = .ok (.goto (-27), 3) := by decide +kernel
theorem dX4_weigh_40 : decode cX4_weigh 40 = .ok (.return_, 1) := by decide +kernel
theorem dX4_possible_0 : decode cX4_possible 0 = .ok (.iconst 0, 1) := by decide +kernel
theorem dX4_possible_1 : decode cX4_possible 1 = .ok (.istore_n 1, 1) := by decide +kernel
theorem dX4_possible_2 : decode cX4_possible 2 = .ok (.iconst 0, 1) := by decide +kernel
theorem dX4_possible_3 : decode cX4_possible 3 = .ok (.istore_n 2, 1) := by decide +kernel
theorem dX4_possible_4 : decode cX4_possible 4 = .ok (.iload_n 2, 1) := by decide +kernel
theorem dX4_possible_5 : decode cX4_possible 5 = .ok (.aload_n 0, 1) := by decide +kernel
theorem dX4_possible_6 : decode cX4_possible 6 = .ok (.getfield 19, 3) := by decide +kernel
theorem dX4_possible_9 : decode cX4_possible 9 = .ok (.if_icmp .ge 23, 3) := by decide +kernel
theorem dX4_possible_12 : decode cX4_possible 12 = .ok (.aload_n 0, 1) := by decide +kernel
theorem dX4_possible_13 : decode cX4_possible 13 = .ok (.getfield 15, 3) := by decide +kernel
theorem dX4_possible_16 : decode cX4_possible 16 = .ok (.iload_n 2, 1) := by decide +kernel
theorem dX4_possible_17 : decode cX4_possible 17 = .ok (.laload, 1) := by decide +kernel
theorem dX4_possible_18 : decode cX4_possible 18 = .ok (.lconst 0, 1) := by decide +kernel
theorem dX4_possible_19 : decode cX4_possible 19 = .ok (.lcmp, 1) := by decide +kernel
theorem dX4_possible_20 : decode cX4_possible 20 = .ok (.ifCond .le 6, 3) := by decide +kernel
theorem dX4_possible_23 : decode cX4_possible 23 = .ok (.iinc 1 1, 3) := by decide +kernel
theorem dX4_possible_26 : decode cX4_possible 26 = .ok (.iinc 2 1, 3) := by decide +kernel
theorem dX4_possible_29 : decode cX4_possible 29 = .ok (.goto (-25), 3) := by decide +kernel
theorem dX4_possible_32 : decode cX4_possible 32 = .ok (.iload_n 1, 1) := by decide +kernel
theorem dX4_possible_33 : decode cX4_possible 33 = .ok (.ireturn, 1) := by decide +kernel
theorem dX4_ranked_0 : decode cX4_ranked 0 = .ok (.iconst 0, 1) := by decide +kernel
theorem dX4_ranked_1 : decode cX4_ranked 1 = .ok (.istore_n 2, 1) := by decide +kernel
theorem dX4_ranked_2 : decode cX4_ranked 2 = .ok (.iload_n 2, 1) := by decide +kernel
theorem dX4_ranked_3 : decode cX4_ranked 3 = .ok (.aload_n 0, 1) := by decide +kernel
theorem dX4_ranked_4 : decode cX4_ranked 4 = .ok (.getfield 19, 3) := by decide +kernel
theorem dX4_ranked_7 : decode cX4_ranked 7 = .ok (.if_icmp .ge 31, 3) := by decide +kernel
theorem dX4_ranked_10 : decode cX4_ranked 10 = .ok (.aload_n 0, 1) := by decide +kernel
theorem dX4_ranked_11 : decode cX4_ranked 11 = .ok (.getfield 15, 3) := by decide +kernel
theorem dX4_ranked_14 : decode cX4_ranked 14 = .ok (.iload_n 2, 1) := by decide +kernel
theorem dX4_ranked_15 : decode cX4_ranked 15 = .ok (.laload, 1) := by decide +kernel
theorem dX4_ranked_16 : decode cX4_ranked 16 = .ok (.lconst 0, 1) := by decide +kernel
theorem dX4_ranked_17 : decode cX4_ranked 17 = .ok (.lcmp, 1) := by decide +kernel
theorem dX4_ranked_18 : decode cX4_ranked 18 = .ok (.ifCond .le 14, 3) := by decide +kernel
theorem dX4_ranked_21 : decode cX4_ranked 21 = .ok (.aload_n 0, 1) := by decide +kernel
theorem dX4_ranked_22 : decode cX4_ranked 22 = .ok (.iload_n 2, 1) := by decide +kernel
theorem dX4_ranked_23 : decode cX4_ranked 23 = .ok (.invokevirtual 41, 3) := by decide +kernel
theorem dX4_ranked_26 : decode cX4_ranked 26 = .ok (.iload_n 1, 1) := by decide +kernel
theorem dX4_ranked_27 : decode cX4_ranked 27 = .ok (.if_icmp .ne 5, 3) := by decide +kernel
theorem dX4_ranked_30 : decode cX4_ranked 30 = .ok (.iload_n 2, 1) := by decide +kernel
theorem dX4_ranked_31 : decode cX4_ranked 31 = .ok (.ireturn, 1) := by decide +kernel
theorem dX4_ranked_32 : decode cX4_ranked 32 = .ok (.iinc 2 1, 3) := by decide +kernel
theorem dX4_ranked_35 : decode cX4_ranked 35 = .ok (.goto (-33), 3) := by decide +kernel
theorem dX4_ranked_38 : decode cX4_ranked 38 = .ok (.iconst (-1), 1) := by decide +kernel
theorem dX4_ranked_39 : decode cX4_ranked 39 = .ok (.ireturn, 1) := by decide +kernel
theorem dX4_ahead_0 : decode cX4_ahead 0 = .ok (.iconst 0, 1) := by decide +kernel
theorem dX4_ahead_1 : decode cX4_ahead 1 = .ok (.istore_n 2, 1) := by decide +kernel
theorem dX4_ahead_2 : decode cX4_ahead 2 = .ok (.iconst 0, 1) := by decide +kernel
theorem dX4_ahead_3 : decode cX4_ahead 3 = .ok (.istore_n 3, 1) := by decide +kernel
theorem dX4_ahead_4 : decode cX4_ahead 4 = .ok (.iload_n 3, 1) := by decide +kernel
theorem dX4_ahead_5 : decode cX4_ahead 5 = .ok (.aload_n 0, 1) := by decide +kernel
theorem dX4_ahead_6 : decode cX4_ahead 6 = .ok (.getfield 19, 3) := by decide +kernel
theorem dX4_ahead_9 : decode cX4_ahead 9 = .ok (.if_icmp .ge 49, 3) := by decide +kernel
theorem dX4_ahead_12 : decode cX4_ahead 12 = .ok (.aload_n 0, 1) := by decide +kernel
theorem dX4_ahead_13 : decode cX4_ahead 13 = .ok (.getfield 15, 3) := by decide +kernel
theorem dX4_ahead_16 : decode cX4_ahead 16 = .ok (.iload_n 3, 1) := by decide +kernel
theorem dX4_ahead_17 : decode cX4_ahead 17 = .ok (.laload, 1) := by decide +kernel
theorem dX4_ahead_18 : decode cX4_ahead 18 = .ok (.aload_n 0, 1) := by decide +kernel
theorem dX4_ahead_19 : decode cX4_ahead 19 = .ok (.getfield 15, 3) := by decide +kernel
theorem dX4_ahead_22 : decode cX4_ahead 22 = .ok (.iload_n 1, 1) := by decide +kernel
theorem dX4_ahead_23 : decode cX4_ahead 23 = .ok (.laload, 1) := by decide +kernel
theorem dX4_ahead_24 : decode cX4_ahead 24 = .ok (.lcmp, 1) := by decide +kernel
theorem dX4_ahead_25 : decode cX4_ahead 25 = .ok (.ifCond .gt 24, 3) := by decide +kernel
theorem dX4_ahead_28 : decode cX4_ahead 28 = .ok (.aload_n 0, 1) := by decide +kernel
theorem dX4_ahead_29 : decode cX4_ahead 29 = .ok (.getfield 15, 3) := by decide +kernel
theorem dX4_ahead_32 : decode cX4_ahead 32 = .ok (.iload_n 3, 1) := by decide +kernel
theorem dX4_ahead_33 : decode cX4_ahead 33 = .ok (.laload, 1) := by decide +kernel
theorem dX4_ahead_34 : decode cX4_ahead 34 = .ok (.aload_n 0, 1) := by decide +kernel
theorem dX4_ahead_35 : decode cX4_ahead 35 = .ok (.getfield 15, 3) := by decide +kernel
theorem dX4_ahead_38 : decode cX4_ahead 38 = .ok (.iload_n 1, 1) := by decide +kernel
theorem dX4_ahead_39 : decode cX4_ahead 39 = .ok (.laload, 1) := by decide +kernel
theorem dX4_ahead_40 : decode cX4_ahead 40 = .ok (.lcmp, 1) := by decide +kernel
theorem dX4_ahead_41 : decode cX4_ahead 41 = .ok (.ifCond .ne 11, 3) := by decide +kernel
theorem dX4_ahead_44 : decode cX4_ahead 44 = .ok (.iload_n 3, 1) := by decide +kernel
theorem dX4_ahead_45 : decode cX4_ahead 45 = .ok (.iload_n 1, 1) := by decide +kernel
theorem dX4_ahead_46 : decode cX4_ahead 46 = .ok (.if_icmp .ge 6, 3) := by decide +kernel
theorem dX4_ahead_49 : decode cX4_ahead 49 = .ok (.iinc 2 1, 3) := by decide +kernel
theorem dX4_ahead_52 : decode cX4_ahead 52 = .ok (.iinc 3 1, 3) := by decide +kernel
theorem dX4_ahead_55 : decode cX4_ahead 55 = .ok (.goto (-51), 3) := by decide +kernel
theorem dX4_ahead_58 : decode cX4_ahead 58 = .ok (.iload_n 2, 1) := by decide +kernel
theorem dX4_ahead_59 : decode cX4_ahead 59 = .ok (.ireturn, 1) := by decide +kernel
theorem dX5_init_0 : decode cX5_init 0 = .ok (.aload_n 0, 1) := by decide +kernel
theorem dX5_init_1 : decode cX5_init 1 = .ok (.invokespecial 3, 3) := by decide +kernel
theorem dX5_init_4 : decode cX5_init 4 = .ok (.aload_n 0, 1) := by decide +kernel
theorem dX5_init_5 : decode cX5_init 5 = .ok (.bipush 120, 2) := by decide +kernel
theorem dX5_init_7 : decode cX5_init 7 = .ok (.newarray .int, 2) := by decide +kernel
theorem dX5_init_9 : decode cX5_init 9 = .ok (.putfield 11, 3) := by decide +kernel
theorem dX5_init_12 : decode cX5_init 12 = .ok (.aload_n 0, 1) := by decide +kernel
theorem dX5_init_13 : decode cX5_init 13 = .ok (.bipush 120, 2) := by decide +kernel
theorem dX5_init_15 : decode cX5_init 15 = .ok (.newarray .int, 2) := by decide +kernel
theorem dX5_init_17 : decode cX5_init 17 = .ok (.putfield 17, 3) := by decide +kernel
theorem dX5_init_20 : decode cX5_init 20 = .ok (.aload_n 0, 1) := by decide +kernel
theorem dX5_init_21 : decode cX5_init 21 = .ok (.bipush 120, 2) := by decide +kernel
theorem dX5_init_23 : decode cX5_init 23 = .ok (.newarray .int, 2) := by decide +kernel
theorem dX5_init_25 : decode cX5_init 25 = .ok (.putfield 20, 3) := by decide +kernel
theorem dX5_init_28 : decode cX5_init 28 = .ok (.aload_n 0, 1) := by decide +kernel
theorem dX5_init_29 : decode cX5_init 29 = .ok (.iconst 0, 1) := by decide +kernel
theorem dX5_init_30 : decode cX5_init 30 = .ok (.putfield 23, 3) := by decide +kernel
theorem dX5_init_33 : decode cX5_init 33 = .ok (.aload_n 0, 1) := by decide +kernel
theorem dX5_init_34 : decode cX5_init 34 = .ok (.iconst 0, 1) := by decide +kernel
theorem dX5_init_35 : decode cX5_init 35 = .ok (.putfield 27, 3) := by decide +kernel
theorem dX5_init_38 : decode cX5_init 38 = .ok (.aload_n 0, 1) := by decide +kernel
theorem dX5_init_39 : decode cX5_init 39 = .ok (.iconst (-1), 1) := by decide +kernel
theorem dX5_init_40 : decode cX5_init 40 = .ok (.putfield 30, 3) := by decide +kernel
theorem dX5_init_43 : decode cX5_init 43 = .ok (.aload_n 0, 1) := by decide +kernel
theorem dX5_init_44 : decode cX5_init 44 = .ok (.iconst 5, 1) := by decide +kernel
theorem dX5_init_45 : decode cX5_init 45 = .ok (.newarray .boolean, 2) := by decide +kernel
theorem dX5_init_47 : decode cX5_init 47 = .ok (.putfield 33, 3) := by decide +kernel
theorem dX5_init_50 : decode cX5_init 50 = .ok (.aload_n 0, 1) := by decide +kernel
theorem dX5_init_51 : decode cX5_init 51 = .ok (.iconst 5, 1) := by decide +kernel
theorem dX5_init_52 : decode cX5_init 52 = .ok (.newarray .boolean, 2) := by decide +kernel
theorem dX5_init_54 : decode cX5_init 54 = .ok (.putfield 37, 3) := by decide +kernel
theorem dX5_init_57 : decode cX5_init 57 = .ok (.aload_n 0, 1) := by decide +kernel
theorem dX5_init_58 : decode cX5_init 58 = .ok (.iconst 5, 1) := by decide +kernel
theorem dX5_init_59 : decode cX5_init 59 = .ok (.newarray .boolean, 2) := by decide +kernel
theorem dX5_init_61 : decode cX5_init 61 = .ok (.putfield 40, 3) := by decide +kernel
theorem dX5_init_64 : decode cX5_init 64 = .ok (.aload_n 0, 1) := by decide +kernel
theorem dX5_init_65 : decode cX5_init 65 = .ok (.iconst 0, 1) := by decide +kernel
theorem dX5_init_66 : decode cX5_init 66 = .ok (.putfield 43, 3) := by decide +kernel
theorem dX5_init_69 : decode cX5_init 69 = .ok (.aload_n 0, 1) := by decide +kernel
theorem dX5_init_70 : decode cX5_init 70 = .ok (.iconst 1, 1) := by decide +kernel
theorem dX5_init_71 : decode cX5_init 71 = .ok (.putfield 46, 3) := by decide +kernel
theorem dX5_init_74 : decode cX5_init 74 = .ok (.return_, 1) := by decide +kernel
theorem dX5_parse_0 : decode cX5_parse 0 = .ok (.aload_n 0, 1) := by decide +kernel
theorem dX5_parse_1 : decode cX5_parse 1 = .ok (.iconst 0, 1) := by decide +kernel
theorem dX5_parse_2 : decode cX5_parse 2 = .ok (.putfield 23, 3) := by decide +kernel
theorem dX5_parse_5 : decode cX5_parse 5 = .ok (.aload_n 0, 1) := by decide +kernel
theorem dX5_parse_6 : decode cX5_parse 6 = .ok (.iconst 0, 1) := by decide +kernel
theorem dX5_parse_7 : decode cX5_parse 7 = .ok (.putfield 27, 3) := by decide +kernel
theorem dX5_parse_10 : decode cX5_parse 10 = .ok (.aload_n 0, 1) := by decide +kernel
theorem dX5_parse_11 : decode cX5_parse 11 = .ok (.iconst (-1), 1) := by decide +kernel
theorem dX5_parse_12 : decode cX5_parse 12 = .ok (.putfield 30, 3) := by decide +kernel
theorem dX5_parse_15 : decode cX5_parse 15 = .ok (.aload_n 0, 1) := by decide +kernel
theorem dX5_parse_16 : decode cX5_parse 16 = .ok (.iconst 1, 1) := by decide +kernel
theorem dX5_parse_17 : decode cX5_parse 17 = .ok (.putfield 46, 3) := by decide +kernel
theorem dX5_parse_20 : decode cX5_parse 20 = .ok (.aload_n 0, 1) := by decide +kernel
theorem dX5_parse_21 : decode cX5_parse 21 = .ok (.iconst 0, 1) := by decide +kernel
theorem dX5_parse_22 : decode cX5_parse 22 = .ok (.invokevirtual 50, 3) := by decide +kernel
theorem dX5_parse_25 : decode cX5_parse 25 = .ok (.aload_n 1, 1) := by decide +kernel
theorem dX5_parse_26 : decode cX5_parse 26 = .ok (.invokevirtual 54, 3) := by decide +kernel
theorem dX5_parse_29 : decode cX5_parse 29 = .ok (.iconst 0, 1) := by decide +kernel
theorem dX5_parse_30 : decode cX5_parse 30 = .ok (.istore_n 2, 1) := by decide +kernel
theorem dX5_parse_31 : decode cX5_parse 31 = .ok (.iload_n 2, 1) := by decide +kernel
theorem dX5_parse_32 : decode cX5_parse 32 = .ok (.bipush 120, 2) := by decide +kernel
theorem dX5_parse_34 : decode cX5_parse 34 = .ok (.if_icmp .ge 43, 3) := by decide +kernel
theorem dX5_parse_37 : decode cX5_parse 37 = .ok (.aload_n 1, 1) := by decide +kernel
theorem dX5_parse_38 : decode cX5_parse 38 = .ok (.getfield 57, 3) := by decide +kernel
theorem dX5_parse_41 : decode cX5_parse 41 = .ok (.ifCond .eq 36, 3) := by decide +kernel
theorem dX5_parse_44 : decode cX5_parse 44 = .ok (.aload_n 0, 1) := by decide +kernel
theorem dX5_parse_45 : decode cX5_parse 45 = .ok (.getfield 27, 3) := by decide +kernel
theorem dX5_parse_48 : decode cX5_parse 48 = .ok (.ifCond .ne 29, 3) := by decide +kernel
theorem dX5_parse_51 : decode cX5_parse 51 = .ok (.aload_n 0, 1) := by decide +kernel
theorem dX5_parse_52 : decode cX5_parse 52 = .ok (.getfield 46, 3) := by decide +kernel
theorem dX5_parse_55 : decode cX5_parse 55 = .ok (.ifCond .eq 11, 3) := by decide +kernel
theorem dX5_parse_58 : decode cX5_parse 58 = .ok (.aload_n 0, 1) := by decide +kernel
theorem dX5_parse_59 : decode cX5_parse 59 = .ok (.aload_n 1, 1) := by decide +kernel
theorem dX5_parse_60 : decode cX5_parse 60 = .ok (.invokevirtual 60, 3) := by decide +kernel
theorem dX5_parse_63 : decode cX5_parse 63 = .ok (.goto 8, 3) := by decide +kernel
theorem dX5_parse_66 : decode cX5_parse 66 = .ok (.aload_n 0, 1) := by decide +kernel
theorem dX5_parse_67 : decode cX5_parse 67 = .ok (.aload_n 1, 1) := by decide +kernel
theorem dX5_parse_68 : decode cX5_parse 68 = .ok (.invokevirtual 64, 3) := by decide +kernel
theorem dX5_parse_71 : decode cX5_parse 71 = .ok (.iinc 2 1, 3) := by decide +kernel
theorem dX5_parse_74 : decode cX5_parse 74 = .ok (.goto (-43), 3) := by decide +kernel
theorem dX5_parse_77 : decode cX5_parse 77 = .ok (.aload_n 0, 1) := by decide +kernel
theorem dX5_parse_78 : decode cX5_parse 78 = .ok (.getfield 46, 3) := by decide +kernel
theorem dX5_parse_81 : decode cX5_parse 81 = .ok (.ifCond .ne 10, 3) := by decide +kernel
theorem dX5_parse_84 : decode cX5_parse 84 = .ok (.aload_n 0, 1) := by decide +kernel
theorem dX5_parse_85 : decode cX5_parse 85 = .ok (.getfield 43, 3) := by decide +kernel
theorem dX5_parse_88 : decode cX5_parse 88 = .ok (.ifCond .le 9, 3) := by decide +kernel
theorem dX5_parse_91 : decode cX5_parse 91 = .ok (.aload_n 0, 1) := by decide +kernel
theorem dX5_parse_92 : decode cX5_parse 92 = .ok (.iconst 1, 1) := by decide +kernel
theorem dX5_parse_93 : decode cX5_parse 93 = .ok (.aload_n 1, 1) := by decide +kernel
theorem dX5_parse_94 : decode cX5_parse 94 = .ok (.invokevirtual 67, 3) := by decide +kernel
theorem dX5_parse_97 : decode cX5_parse 97 = .ok (.aload_n 0, 1) := by decide +kernel
theorem dX5_parse_98 : decode cX5_parse 98 = .ok (.invokevirtual 71, 3) := by decide +kernel
theorem dX5_parse_101 : decode cX5_parse 101 = .ok (.return_, 1) := by decide +kernel
theorem dX5_blame_0 : decode cX5_blame 0 = .ok (.aload_n 0, 1) := by decide +kernel
theorem dX5_blame_1 : decode cX5_blame 1 = .ok (.getfield 27, 3) := by decide +kernel
theorem dX5_blame_4 : decode cX5_blame 4 = .ok (.ifCond .ne 16, 3) := by decide +kernel
theorem dX5_blame_7 : decode cX5_blame 7 = .ok (.aload_n 0, 1) := by decide +kernel
theorem dX5_blame_8 : decode cX5_blame 8 = .ok (.iload_n 1, 1) := by decide +kernel
theorem dX5_blame_9 : decode cX5_blame 9 = .ok (.putfield 27, 3) := by decide +kernel
theorem dX5_blame_12 : decode cX5_blame 12 = .ok (.aload_n 0, 1) := by decide +kernel
theorem dX5_blame_13 : decode cX5_blame 13 = .ok (.aload_n 2, 1) := by decide +kernel
theorem dX5_blame_14 : decode cX5_blame 14 = .ok (.getfield 74, 3) := by decide +kernel
theorem dX5_blame_17 : decode cX5_blame 17 = .ok (.putfield 30, 3) := by decide +kernel
theorem dX5_blame_20 : decode cX5_blame 20 = .ok (.return_, 1) := by decide +kernel
theorem dX5_begin_0 : decode cX5_begin 0 = .ok (.aload_n 0, 1) := by decide +kernel
theorem dX5_begin_1 : decode cX5_begin 1 = .ok (.iload_n 1, 1) := by decide +kernel
theorem dX5_begin_2 : decode cX5_begin 2 = .ok (.putfield 43, 3) := by decide +kernel
theorem dX5_begin_5 : decode cX5_begin 5 = .ok (.aload_n 0, 1) := by decide +kernel
theorem dX5_begin_6 : decode cX5_begin 6 = .ok (.getfield 33, 3) := by decide +kernel
theorem dX5_begin_9 : decode cX5_begin 9 = .ok (.iload_n 1, 1) := by decide +kernel
theorem dX5_begin_10 : decode cX5_begin 10 = .ok (.iconst 0, 1) := by decide +kernel
theorem dX5_begin_11 : decode cX5_begin 11 = .ok (.bastore, 1) := by decide +kernel
theorem dX5_begin_12 : decode cX5_begin 12 = .ok (.aload_n 0, 1) := by decide +kernel
theorem dX5_begin_13 : decode cX5_begin 13 = .ok (.getfield 37, 3) := by decide +kernel
theorem dX5_begin_16 : decode cX5_begin 16 = .ok (.iload_n 1, 1) := by decide +kernel
theorem dX5_begin_17 : decode cX5_begin 17 = .ok (.iconst 0, 1) := by decide +kernel
theorem dX5_begin_18 : decode cX5_begin 18 = .ok (.bastore, 1) := by decide +kernel
theorem dX5_begin_19 : decode cX5_begin 19 = .ok (.aload_n 0, 1) := by decide +kernel
theorem dX5_begin_20 : decode cX5_begin 20 = .ok (.getfield 40, 3) := by decide +kernel
theorem dX5_begin_23 : decode cX5_begin 23 = .ok (.iload_n 1, 1) := by decide +kernel
theorem dX5_begin_24 : decode cX5_begin 24 = .ok (.iconst 0, 1) := by decide +kernel
theorem dX5_begin_25 : decode cX5_begin 25 = .ok (.bastore, 1) := by decide +kernel
theorem dX5_begin_26 : decode cX5_begin 26 = .ok (.return_, 1) := by decide +kernel
theorem dX5_end_0 : decode cX5_end 0 = .ok (.aload_n 0, 1) := by decide +kernel
theorem dX5_end_1 : decode cX5_end 1 = .ok (.getfield 40, 3) := by decide +kernel
theorem dX5_end_4 : decode cX5_end 4 = .ok (.aload_n 0, 1) := by decide +kernel
theorem dX5_end_5 : decode cX5_end 5 = .ok (.getfield 43, 3) := by decide +kernel
theorem dX5_end_8 : decode cX5_end 8 = .ok (.baload, 1) := by decide +kernel
theorem dX5_end_9 : decode cX5_end 9 = .ok (.ifCond .eq 11, 3) := by decide +kernel
theorem dX5_end_12 : decode cX5_end 12 = .ok (.aload_n 0, 1) := by decide +kernel
theorem dX5_end_13 : decode cX5_end 13 = .ok (.bipush 9, 2) := by decide +kernel
theorem dX5_end_15 : decode cX5_end 15 = .ok (.iconst 0, 1) := by decide +kernel
theorem dX5_end_16 : decode cX5_end 16 = .ok (.iconst 0, 1) := by decide +kernel
theorem dX5_end_17 : decode cX5_end 17 = .ok (.invokevirtual 77, 3) := by decide +kernel
theorem dX5_end_20 : decode cX5_end 20 = .ok (.return_, 1) := by decide +kernel
theorem dX5_takeTest_0 : decode cX5_takeTest 0 = .ok (.aload_n 1, 1) := by decide +kernel
theorem dX5_takeTest_1 : decode cX5_takeTest 1 = .ok (.ldc 81, 2) := by decide +kernel
theorem dX5_takeTest_3 : decode cX5_takeTest 3 = .ok (.invokevirtual 83, 3) := by decide +kernel
theorem dX5_takeTest_6 : decode cX5_takeTest 6 = .ok (.ifCond .eq 36, 3) := by decide +kernel
theorem dX5_takeTest_9 : decode cX5_takeTest 9 = .ok (.aload_n 1, 1) := by decide +kernel
theorem dX5_takeTest_10 : decode cX5_takeTest 10 = .ok (.invokevirtual 87, 3) := by decide +kernel
theorem dX5_takeTest_13 : decode cX5_takeTest 13 = .ok (.aload_n 0, 1) := by decide +kernel
theorem dX5_takeTest_14 : decode cX5_takeTest 14 = .ok (.getfield 33, 3) := by decide +kernel
theorem dX5_takeTest_17 : decode cX5_takeTest 17 = .ok (.aload_n 0, 1) := by decide +kernel
theorem dX5_takeTest_18 : decode cX5_takeTest 18 = .ok (.getfield 43, 3) := by decide +kernel
theorem dX5_takeTest_21 : decode cX5_takeTest 21 = .ok (.aload_n 0, 1) := by decide +kernel
theorem dX5_takeTest_22 : decode cX5_takeTest 22 = .ok (.getfield 33, 3) := by decide +kernel
theorem dX5_takeTest_25 : decode cX5_takeTest 25 = .ok (.aload_n 0, 1) := by decide +kernel
theorem dX5_takeTest_26 : decode cX5_takeTest 26 = .ok (.getfield 43, 3) := by decide +kernel
theorem dX5_takeTest_29 : decode cX5_takeTest 29 = .ok (.baload, 1) := by decide +kernel
theorem dX5_takeTest_30 : decode cX5_takeTest 30 = .ok (.ifCond .ne 7, 3) := by decide +kernel
theorem dX5_takeTest_33 : decode cX5_takeTest 33 = .ok (.iconst 1, 1) := by decide +kernel
theorem dX5_takeTest_34 : decode cX5_takeTest 34 = .ok (.goto 4, 3) := by decide +kernel
theorem dX5_takeTest_37 : decode cX5_takeTest 37 = .ok (.iconst 0, 1) := by decide +kernel
theorem dX5_takeTest_38 : decode cX5_takeTest 38 = .ok (.bastore, 1) := by decide +kernel
theorem dX5_takeTest_39 : decode cX5_takeTest 39 = .ok (.goto 29, 3) := by decide +kernel
theorem dX5_takeTest_42 : decode cX5_takeTest 42 = .ok (.aload_n 1, 1) := by decide +kernel
theorem dX5_takeTest_43 : decode cX5_takeTest 43 = .ok (.bipush 40, 2) := by decide +kernel
theorem dX5_takeTest_45 : decode cX5_takeTest 45 = .ok (.invokevirtual 90, 3) := by decide +kernel
theorem dX5_takeTest_48 : decode cX5_takeTest 48 = .ok (.ifCond .eq 11, 3) := by decide +kernel
theorem dX5_takeTest_51 : decode cX5_takeTest 51 = .ok (.aload_n 0, 1) := by decide +kernel
theorem dX5_takeTest_52 : decode cX5_takeTest 52 = .ok (.aload_n 1, 1) := by decide +kernel
theorem dX5_takeTest_53 : decode cX5_takeTest 53 = .ok (.invokevirtual 94, 3) := by decide +kernel
theorem dX5_takeTest_56 : decode cX5_takeTest 56 = .ok (.goto 12, 3) := by decide +kernel
theorem dX5_takeTest_59 : decode cX5_takeTest 59 = .ok (.aload_n 0, 1) := by decide +kernel
theorem dX5_takeTest_60 : decode cX5_takeTest 60 = .ok (.aload_n 1, 1) := by decide +kernel
theorem dX5_takeTest_61 : decode cX5_takeTest 61 = .ok (.invokevirtual 97, 3) := by decide +kernel
theorem dX5_takeTest_64 : decode cX5_takeTest 64 = .ok (.aload_n 0, 1) := by decide +kernel
theorem dX5_takeTest_65 : decode cX5_takeTest 65 = .ok (.invokevirtual 100, 3) := by decide +kernel
theorem dX5_takeTest_68 : decode cX5_takeTest 68 = .ok (.return_, 1) := by decide +kernel
theorem dX5_takeOpening_0 : decode cX5_takeOpening 0 = .ok (.aload_n 0, 1) := by decide +kernel
theorem dX5_takeOpening_1 : decode cX5_takeOpening 1 = .ok (.getfield 43, 3) := by decide +kernel
theorem dX5_takeOpening_4 : decode cX5_takeOpening 4 = .ok (.iconst 4, 1) := by decide +kernel
theorem dX5_takeOpening_5 : decode cX5_takeOpening 5 = .ok (.if_icmp .lt 10, 3) := by decide +kernel
theorem dX5_takeOpening_8 : decode cX5_takeOpening 8 = .ok (.aload_n 0, 1) := by decide +kernel
theorem dX5_takeOpening_9 : decode cX5_takeOpening 9 = .ok (.iconst 3, 1) := by decide +kernel
theorem dX5_takeOpening_10 : decode cX5_takeOpening 10 = .ok (.aload_n 1, 1) := by decide +kernel
theorem dX5_takeOpening_11 : decode cX5_takeOpening 11 = .ok (.invokevirtual 67, 3) := by decide +kernel
theorem dX5_takeOpening_14 : decode cX5_takeOpening 14 = .ok (.return_, 1) := by decide +kernel
theorem dX5_takeOpening_15 : decode cX5_takeOpening 15 = .ok (.aload_n 1, 1) := by decide +kernel
theorem dX5_takeOpening_16 : decode cX5_takeOpening 16 = .ok (.invokevirtual 87, 3) := by decide +kernel
theorem dX5_takeOpening_19 : decode cX5_takeOpening 19 = .ok (.aload_n 0, 1) := by decide +kernel
theorem dX5_takeOpening_20 : decode cX5_takeOpening 20 = .ok (.aload_n 0, 1) := by decide +kernel
theorem dX5_takeOpening_21 : decode cX5_takeOpening 21 = .ok (.getfield 43, 3) := by decide +kernel
theorem dX5_takeOpening_24 : decode cX5_takeOpening 24 = .ok (.iconst 1, 1) := by decide +kernel
theorem dX5_takeOpening_25 : decode cX5_takeOpening 25 = .ok (.iadd, 1) := by decide +kernel
theorem dX5_takeOpening_26 : decode cX5_takeOpening 26 = .ok (.invokevirtual 50, 3) := by decide +kernel
theorem dX5_takeOpening_29 : decode cX5_takeOpening 29 = .ok (.return_, 1) := by decide +kernel
theorem dX5_takeWord_0 : decode cX5_takeWord 0 = .ok (.aload_n 1, 1) := by decide +kernel
theorem dX5_takeWord_1 : decode cX5_takeWord 1 = .ok (.ldc 103, 2) := by decide +kernel
theorem dX5_takeWord_3 : decode cX5_takeWord 3 = .ok (.invokevirtual 83, 3) := by decide +kernel
theorem dX5_takeWord_6 : decode cX5_takeWord 6 = .ok (.ifCond .eq 11, 3) := by decide +kernel
theorem dX5_takeWord_9 : decode cX5_takeWord 9 = .ok (.aload_n 0, 1) := by decide +kernel
theorem dX5_takeWord_10 : decode cX5_takeWord 10 = .ok (.aload_n 1, 1) := by decide +kernel
theorem dX5_takeWord_11 : decode cX5_takeWord 11 = .ok (.invokevirtual 105, 3) := by decide +kernel
theorem dX5_takeWord_14 : decode cX5_takeWord 14 = .ok (.goto 112, 3) := by decide +kernel
theorem dX5_takeWord_17 : decode cX5_takeWord 17 = .ok (.aload_n 1, 1) := by decide +kernel
theorem dX5_takeWord_18 : decode cX5_takeWord 18 = .ok (.ldc 108, 2) := by decide +kernel
theorem dX5_takeWord_20 : decode cX5_takeWord 20 = .ok (.invokevirtual 83, 3) := by decide +kernel
theorem dX5_takeWord_23 : decode cX5_takeWord 23 = .ok (.ifCond .eq 14, 3) := by decide +kernel
theorem dX5_takeWord_26 : decode cX5_takeWord 26 = .ok (.aload_n 0, 1) := by decide +kernel
theorem dX5_takeWord_27 : decode cX5_takeWord 27 = .ok (.aload_n 1, 1) := by decide +kernel
theorem dX5_takeWord_28 : decode cX5_takeWord 28 = .ok (.iconst 1, 1) := by decide +kernel
theorem dX5_takeWord_29 : decode cX5_takeWord 29 = .ok (.bipush 12, 2) := by decide +kernel
theorem dX5_takeWord_31 : decode cX5_takeWord 31 = .ok (.invokevirtual 110, 3) := by decide +kernel
theorem dX5_takeWord_34 : decode cX5_takeWord 34 = .ok (.goto 92, 3) := by decide +kernel
theorem dX5_takeWord_37 : decode cX5_takeWord 37 = .ok (.aload_n 1, 1) := by decide +kernel
theorem dX5_takeWord_38 : decode cX5_takeWord 38 = .ok (.ldc 114, 2) := by decide +kernel
theorem dX5_takeWord_40 : decode cX5_takeWord 40 = .ok (.invokevirtual 83, 3) := by decide +kernel
theorem dX5_takeWord_43 : decode cX5_takeWord 43 = .ok (.ifCond .eq 14, 3) := by decide +kernel
theorem dX5_takeWord_46 : decode cX5_takeWord 46 = .ok (.aload_n 0, 1) := by decide +kernel
theorem dX5_takeWord_47 : decode cX5_takeWord 47 = .ok (.aload_n 1, 1) := by decide +kernel
theorem dX5_takeWord_48 : decode cX5_takeWord 48 = .ok (.iconst 3, 1) := by decide +kernel
theorem dX5_takeWord_49 : decode cX5_takeWord 49 = .ok (.bipush 11, 2) := by decide +kernel
theorem dX5_takeWord_51 : decode cX5_takeWord 51 = .ok (.invokevirtual 110, 3) := by decide +kernel
theorem dX5_takeWord_54 : decode cX5_takeWord 54 = .ok (.goto 72, 3) := by decide +kernel
theorem dX5_takeWord_57 : decode cX5_takeWord 57 = .ok (.aload_n 1, 1) := by decide +kernel
theorem dX5_takeWord_58 : decode cX5_takeWord 58 = .ok (.ldc 116, 2) := by decide +kernel
theorem dX5_takeWord_60 : decode cX5_takeWord 60 = .ok (.invokevirtual 83, 3) := by decide +kernel
theorem dX5_takeWord_63 : decode cX5_takeWord 63 = .ok (.ifCond .eq 14, 3) := by decide +kernel
theorem dX5_takeWord_66 : decode cX5_takeWord 66 = .ok (.aload_n 0, 1) := by decide +kernel
theorem dX5_takeWord_67 : decode cX5_takeWord 67 = .ok (.aload_n 1, 1) := by decide +kernel
theorem dX5_takeWord_68 : decode cX5_takeWord 68 = .ok (.iconst 4, 1) := by decide +kernel
theorem dX5_takeWord_69 : decode cX5_takeWord 69 = .ok (.bipush 12, 2) := by decide +kernel
theorem dX5_takeWord_71 : decode cX5_takeWord 71 = .ok (.invokevirtual 110, 3) := by decide +kernel
theorem dX5_takeWord_74 : decode cX5_takeWord 74 = .ok (.goto 52, 3) := by decide +kernel
theorem dX5_takeWord_77 : decode cX5_takeWord 77 = .ok (.aload_n 1, 1) := by decide +kernel
theorem dX5_takeWord_78 : decode cX5_takeWord 78 = .ok (.ldc 118, 2) := by decide +kernel
theorem dX5_takeWord_80 : decode cX5_takeWord 80 = .ok (.invokevirtual 83, 3) := by decide +kernel
theorem dX5_takeWord_83 : decode cX5_takeWord 83 = .ok (.ifCond .eq 14, 3) := by decide +kernel
theorem dX5_takeWord_86 : decode cX5_takeWord 86 = .ok (.aload_n 0, 1) := by decide +kernel
theorem dX5_takeWord_87 : decode cX5_takeWord 87 = .ok (.aload_n 1, 1) := by decide +kernel
theorem dX5_takeWord_88 : decode cX5_takeWord 88 = .ok (.bipush 6, 2) := by decide +kernel
theorem dX5_takeWord_90 : decode cX5_takeWord 90 = .ok (.iconst 5, 1) := by decide +kernel
theorem dX5_takeWord_91 : decode cX5_takeWord 91 = .ok (.invokevirtual 110, 3) := by decide +kernel
theorem dX5_takeWord_94 : decode cX5_takeWord 94 = .ok (.goto 32, 3) := by decide +kernel
theorem dX5_takeWord_97 : decode cX5_takeWord 97 = .ok (.aload_n 1, 1) := by decide +kernel
theorem dX5_takeWord_98 : decode cX5_takeWord 98 = .ok (.ldc 120, 2) := by decide +kernel
theorem dX5_takeWord_100 : decode cX5_takeWord 100 = .ok (.invokevirtual 83, 3) := by decide +kernel
theorem dX5_takeWord_103 : decode cX5_takeWord 103 = .ok (.ifCond .eq 17, 3) := by decide +kernel
theorem dX5_takeWord_106 : decode cX5_takeWord 106 = .ok (.aload_n 1, 1) := by decide +kernel
theorem dX5_takeWord_107 : decode cX5_takeWord 107 = .ok (.invokevirtual 87, 3) := by decide +kernel
theorem dX5_takeWord_110 : decode cX5_takeWord 110 = .ok (.aload_n 0, 1) := by decide +kernel
theorem dX5_takeWord_111 : decode cX5_takeWord 111 = .ok (.iconst 5, 1) := by decide +kernel
theorem dX5_takeWord_112 : decode cX5_takeWord 112 = .ok (.iconst 0, 1) := by decide +kernel
theorem dX5_takeWord_113 : decode cX5_takeWord 113 = .ok (.iconst 0, 1) := by decide +kernel
theorem dX5_takeWord_114 : decode cX5_takeWord 114 = .ok (.invokevirtual 77, 3) := by decide +kernel
theorem dX5_takeWord_117 : decode cX5_takeWord 117 = .ok (.goto 9, 3) := by decide +kernel
theorem dX5_takeWord_120 : decode cX5_takeWord 120 = .ok (.aload_n 0, 1) := by decide +kernel
theorem dX5_takeWord_121 : decode cX5_takeWord 121 = .ok (.iconst 1, 1) := by decide +kernel
theorem dX5_takeWord_122 : decode cX5_takeWord 122 = .ok (.aload_n 1, 1) := by decide +kernel
theorem dX5_takeWord_123 : decode cX5_takeWord 123 = .ok (.invokevirtual 67, 3) := by decide +kernel
theorem dX5_takeWord_126 : decode cX5_takeWord 126 = .ok (.return_, 1) := by decide +kernel
theorem dX5_endTest_0 : decode cX5_endTest 0 = .ok (.aload_n 0, 1) := by decide +kernel
theorem dX5_endTest_1 : decode cX5_endTest 1 = .ok (.getfield 33, 3) := by decide +kernel
theorem dX5_endTest_4 : decode cX5_endTest 4 = .ok (.aload_n 0, 1) := by decide +kernel
theorem dX5_endTest_5 : decode cX5_endTest 5 = .ok (.getfield 43, 3) := by decide +kernel
theorem dX5_endTest_8 : decode cX5_endTest 8 = .ok (.baload, 1) := by decide +kernel
theorem dX5_endTest_9 : decode cX5_endTest 9 = .ok (.ifCond .eq 21, 3) := by decide +kernel
theorem dX5_endTest_12 : decode cX5_endTest 12 = .ok (.aload_n 0, 1) := by decide +kernel
theorem dX5_endTest_13 : decode cX5_endTest 13 = .ok (.bipush 7, 2) := by decide +kernel
theorem dX5_endTest_15 : decode cX5_endTest 15 = .ok (.iconst 0, 1) := by decide +kernel
theorem dX5_endTest_16 : decode cX5_endTest 16 = .ok (.iconst 0, 1) := by decide +kernel
theorem dX5_endTest_17 : decode cX5_endTest 17 = .ok (.invokevirtual 77, 3) := by decide +kernel
theorem dX5_endTest_20 : decode cX5_endTest 20 = .ok (.aload_n 0, 1) := by decide +kernel
theorem dX5_endTest_21 : decode cX5_endTest 21 = .ok (.getfield 33, 3) := by decide +kernel
theorem dX5_endTest_24 : decode cX5_endTest 24 = .ok (.aload_n 0, 1) := by decide +kernel
theorem dX5_endTest_25 : decode cX5_endTest 25 = .ok (.getfield 43, 3) := by decide +kernel
theorem dX5_endTest_28 : decode cX5_endTest 28 = .ok (.iconst 0, 1) := by decide +kernel
theorem dX5_endTest_29 : decode cX5_endTest 29 = .ok (.bastore, 1) := by decide +kernel
theorem dX5_endTest_30 : decode cX5_endTest 30 = .ok (.aload_n 0, 1) := by decide +kernel
theorem dX5_endTest_31 : decode cX5_endTest 31 = .ok (.getfield 37, 3) := by decide +kernel
theorem dX5_endTest_34 : decode cX5_endTest 34 = .ok (.aload_n 0, 1) := by decide +kernel
theorem dX5_endTest_35 : decode cX5_endTest 35 = .ok (.getfield 43, 3) := by decide +kernel
theorem dX5_endTest_38 : decode cX5_endTest 38 = .ok (.baload, 1) := by decide +kernel
theorem dX5_endTest_39 : decode cX5_endTest 39 = .ok (.ifCond .eq 21, 3) := by decide +kernel
theorem dX5_endTest_42 : decode cX5_endTest 42 = .ok (.aload_n 0, 1) := by decide +kernel
theorem dX5_endTest_43 : decode cX5_endTest 43 = .ok (.bipush 8, 2) := by decide +kernel
theorem dX5_endTest_45 : decode cX5_endTest 45 = .ok (.iconst 0, 1) := by decide +kernel
theorem dX5_endTest_46 : decode cX5_endTest 46 = .ok (.iconst 0, 1) := by decide +kernel
theorem dX5_endTest_47 : decode cX5_endTest 47 = .ok (.invokevirtual 77, 3) := by decide +kernel
theorem dX5_endTest_50 : decode cX5_endTest 50 = .ok (.aload_n 0, 1) := by decide +kernel
theorem dX5_endTest_51 : decode cX5_endTest 51 = .ok (.getfield 37, 3) := by decide +kernel
theorem dX5_endTest_54 : decode cX5_endTest 54 = .ok (.aload_n 0, 1) := by decide +kernel
theorem dX5_endTest_55 : decode cX5_endTest 55 = .ok (.getfield 43, 3) := by decide +kernel
theorem dX5_endTest_58 : decode cX5_endTest 58 = .ok (.iconst 0, 1) := by decide +kernel
theorem dX5_endTest_59 : decode cX5_endTest 59 = .ok (.bastore, 1) := by decide +kernel
theorem dX5_endTest_60 : decode cX5_endTest 60 = .ok (.aload_n 0, 1) := by decide +kernel
theorem dX5_endTest_61 : decode cX5_endTest 61 = .ok (.iconst 0, 1) := by decide +kernel
theorem dX5_endTest_62 : decode cX5_endTest 62 = .ok (.putfield 46, 3) := by decide +kernel
theorem dX5_endTest_65 : decode cX5_endTest 65 = .ok (.return_, 1) := by decide +kernel
theorem dX5_takeJoint_0 : decode cX5_takeJoint 0 = .ok (.aload_n 1, 1) := by decide +kernel
theorem dX5_takeJoint_1 : decode cX5_takeJoint 1 = .ok (.ldc 122, 2) := by decide +kernel
theorem dX5_takeJoint_3 : decode cX5_takeJoint 3 = .ok (.invokevirtual 83, 3) := by decide +kernel
theorem dX5_takeJoint_6 : decode cX5_takeJoint 6 = .ok (.ifCond .eq 25, 3) := by decide +kernel
theorem dX5_takeJoint_9 : decode cX5_takeJoint 9 = .ok (.aload_n 1, 1) := by decide +kernel
theorem dX5_takeJoint_10 : decode cX5_takeJoint 10 = .ok (.invokevirtual 87, 3) := by decide +kernel
theorem dX5_takeJoint_13 : decode cX5_takeJoint 13 = .ok (.aload_n 0, 1) := by decide +kernel
theorem dX5_takeJoint_14 : decode cX5_takeJoint 14 = .ok (.getfield 37, 3) := by decide +kernel
theorem dX5_takeJoint_17 : decode cX5_takeJoint 17 = .ok (.aload_n 0, 1) := by decide +kernel
theorem dX5_takeJoint_18 : decode cX5_takeJoint 18 = .ok (.getfield 43, 3) := by decide +kernel
theorem dX5_takeJoint_21 : decode cX5_takeJoint 21 = .ok (.iconst 1, 1) := by decide +kernel
theorem dX5_takeJoint_22 : decode cX5_takeJoint 22 = .ok (.bastore, 1) := by decide +kernel
theorem dX5_takeJoint_23 : decode cX5_takeJoint 23 = .ok (.aload_n 0, 1) := by decide +kernel
theorem dX5_takeJoint_24 : decode cX5_takeJoint 24 = .ok (.iconst 1, 1) := by decide +kernel
theorem dX5_takeJoint_25 : decode cX5_takeJoint 25 = .ok (.putfield 46, 3) := by decide +kernel
theorem dX5_takeJoint_28 : decode cX5_takeJoint 28 = .ok (.goto 85, 3) := by decide +kernel
theorem dX5_takeJoint_31 : decode cX5_takeJoint 31 = .ok (.aload_n 1, 1) := by decide +kernel
theorem dX5_takeJoint_32 : decode cX5_takeJoint 32 = .ok (.ldc 124, 2) := by decide +kernel
theorem dX5_takeJoint_34 : decode cX5_takeJoint 34 = .ok (.invokevirtual 83, 3) := by decide +kernel
theorem dX5_takeJoint_37 : decode cX5_takeJoint 37 = .ok (.ifCond .eq 29, 3) := by decide +kernel
theorem dX5_takeJoint_40 : decode cX5_takeJoint 40 = .ok (.aload_n 1, 1) := by decide +kernel
theorem dX5_takeJoint_41 : decode cX5_takeJoint 41 = .ok (.invokevirtual 87, 3) := by decide +kernel
theorem dX5_takeJoint_44 : decode cX5_takeJoint 44 = .ok (.aload_n 0, 1) := by decide +kernel
theorem dX5_takeJoint_45 : decode cX5_takeJoint 45 = .ok (.invokevirtual 71, 3) := by decide +kernel
theorem dX5_takeJoint_48 : decode cX5_takeJoint 48 = .ok (.aload_n 0, 1) := by decide +kernel
theorem dX5_takeJoint_49 : decode cX5_takeJoint 49 = .ok (.getfield 40, 3) := by decide +kernel
theorem dX5_takeJoint_52 : decode cX5_takeJoint 52 = .ok (.aload_n 0, 1) := by decide +kernel
theorem dX5_takeJoint_53 : decode cX5_takeJoint 53 = .ok (.getfield 43, 3) := by decide +kernel
theorem dX5_takeJoint_56 : decode cX5_takeJoint 56 = .ok (.iconst 1, 1) := by decide +kernel
theorem dX5_takeJoint_57 : decode cX5_takeJoint 57 = .ok (.bastore, 1) := by decide +kernel
theorem dX5_takeJoint_58 : decode cX5_takeJoint 58 = .ok (.aload_n 0, 1) := by decide +kernel
theorem dX5_takeJoint_59 : decode cX5_takeJoint 59 = .ok (.iconst 1, 1) := by decide +kernel
theorem dX5_takeJoint_60 : decode cX5_takeJoint 60 = .ok (.putfield 46, 3) := by decide +kernel
theorem dX5_takeJoint_63 : decode cX5_takeJoint 63 = .ok (.goto 50, 3) := by decide +kernel
theorem dX5_takeJoint_66 : decode cX5_takeJoint 66 = .ok (.aload_n 0, 1) := by decide +kernel
theorem dX5_takeJoint_67 : decode cX5_takeJoint 67 = .ok (.getfield 43, 3) := by decide +kernel
theorem dX5_takeJoint_70 : decode cX5_takeJoint 70 = .ok (.ifCond .le 37, 3) := by decide +kernel
theorem dX5_takeJoint_73 : decode cX5_takeJoint 73 = .ok (.aload_n 1, 1) := by decide +kernel
theorem dX5_takeJoint_74 : decode cX5_takeJoint 74 = .ok (.bipush 41, 2) := by decide +kernel
theorem dX5_takeJoint_76 : decode cX5_takeJoint 76 = .ok (.invokevirtual 90, 3) := by decide +kernel
theorem dX5_takeJoint_79 : decode cX5_takeJoint 79 = .ok (.ifCond .eq 28, 3) := by decide +kernel
theorem dX5_takeJoint_82 : decode cX5_takeJoint 82 = .ok (.aload_n 1, 1) := by decide +kernel
theorem dX5_takeJoint_83 : decode cX5_takeJoint 83 = .ok (.invokevirtual 87, 3) := by decide +kernel
theorem dX5_takeJoint_86 : decode cX5_takeJoint 86 = .ok (.aload_n 0, 1) := by decide +kernel
theorem dX5_takeJoint_87 : decode cX5_takeJoint 87 = .ok (.invokevirtual 71, 3) := by decide +kernel
theorem dX5_takeJoint_90 : decode cX5_takeJoint 90 = .ok (.aload_n 0, 1) := by decide +kernel
theorem dX5_takeJoint_91 : decode cX5_takeJoint 91 = .ok (.dup, 1) := by decide +kernel
theorem dX5_takeJoint_92 : decode cX5_takeJoint 92 = .ok (.getfield 43, 3) := by decide +kernel
theorem dX5_takeJoint_95 : decode cX5_takeJoint 95 = .ok (.iconst 1, 1) := by decide +kernel
theorem dX5_takeJoint_96 : decode cX5_takeJoint 96 = .ok (.isub, 1) := by decide +kernel
theorem dX5_takeJoint_97 : decode cX5_takeJoint 97 = .ok (.putfield 43, 3) := by decide +kernel
theorem dX5_takeJoint_100 : decode cX5_takeJoint 100 = .ok (.aload_n 0, 1) := by decide +kernel
theorem dX5_takeJoint_101 : decode cX5_takeJoint 101 = .ok (.invokevirtual 100, 3) := by decide +kernel
theorem dX5_takeJoint_104 : decode cX5_takeJoint 104 = .ok (.goto 9, 3) := by decide +kernel
theorem dX5_takeJoint_107 : decode cX5_takeJoint 107 = .ok (.aload_n 0, 1) := by decide +kernel
theorem dX5_takeJoint_108 : decode cX5_takeJoint 108 = .ok (.iconst 1, 1) := by decide +kernel
theorem dX5_takeJoint_109 : decode cX5_takeJoint 109 = .ok (.aload_n 1, 1) := by decide +kernel
theorem dX5_takeJoint_110 : decode cX5_takeJoint 110 = .ok (.invokevirtual 67, 3) := by decide +kernel
theorem dX5_takeJoint_113 : decode cX5_takeJoint 113 = .ok (.return_, 1) := by decide +kernel
theorem dX5_takeNumbered_0 : decode cX5_takeNumbered 0 = .ok (.aload_n 1, 1) := by decide +kernel
theorem dX5_takeNumbered_1 : decode cX5_takeNumbered 1 = .ok (.invokevirtual 87, 3) := by decide +kernel
theorem dX5_takeNumbered_4 : decode cX5_takeNumbered 4 = .ok (.aload_n 0, 1) := by decide +kernel
theorem dX5_takeNumbered_5 : decode cX5_takeNumbered 5 = .ok (.iload_n 2, 1) := by decide +kernel
theorem dX5_takeNumbered_6 : decode cX5_takeNumbered 6 = .ok (.aload_n 0, 1) := by decide +kernel
theorem dX5_takeNumbered_7 : decode cX5_takeNumbered 7 = .ok (.aload_n 1, 1) := by decide +kernel
theorem dX5_takeNumbered_8 : decode cX5_takeNumbered 8 = .ok (.iconst 0, 1) := by decide +kernel
theorem dX5_takeNumbered_9 : decode cX5_takeNumbered 9 = .ok (.iload_n 3, 1) := by decide +kernel
theorem dX5_takeNumbered_10 : decode cX5_takeNumbered 10 = .ok (.invokevirtual 126, 3) := by decide +kernel
theorem dX5_takeNumbered_13 : decode cX5_takeNumbered 13 = .ok (.iconst 0, 1) := by decide +kernel
theorem dX5_takeNumbered_14 : decode cX5_takeNumbered 14 = .ok (.invokevirtual 77, 3) := by decide +kernel
theorem dX5_takeNumbered_17 : decode cX5_takeNumbered 17 = .ok (.return_, 1) := by decide +kernel
theorem dX5_takeSum_0 : decode cX5_takeSum 0 = .ok (.aload_n 1, 1) := by decide +kernel
theorem dX5_takeSum_1 : decode cX5_takeSum 1 = .ok (.invokevirtual 87, 3) := by decide +kernel
theorem dX5_takeSum_4 : decode cX5_takeSum 4 = .ok (.aload_n 0, 1) := by decide +kernel
theorem dX5_takeSum_5 : decode cX5_takeSum 5 = .ok (.aload_n 1, 1) := by decide +kernel
theorem dX5_takeSum_6 : decode cX5_takeSum 6 = .ok (.iconst 0, 1) := by decide +kernel
theorem dX5_takeSum_7 : decode cX5_takeSum 7 = .ok (.bipush 98, 2) := by decide +kernel
theorem dX5_takeSum_9 : decode cX5_takeSum 9 = .ok (.invokevirtual 126, 3) := by decide +kernel
theorem dX5_takeSum_12 : decode cX5_takeSum 12 = .ok (.istore_n 2, 1) := by decide +kernel
theorem dX5_takeSum_13 : decode cX5_takeSum 13 = .ok (.aload_n 1, 1) := by decide +kernel
theorem dX5_takeSum_14 : decode cX5_takeSum 14 = .ok (.ldc 130, 2) := by decide +kernel
theorem dX5_takeSum_16 : decode cX5_takeSum 16 = .ok (.invokevirtual 83, 3) := by decide +kernel
theorem dX5_takeSum_19 : decode cX5_takeSum 19 = .ok (.ifCond .ne 10, 3) := by decide +kernel
theorem dX5_takeSum_22 : decode cX5_takeSum 22 = .ok (.aload_n 0, 1) := by decide +kernel
theorem dX5_takeSum_23 : decode cX5_takeSum 23 = .ok (.iconst 1, 1) := by decide +kernel
theorem dX5_takeSum_24 : decode cX5_takeSum 24 = .ok (.aload_n 1, 1) := by decide +kernel
theorem dX5_takeSum_25 : decode cX5_takeSum 25 = .ok (.invokevirtual 67, 3) := by decide +kernel
theorem dX5_takeSum_28 : decode cX5_takeSum 28 = .ok (.return_, 1) := by decide +kernel
theorem dX5_takeSum_29 : decode cX5_takeSum 29 = .ok (.aload_n 1, 1) := by decide +kernel
theorem dX5_takeSum_30 : decode cX5_takeSum 30 = .ok (.invokevirtual 87, 3) := by decide +kernel
theorem dX5_takeSum_33 : decode cX5_takeSum 33 = .ok (.aload_n 0, 1) := by decide +kernel
theorem dX5_takeSum_34 : decode cX5_takeSum 34 = .ok (.iconst 2, 1) := by decide +kernel
theorem dX5_takeSum_35 : decode cX5_takeSum 35 = .ok (.iload_n 2, 1) := by decide +kernel
theorem dX5_takeSum_36 : decode cX5_takeSum 36 = .ok (.aload_n 0, 1) := by decide +kernel
theorem dX5_takeSum_37 : decode cX5_takeSum 37 = .ok (.aload_n 1, 1) := by decide +kernel
theorem dX5_takeSum_38 : decode cX5_takeSum 38 = .ok (.iconst 1, 1) := by decide +kernel
theorem dX5_takeSum_39 : decode cX5_takeSum 39 = .ok (.bipush 99, 2) := by decide +kernel
theorem dX5_takeSum_41 : decode cX5_takeSum 41 = .ok (.invokevirtual 126, 3) := by decide +kernel
theorem dX5_takeSum_44 : decode cX5_takeSum 44 = .ok (.invokevirtual 77, 3) := by decide +kernel
theorem dX5_takeSum_47 : decode cX5_takeSum 47 = .ok (.return_, 1) := by decide +kernel
theorem dX5_takeNumber_0 : decode cX5_takeNumber 0 = .ok (.aload_n 1, 1) := by decide +kernel
theorem dX5_takeNumber_1 : decode cX5_takeNumber 1 = .ok (.getfield 57, 3) := by decide +kernel
theorem dX5_takeNumber_4 : decode cX5_takeNumber 4 = .ok (.iconst 2, 1) := by decide +kernel
theorem dX5_takeNumber_5 : decode cX5_takeNumber 5 = .ok (.if_icmp .eq 11, 3) := by decide +kernel
theorem dX5_takeNumber_8 : decode cX5_takeNumber 8 = .ok (.aload_n 0, 1) := by decide +kernel
theorem dX5_takeNumber_9 : decode cX5_takeNumber 9 = .ok (.iconst 1, 1) := by decide +kernel
theorem dX5_takeNumber_10 : decode cX5_takeNumber 10 = .ok (.aload_n 1, 1) := by decide +kernel
theorem dX5_takeNumber_11 : decode cX5_takeNumber 11 = .ok (.invokevirtual 67, 3) := by decide +kernel
theorem dX5_takeNumber_14 : decode cX5_takeNumber 14 = .ok (.iload_n 2, 1) := by decide +kernel
theorem dX5_takeNumber_15 : decode cX5_takeNumber 15 = .ok (.ireturn, 1) := by decide +kernel
theorem dX5_takeNumber_16 : decode cX5_takeNumber 16 = .ok (.aload_n 1, 1) := by decide +kernel
theorem dX5_takeNumber_17 : decode cX5_takeNumber 17 = .ok (.invokevirtual 132, 3) := by decide +kernel
theorem dX5_takeNumber_20 : decode cX5_takeNumber 20 = .ok (.istore 4, 2) := by decide +kernel
theorem dX5_takeNumber_22 : decode cX5_takeNumber 22 = .ok (.iload 4, 2) := by decide +kernel
theorem dX5_takeNumber_24 : decode cX5_takeNumber 24 = .ok (.iload_n 2, 1) := by decide +kernel
theorem dX5_takeNumber_25 : decode cX5_takeNumber 25 = .ok (.if_icmp .lt 9, 3) := by decide +kernel
theorem dX5_takeNumber_28 : decode cX5_takeNumber 28 = .ok (.iload 4, 2) := by decide +kernel
theorem dX5_takeNumber_30 : decode cX5_takeNumber 30 = .ok (.iload_n 3, 1) := by decide +kernel
theorem dX5_takeNumber_31 : decode cX5_takeNumber 31 = .ok (.if_icmp .le 11, 3) := by decide +kernel
theorem dX5_takeNumber_34 : decode cX5_takeNumber 34 = .ok (.aload_n 0, 1) := by decide +kernel
theorem dX5_takeNumber_35 : decode cX5_takeNumber 35 = .ok (.iconst 2, 1) := by decide +kernel
theorem dX5_takeNumber_36 : decode cX5_takeNumber 36 = .ok (.aload_n 1, 1) := by decide +kernel
theorem dX5_takeNumber_37 : decode cX5_takeNumber 37 = .ok (.invokevirtual 67, 3) := by decide +kernel
theorem dX5_takeNumber_40 : decode cX5_takeNumber 40 = .ok (.iload_n 2, 1) := by decide +kernel
theorem dX5_takeNumber_41 : decode cX5_takeNumber 41 = .ok (.ireturn, 1) := by decide +kernel
theorem dX5_takeNumber_42 : decode cX5_takeNumber 42 = .ok (.aload_n 1, 1) := by decide +kernel
theorem dX5_takeNumber_43 : decode cX5_takeNumber 43 = .ok (.invokevirtual 87, 3) := by decide +kernel
theorem dX5_takeNumber_46 : decode cX5_takeNumber 46 = .ok (.iload 4, 2) := by decide +kernel
theorem dX5_takeNumber_48 : decode cX5_takeNumber 48 = .ok (.ireturn, 1) := by decide +kernel
theorem dX5_put_0 : decode cX5_put 0 = .ok (.aload_n 0, 1) := by decide +kernel
theorem dX5_put_1 : decode cX5_put 1 = .ok (.getfield 23, 3) := by decide +kernel
theorem dX5_put_4 : decode cX5_put 4 = .ok (.aload_n 0, 1) := by decide +kernel
theorem dX5_put_5 : decode cX5_put 5 = .ok (.getfield 11, 3) := by decide +kernel
theorem dX5_put_8 : decode cX5_put 8 = .ok (.arraylength, 1) := by decide +kernel
theorem dX5_put_9 : decode cX5_put 9 = .ok (.if_icmp .ge 43, 3) := by decide +kernel
theorem dX5_put_12 : decode cX5_put 12 = .ok (.aload_n 0, 1) := by decide +kernel
theorem dX5_put_13 : decode cX5_put 13 = .ok (.getfield 11, 3) := by decide +kernel
theorem dX5_put_16 : decode cX5_put 16 = .ok (.aload_n 0, 1) := by decide +kernel
theorem dX5_put_17 : decode cX5_put 17 = .ok (.getfield 23, 3) := by decide +kernel
theorem dX5_put_20 : decode cX5_put 20 = .ok (.iload_n 1, 1) := by decide +kernel
theorem dX5_put_21 : decode cX5_put 21 = .ok (.iastore, 1) := by decide +kernel
theorem dX5_put_22 : decode cX5_put 22 = .ok (.aload_n 0, 1) := by decide +kernel
theorem dX5_put_23 : decode cX5_put 23 = .ok (.getfield 17, 3) := by decide +kernel
theorem dX5_put_26 : decode cX5_put 26 = .ok (.aload_n 0, 1) := by decide +kernel
theorem dX5_put_27 : decode cX5_put 27 = .ok (.getfield 23, 3) := by decide +kernel
theorem dX5_put_30 : decode cX5_put 30 = .ok (.iload_n 2, 1) := by decide +kernel
theorem dX5_put_31 : decode cX5_put 31 = .ok (.iastore, 1) := by decide +kernel
theorem dX5_put_32 : decode cX5_put 32 = .ok (.aload_n 0, 1) := by decide +kernel
theorem dX5_put_33 : decode cX5_put 33 = .ok (.getfield 20, 3) := by decide +kernel
theorem dX5_put_36 : decode cX5_put 36 = .ok (.aload_n 0, 1) := by decide +kernel
theorem dX5_put_37 : decode cX5_put 37 = .ok (.getfield 23, 3) := by decide +kernel
theorem dX5_put_40 : decode cX5_put 40 = .ok (.iload_n 3, 1) := by decide +kernel
theorem dX5_put_41 : decode cX5_put 41 = .ok (.iastore, 1) := by decide +kernel
theorem dX5_put_42 : decode cX5_put 42 = .ok (.aload_n 0, 1) := by decide +kernel
theorem dX5_put_43 : decode cX5_put 43 = .ok (.dup, 1) := by decide +kernel
theorem dX5_put_44 : decode cX5_put 44 = .ok (.getfield 23, 3) := by decide +kernel
theorem dX5_put_47 : decode cX5_put 47 = .ok (.iconst 1, 1) := by decide +kernel
theorem dX5_put_48 : decode cX5_put 48 = .ok (.iadd, 1) := by decide +kernel
theorem dX5_put_49 : decode cX5_put 49 = .ok (.putfield 23, 3) := by decide +kernel
theorem dX5_put_52 : decode cX5_put 52 = .ok (.return_, 1) := by decide +kernel
theorem dX5_suits_0 : decode cX5_suits 0 = .ok (.lconst 0, 1) := by decide +kernel
theorem dX5_suits_1 : decode cX5_suits 1 = .ok (.lstore 4, 2) := by decide +kernel
theorem dX5_suits_3 : decode cX5_suits 3 = .ok (.iconst 0, 1) := by decide +kernel
theorem dX5_suits_4 : decode cX5_suits 4 = .ok (.istore 6, 2) := by decide +kernel
theorem dX5_suits_6 : decode cX5_suits 6 = .ok (.iload 6, 2) := by decide +kernel
theorem dX5_suits_8 : decode cX5_suits 8 = .ok (.aload_n 0, 1) := by decide +kernel
theorem dX5_suits_9 : decode cX5_suits 9 = .ok (.getfield 23, 3) := by decide +kernel
theorem dX5_suits_12 : decode cX5_suits 12 = .ok (.if_icmp .ge 108, 3) := by decide +kernel
theorem dX5_suits_15 : decode cX5_suits 15 = .ok (.aload_n 0, 1) := by decide +kernel
theorem dX5_suits_16 : decode cX5_suits 16 = .ok (.getfield 11, 3) := by decide +kernel
theorem dX5_suits_19 : decode cX5_suits 19 = .ok (.iload 6, 2) := by decide +kernel
theorem dX5_suits_21 : decode cX5_suits 21 = .ok (.iaload, 1) := by decide +kernel
theorem dX5_suits_22 : decode cX5_suits 22 = .ok (.bipush 7, 2) := by decide +kernel
theorem dX5_suits_24 : decode cX5_suits 24 = .ok (.if_icmp .ne 12, 3) := by decide +kernel
theorem dX5_suits_27 : decode cX5_suits 27 = .ok (.lload 4, 2) := by decide +kernel
theorem dX5_suits_29 : decode cX5_suits 29 = .ok (.lconst 1, 1) := by decide +kernel
theorem dX5_suits_30 : decode cX5_suits 30 = .ok (.lxor, 1) := by decide +kernel
theorem dX5_suits_31 : decode cX5_suits 31 = .ok (.lstore 4, 2) := by decide +kernel
theorem dX5_suits_33 : decode cX5_suits 33 = .ok (.goto 81, 3) := by decide +kernel
theorem dX5_suits_36 : decode cX5_suits 36 = .ok (.aload_n 0, 1) := by decide +kernel
theorem dX5_suits_37 : decode cX5_suits 37 = .ok (.getfield 11, 3) := by decide +kernel
theorem dX5_suits_40 : decode cX5_suits 40 = .ok (.iload 6, 2) := by decide +kernel
theorem dX5_suits_42 : decode cX5_suits 42 = .ok (.iaload, 1) := by decide +kernel
theorem dX5_suits_43 : decode cX5_suits 43 = .ok (.bipush 8, 2) := by decide +kernel
theorem dX5_suits_45 : decode cX5_suits 45 = .ok (.if_icmp .ne 19, 3) := by decide +kernel
theorem dX5_suits_48 : decode cX5_suits 48 = .ok (.lload 4, 2) := by decide +kernel
theorem dX5_suits_50 : decode cX5_suits 50 = .ok (.iconst 1, 1) := by decide +kernel
theorem dX5_suits_51 : decode cX5_suits 51 = .ok (.lshr, 1) := by decide +kernel
theorem dX5_suits_52 : decode cX5_suits 52 = .ok (.lload 4, 2) := by decide +kernel
theorem dX5_suits_54 : decode cX5_suits 54 = .ok (.ldc2_w 136, 3) := by decide +kernel
theorem dX5_suits_57 : decode cX5_suits 57 = .ok (.lor, 1) := by decide +kernel
theorem dX5_suits_58 : decode cX5_suits 58 = .ok (.land, 1) := by decide +kernel
theorem dX5_suits_59 : decode cX5_suits 59 = .ok (.lstore 4, 2) := by decide +kernel
theorem dX5_suits_61 : decode cX5_suits 61 = .ok (.goto 53, 3) := by decide +kernel
theorem dX5_suits_64 : decode cX5_suits 64 = .ok (.aload_n 0, 1) := by decide +kernel
theorem dX5_suits_65 : decode cX5_suits 65 = .ok (.getfield 11, 3) := by decide +kernel
theorem dX5_suits_68 : decode cX5_suits 68 = .ok (.iload 6, 2) := by decide +kernel
theorem dX5_suits_70 : decode cX5_suits 70 = .ok (.iaload, 1) := by decide +kernel
theorem dX5_suits_71 : decode cX5_suits 71 = .ok (.bipush 9, 2) := by decide +kernel
theorem dX5_suits_73 : decode cX5_suits 73 = .ok (.if_icmp .ne 17, 3) := by decide +kernel
theorem dX5_suits_76 : decode cX5_suits 76 = .ok (.lload 4, 2) := by decide +kernel
theorem dX5_suits_78 : decode cX5_suits 78 = .ok (.iconst 1, 1) := by decide +kernel
theorem dX5_suits_79 : decode cX5_suits 79 = .ok (.lshr, 1) := by decide +kernel
theorem dX5_suits_80 : decode cX5_suits 80 = .ok (.lload 4, 2) := by decide +kernel
theorem dX5_suits_82 : decode cX5_suits 82 = .ok (.lconst 1, 1) := by decide +kernel
theorem dX5_suits_83 : decode cX5_suits 83 = .ok (.land, 1) := by decide +kernel
theorem dX5_suits_84 : decode cX5_suits 84 = .ok (.lor, 1) := by decide +kernel
theorem dX5_suits_85 : decode cX5_suits 85 = .ok (.lstore 4, 2) := by decide +kernel
theorem dX5_suits_87 : decode cX5_suits 87 = .ok (.goto 27, 3) := by decide +kernel
theorem dX5_suits_90 : decode cX5_suits 90 = .ok (.lload 4, 2) := by decide +kernel
theorem dX5_suits_92 : decode cX5_suits 92 = .ok (.iconst 1, 1) := by decide +kernel
theorem dX5_suits_93 : decode cX5_suits 93 = .ok (.lshl, 1) := by decide +kernel
theorem dX5_suits_94 : decode cX5_suits 94 = .ok (.aload_n 0, 1) := by decide +kernel
theorem dX5_suits_95 : decode cX5_suits 95 = .ok (.iload 6, 2) := by decide +kernel
theorem dX5_suits_97 : decode cX5_suits 97 = .ok (.iload_n 1, 1) := by decide +kernel
theorem dX5_suits_98 : decode cX5_suits 98 = .ok (.aload_n 2, 1) := by decide +kernel
theorem dX5_suits_99 : decode cX5_suits 99 = .ok (.aload_n 3, 1) := by decide +kernel
theorem dX5_suits_100 : decode cX5_suits 100 = .ok (.invokevirtual 138, 3) := by decide +kernel
theorem dX5_suits_103 : decode cX5_suits 103 = .ok (.ifCond .eq 7, 3) := by decide +kernel
theorem dX5_suits_106 : decode cX5_suits 106 = .ok (.lconst 1, 1) := by decide +kernel
theorem dX5_suits_107 : decode cX5_suits 107 = .ok (.goto 4, 3) := by decide +kernel
theorem dX5_suits_110 : decode cX5_suits 110 = .ok (.lconst 0, 1) := by decide +kernel
theorem dX5_suits_111 : decode cX5_suits 111 = .ok (.lor, 1) := by decide +kernel
theorem dX5_suits_112 : decode cX5_suits 112 = .ok (.lstore 4, 2) := by decide +kernel
theorem dX5_suits_114 : decode cX5_suits 114 = .ok (.iinc 6 1, 3) := by decide +kernel
theorem dX5_suits_117 : decode cX5_suits 117 = .ok (.goto (-111), 3) := by decide +kernel
theorem dX5_suits_120 : decode cX5_suits 120 = .ok (.lload 4, 2) := by decide +kernel
theorem dX5_suits_122 : decode cX5_suits 122 = .ok (.lconst 1, 1) := by decide +kernel
theorem dX5_suits_123 : decode cX5_suits 123 = .ok (.land, 1) := by decide +kernel
theorem dX5_suits_124 : decode cX5_suits 124 = .ok (.lconst 0, 1) := by decide +kernel
theorem dX5_suits_125 : decode cX5_suits 125 = .ok (.lcmp, 1) := by decide +kernel
theorem dX5_suits_126 : decode cX5_suits 126 = .ok (.ifCond .eq 7, 3) := by decide +kernel
theorem dX5_suits_129 : decode cX5_suits 129 = .ok (.iconst 1, 1) := by decide +kernel
theorem dX5_suits_130 : decode cX5_suits 130 = .ok (.goto 4, 3) := by decide +kernel
theorem dX5_suits_133 : decode cX5_suits 133 = .ok (.iconst 0, 1) := by decide +kernel
theorem dX5_suits_134 : decode cX5_suits 134 = .ok (.ireturn, 1) := by decide +kernel
theorem dX5_passes_0 : decode cX5_passes 0 = .ok (.aload_n 0, 1) := by decide +kernel
theorem dX5_passes_1 : decode cX5_passes 1 = .ok (.getfield 17, 3) := by decide +kernel
theorem dX5_passes_4 : decode cX5_passes 4 = .ok (.iload_n 1, 1) := by decide +kernel
theorem dX5_passes_5 : decode cX5_passes 5 = .ok (.iaload, 1) := by decide +kernel
theorem dX5_passes_6 : decode cX5_passes 6 = .ok (.istore 5, 2) := by decide +kernel
theorem dX5_passes_8 : decode cX5_passes 8 = .ok (.aload_n 0, 1) := by decide +kernel
theorem dX5_passes_9 : decode cX5_passes 9 = .ok (.getfield 11, 3) := by decide +kernel
theorem dX5_passes_12 : decode cX5_passes 12 = .ok (.iload_n 1, 1) := by decide +kernel
theorem dX5_passes_13 : decode cX5_passes 13 = .ok (.iaload, 1) := by decide +kernel
theorem dX5_passes_14 : decode cX5_passes 14 = .ok (.tableswitch 131 1 5 #[34, 49, 80, 95, 116], 34) := by decide +kernel
theorem dX5_passes_48 : decode cX5_passes 48 = .ok (.iload_n 2, 1) := by decide +kernel
theorem dX5_passes_49 : decode cX5_passes 49 = .ok (.invokestatic 142, 3) := by decide +kernel
theorem dX5_passes_52 : decode cX5_passes 52 = .ok (.iload 5, 2) := by decide +kernel
theorem dX5_passes_54 : decode cX5_passes 54 = .ok (.if_icmp .ne 7, 3) := by decide +kernel
theorem dX5_passes_57 : decode cX5_passes 57 = .ok (.iconst 1, 1) := by decide +kernel
theorem dX5_passes_58 : decode cX5_passes 58 = .ok (.goto 4, 3) := by decide +kernel
theorem dX5_passes_61 : decode cX5_passes 61 = .ok (.iconst 0, 1) := by decide +kernel
theorem dX5_passes_62 : decode cX5_passes 62 = .ok (.ireturn, 1) := by decide +kernel
theorem dX5_passes_63 : decode cX5_passes 63 = .ok (.aload_n 0, 1) := by decide +kernel
theorem dX5_passes_64 : decode cX5_passes 64 = .ok (.getfield 20, 3) := by decide +kernel
theorem dX5_passes_67 : decode cX5_passes 67 = .ok (.iload_n 1, 1) := by decide +kernel
theorem dX5_passes_68 : decode cX5_passes 68 = .ok (.iaload, 1) := by decide +kernel
theorem dX5_passes_69 : decode cX5_passes 69 = .ok (.ifCond .le 23, 3) := by decide +kernel
theorem dX5_passes_72 : decode cX5_passes 72 = .ok (.iload_n 2, 1) := by decide +kernel
theorem dX5_passes_73 : decode cX5_passes 73 = .ok (.invokestatic 148, 3) := by decide +kernel
theorem dX5_passes_76 : decode cX5_passes 76 = .ok (.aload_n 0, 1) := by decide +kernel
theorem dX5_passes_77 : decode cX5_passes 77 = .ok (.getfield 20, 3) := by decide +kernel
theorem dX5_passes_80 : decode cX5_passes 80 = .ok (.iload_n 1, 1) := by decide +kernel
theorem dX5_passes_81 : decode cX5_passes 81 = .ok (.iaload, 1) := by decide +kernel
theorem dX5_passes_82 : decode cX5_passes 82 = .ok (.irem, 1) := by decide +kernel
theorem dX5_passes_83 : decode cX5_passes 83 = .ok (.iload 5, 2) := by decide +kernel
theorem dX5_passes_85 : decode cX5_passes 85 = .ok (.if_icmp .ne 7, 3) := by decide +kernel
theorem dX5_passes_88 : decode cX5_passes 88 = .ok (.iconst 1, 1) := by decide +kernel
theorem dX5_passes_89 : decode cX5_passes 89 = .ok (.goto 4, 3) := by decide +kernel
theorem dX5_passes_92 : decode cX5_passes 92 = .ok (.iconst 0, 1) := by decide +kernel
theorem dX5_passes_93 : decode cX5_passes 93 = .ok (.ireturn, 1) := by decide +kernel
theorem dX5_passes_94 : decode cX5_passes 94 = .ok (.iload_n 2, 1) := by decide +kernel
theorem dX5_passes_95 : decode cX5_passes 95 = .ok (.iload 5, 2) := by decide +kernel
theorem dX5_passes_97 : decode cX5_passes 97 = .ok (.ishr, 1) := by decide +kernel
theorem dX5_passes_98 : decode cX5_passes 98 = .ok (.iconst 1, 1) := by decide +kernel
theorem dX5_passes_99 : decode cX5_passes 99 = .ok (.iand, 1) := by decide +kernel
theorem dX5_passes_100 : decode cX5_passes 100 = .ok (.ifCond .eq 7, 3) := by decide +kernel
theorem dX5_passes_103 : decode cX5_passes 103 = .ok (.iconst 1, 1) := by decide +kernel
theorem dX5_passes_104 : decode cX5_passes 104 = .ok (.goto 4, 3) := by decide +kernel
theorem dX5_passes_107 : decode cX5_passes 107 = .ok (.iconst 0, 1) := by decide +kernel
theorem dX5_passes_108 : decode cX5_passes 108 = .ok (.ireturn, 1) := by decide +kernel
theorem dX5_passes_109 : decode cX5_passes 109 = .ok (.iload_n 2, 1) := by decide +kernel
theorem dX5_passes_110 : decode cX5_passes 110 = .ok (.iload_n 2, 1) := by decide +kernel
theorem dX5_passes_111 : decode cX5_passes 111 = .ok (.iconst 1, 1) := by decide +kernel
theorem dX5_passes_112 : decode cX5_passes 112 = .ok (.ishl, 1) := by decide +kernel
theorem dX5_passes_113 : decode cX5_passes 113 = .ok (.iconst (-1), 1) := by decide +kernel
theorem dX5_passes_114 : decode cX5_passes 114 = .ok (.ixor, 1) := by decide +kernel
theorem dX5_passes_115 : decode cX5_passes 115 = .ok (.iand, 1) := by decide +kernel
theorem dX5_passes_116 : decode cX5_passes 116 = .ok (.invokestatic 142, 3) := by decide +kernel
theorem dX5_passes_119 : decode cX5_passes 119 = .ok (.iload 5, 2) := by decide +kernel
theorem dX5_passes_121 : decode cX5_passes 121 = .ok (.if_icmp .ne 7, 3) := by decide +kernel
theorem dX5_passes_124 : decode cX5_passes 124 = .ok (.iconst 1, 1) := by decide +kernel
theorem dX5_passes_125 : decode cX5_passes 125 = .ok (.goto 4, 3) := by decide +kernel
theorem dX5_passes_128 : decode cX5_passes 128 = .ok (.iconst 0, 1) := by decide +kernel
theorem dX5_passes_129 : decode cX5_passes 129 = .ok (.ireturn, 1) := by decide +kernel
theorem dX5_passes_130 : decode cX5_passes 130 = .ok (.aload_n 3, 1) := by decide +kernel
theorem dX5_passes_131 : decode cX5_passes 131 = .ok (.iload_n 2, 1) := by decide +kernel
theorem dX5_passes_132 : decode cX5_passes 132 = .ok (.invokevirtual 151, 3) := by decide +kernel
theorem dX5_passes_135 : decode cX5_passes 135 = .ok (.iload_n 2, 1) := by decide +kernel
theorem dX5_passes_136 : decode cX5_passes 136 = .ok (.if_icmp .ne 7, 3) := by decide +kernel
theorem dX5_passes_139 : decode cX5_passes 139 = .ok (.iconst 1, 1) := by decide +kernel
theorem dX5_passes_140 : decode cX5_passes 140 = .ok (.goto 4, 3) := by decide +kernel
theorem dX5_passes_143 : decode cX5_passes 143 = .ok (.iconst 0, 1) := by decide +kernel
theorem dX5_passes_144 : decode cX5_passes 144 = .ok (.ireturn, 1) := by decide +kernel
theorem dX5_passes_145 : decode cX5_passes 145 = .ok (.iload 5, 2) := by decide +kernel
theorem dX5_passes_147 : decode cX5_passes 147 = .ok (.ifCond .lt 27, 3) := by decide +kernel
theorem dX5_passes_150 : decode cX5_passes 150 = .ok (.iload 5, 2) := by decide +kernel
theorem dX5_passes_152 : decode cX5_passes 152 = .ok (.aload 4, 2) := by decide +kernel
theorem dX5_passes_154 : decode cX5_passes 154 = .ok (.arraylength, 1) := by decide +kernel
theorem dX5_passes_155 : decode cX5_passes 155 = .ok (.if_icmp .ge 19, 3) := by decide +kernel
theorem dX5_passes_158 : decode cX5_passes 158 = .ok (.aload 4, 2) := by decide +kernel
theorem dX5_passes_160 : decode cX5_passes 160 = .ok (.iload 5, 2) := by decide +kernel
theorem dX5_passes_162 : decode cX5_passes 162 = .ok (.aaload, 1) := by decide +kernel
theorem dX5_passes_163 : decode cX5_passes 163 = .ok (.iload_n 2, 1) := by decide +kernel
theorem dX5_passes_164 : decode cX5_passes 164 = .ok (.invokevirtual 156, 3) := by decide +kernel
theorem dX5_passes_167 : decode cX5_passes 167 = .ok (.ifCond .eq 7, 3) := by decide +kernel
theorem dX5_passes_170 : decode cX5_passes 170 = .ok (.iconst 1, 1) := by decide +kernel
theorem dX5_passes_171 : decode cX5_passes 171 = .ok (.goto 4, 3) := by decide +kernel
theorem dX5_passes_174 : decode cX5_passes 174 = .ok (.iconst 0, 1) := by decide +kernel
theorem dX5_passes_175 : decode cX5_passes 175 = .ok (.ireturn, 1) := by decide +kernel
theorem dX5_sumOf_0 : decode cX5_sumOf 0 = .ok (.iconst 0, 1) := by decide +kernel
theorem dX5_sumOf_1 : decode cX5_sumOf 1 = .ok (.istore_n 1, 1) := by decide +kernel
theorem dX5_sumOf_2 : decode cX5_sumOf 2 = .ok (.iconst 0, 1) := by decide +kernel
theorem dX5_sumOf_3 : decode cX5_sumOf 3 = .ok (.istore_n 2, 1) := by decide +kernel
theorem dX5_sumOf_4 : decode cX5_sumOf 4 = .ok (.iload_n 2, 1) := by decide +kernel
theorem dX5_sumOf_5 : decode cX5_sumOf 5 = .ok (.bipush 12, 2) := by decide +kernel
theorem dX5_sumOf_7 : decode cX5_sumOf 7 = .ok (.if_icmp .ge 21, 3) := by decide +kernel
theorem dX5_sumOf_10 : decode cX5_sumOf 10 = .ok (.iload_n 1, 1) := by decide +kernel
theorem dX5_sumOf_11 : decode cX5_sumOf 11 = .ok (.iload_n 0, 1) := by decide +kernel
theorem dX5_sumOf_12 : decode cX5_sumOf 12 = .ok (.iload_n 2, 1) := by decide +kernel
theorem dX5_sumOf_13 : decode cX5_sumOf 13 = .ok (.ishr, 1) := by decide +kernel
theorem dX5_sumOf_14 : decode cX5_sumOf 14 = .ok (.iconst 1, 1) := by decide +kernel
theorem dX5_sumOf_15 : decode cX5_sumOf 15 = .ok (.iand, 1) := by decide +kernel
theorem dX5_sumOf_16 : decode cX5_sumOf 16 = .ok (.iload_n 2, 1) := by decide +kernel
theorem dX5_sumOf_17 : decode cX5_sumOf 17 = .ok (.iconst 1, 1) := by decide +kernel
theorem dX5_sumOf_18 : decode cX5_sumOf 18 = .ok (.iadd, 1) := by decide +kernel
theorem dX5_sumOf_19 : decode cX5_sumOf 19 = .ok (.imul, 1) := by decide +kernel
theorem dX5_sumOf_20 : decode cX5_sumOf 20 = .ok (.iadd, 1) := by decide +kernel
theorem dX5_sumOf_21 : decode cX5_sumOf 21 = .ok (.istore_n 1, 1) := by decide +kernel
theorem dX5_sumOf_22 : decode cX5_sumOf 22 = .ok (.iinc 2 1, 3) := by decide +kernel
theorem dX5_sumOf_25 : decode cX5_sumOf 25 = .ok (.goto (-21), 3) := by decide +kernel
theorem dX5_sumOf_28 : decode cX5_sumOf 28 = .ok (.iload_n 1, 1) := by decide +kernel
theorem dX5_sumOf_29 : decode cX5_sumOf 29 = .ok (.ireturn, 1) := by decide +kernel
theorem dX6_init_0 : decode cX6_init 0 = .ok (.aload_n 0, 1) := by decide +kernel
theorem dX6_init_1 : decode cX6_init 1 = .ok (.invokespecial 3, 3) := by decide +kernel
theorem dX6_init_4 : decode cX6_init 4 = .ok (.aload_n 0, 1) := by decide +kernel
theorem dX6_init_5 : decode cX6_init 5 = .ok (.bipush 120, 2) := by decide +kernel
theorem dX6_init_7 : decode cX6_init 7 = .ok (.newarray .int, 2) := by decide +kernel
theorem dX6_init_9 : decode cX6_init 9 = .ok (.putfield 11, 3) := by decide +kernel
theorem dX6_init_12 : decode cX6_init 12 = .ok (.aload_n 0, 1) := by decide +kernel
theorem dX6_init_13 : decode cX6_init 13 = .ok (.iconst 0, 1) := by decide +kernel
theorem dX6_init_14 : decode cX6_init 14 = .ok (.putfield 15, 3) := by decide +kernel
theorem dX6_init_17 : decode cX6_init 17 = .ok (.aload_n 0, 1) := by decide +kernel
theorem dX6_init_18 : decode cX6_init 18 = .ok (.iconst 0, 1) := by decide +kernel
theorem dX6_init_19 : decode cX6_init 19 = .ok (.putfield 19, 3) := by decide +kernel
theorem dX6_init_22 : decode cX6_init 22 = .ok (.aload_n 0, 1) := by decide +kernel
theorem dX6_init_23 : decode cX6_init 23 = .ok (.iconst 0, 1) := by decide +kernel
theorem dX6_init_24 : decode cX6_init 24 = .ok (.putfield 22, 3) := by decide +kernel
theorem dX6_init_27 : decode cX6_init 27 = .ok (.aload_n 0, 1) := by decide +kernel
theorem dX6_init_28 : decode cX6_init 28 = .ok (.iconst 0, 1) := by decide +kernel
theorem dX6_init_29 : decode cX6_init 29 = .ok (.putfield 25, 3) := by decide +kernel
theorem dX6_init_32 : decode cX6_init 32 = .ok (.return_, 1) := by decide +kernel
theorem dX6_take_0 : decode cX6_take 0 = .ok (.iload_n 1, 1) := by decide +kernel
theorem dX6_take_1 : decode cX6_take 1 = .ok (.ifCond .lt 14, 3) := by decide +kernel
theorem dX6_take_4 : decode cX6_take 4 = .ok (.aload_n 0, 1) := by decide +kernel
theorem dX6_take_5 : decode cX6_take 5 = .ok (.getfield 15, 3) := by decide +kernel
theorem dX6_take_8 : decode cX6_take 8 = .ok (.iload_n 1, 1) := by decide +kernel
theorem dX6_take_9 : decode cX6_take 9 = .ok (.iadd, 1) := by decide +kernel
theorem dX6_take_10 : decode cX6_take 10 = .ok (.bipush 120, 2) := by decide +kernel
theorem dX6_take_12 : decode cX6_take 12 = .ok (.if_icmp .le 5, 3) := by decide +kernel
theorem dX6_take_15 : decode cX6_take 15 = .ok (.iconst 0, 1) := by decide +kernel
theorem dX6_take_16 : decode cX6_take 16 = .ok (.ireturn, 1) := by decide +kernel
theorem dX6_take_17 : decode cX6_take 17 = .ok (.iload_n 1, 1) := by decide +kernel
theorem dX6_take_18 : decode cX6_take 18 = .ok (.iconst 1, 1) := by decide +kernel
theorem dX6_take_19 : decode cX6_take 19 = .ok (.isub, 1) := by decide +kernel
theorem dX6_take_20 : decode cX6_take 20 = .ok (.istore 4, 2) := by decide +kernel
theorem dX6_take_22 : decode cX6_take 22 = .ok (.iload 4, 2) := by decide +kernel
theorem dX6_take_24 : decode cX6_take 24 = .ok (.ifCond .lt 40, 3) := by decide +kernel
theorem dX6_take_27 : decode cX6_take 27 = .ok (.aload_n 0, 1) := by decide +kernel
theorem dX6_take_28 : decode cX6_take 28 = .ok (.getfield 11, 3) := by decide +kernel
theorem dX6_take_31 : decode cX6_take 31 = .ok (.aload_n 0, 1) := by decide +kernel
theorem dX6_take_32 : decode cX6_take 32 = .ok (.getfield 15, 3) := by decide +kernel
theorem dX6_take_35 : decode cX6_take 35 = .ok (.lload_n 2, 1) := by decide +kernel
theorem dX6_take_36 : decode cX6_take 36 = .ok (.bipush 8, 2) := by decide +kernel
theorem dX6_take_38 : decode cX6_take 38 = .ok (.iload 4, 2) := by decide +kernel
theorem dX6_take_40 : decode cX6_take 40 = .ok (.imul, 1) := by decide +kernel
theorem dX6_take_41 : decode cX6_take 41 = .ok (.lushr, 1) := by decide +kernel
theorem dX6_take_42 : decode cX6_take 42 = .ok (.l2i, 1) := by decide +kernel
theorem dX6_take_43 : decode cX6_take 43 = .ok (.sipush 255, 3) := by decide +kernel
theorem dX6_take_46 : decode cX6_take 46 = .ok (.iand, 1) := by decide +kernel
theorem dX6_take_47 : decode cX6_take 47 = .ok (.iastore, 1) := by decide +kernel
theorem dX6_take_48 : decode cX6_take 48 = .ok (.aload_n 0, 1) := by decide +kernel
theorem dX6_take_49 : decode cX6_take 49 = .ok (.dup, 1) := by decide +kernel
theorem dX6_take_50 : decode cX6_take 50 = .ok (.getfield 15, 3) := by decide +kernel
theorem dX6_take_53 : decode cX6_take 53 = .ok (.iconst 1, 1) := by decide +kernel
theorem dX6_take_54 : decode cX6_take 54 = .ok (.iadd, 1) := by decide +kernel
theorem dX6_take_55 : decode cX6_take 55 = .ok (.putfield 15, 3) := by decide +kernel
theorem dX6_take_58 : decode cX6_take 58 = .ok (.iinc 4 (-1), 3) := by decide +kernel
theorem dX6_take_61 : decode cX6_take 61 = .ok (.goto (-39), 3) := by decide +kernel
theorem dX6_take_64 : decode cX6_take 64 = .ok (.iconst 1, 1) := by decide +kernel
theorem dX6_take_65 : decode cX6_take 65 = .ok (.ireturn, 1) := by decide +kernel
theorem dX6_rewind_0 : decode cX6_rewind 0 = .ok (.aload_n 0, 1) := by decide +kernel
theorem dX6_rewind_1 : decode cX6_rewind 1 = .ok (.iconst 0, 1) := by decide +kernel
theorem dX6_rewind_2 : decode cX6_rewind 2 = .ok (.putfield 25, 3) := by decide +kernel
theorem dX6_rewind_5 : decode cX6_rewind 5 = .ok (.aload_n 0, 1) := by decide +kernel
theorem dX6_rewind_6 : decode cX6_rewind 6 = .ok (.invokevirtual 28, 3) := by decide +kernel
theorem dX6_rewind_9 : decode cX6_rewind 9 = .ok (.return_, 1) := by decide +kernel
theorem dX6_advance_0 : decode cX6_advance 0 = .ok (.aload_n 0, 1) := by decide +kernel
theorem dX6_advance_1 : decode cX6_advance 1 = .ok (.getfield 25, 3) := by decide +kernel
theorem dX6_advance_4 : decode cX6_advance 4 = .ok (.aload_n 0, 1) := by decide +kernel
theorem dX6_advance_5 : decode cX6_advance 5 = .ok (.getfield 15, 3) := by decide +kernel
theorem dX6_advance_8 : decode cX6_advance 8 = .ok (.if_icmp .ge 30, 3) := by decide +kernel
theorem dX6_advance_11 : decode cX6_advance 11 = .ok (.aload_n 0, 1) := by decide +kernel
theorem dX6_advance_12 : decode cX6_advance 12 = .ok (.getfield 11, 3) := by decide +kernel
theorem dX6_advance_15 : decode cX6_advance 15 = .ok (.aload_n 0, 1) := by decide +kernel
theorem dX6_advance_16 : decode cX6_advance 16 = .ok (.getfield 25, 3) := by decide +kernel
theorem dX6_advance_19 : decode cX6_advance 19 = .ok (.iaload, 1) := by decide +kernel
theorem dX6_advance_20 : decode cX6_advance 20 = .ok (.bipush 32, 2) := by decide +kernel
theorem dX6_advance_22 : decode cX6_advance 22 = .ok (.if_icmp .ne 16, 3) := by decide +kernel
theorem dX6_advance_25 : decode cX6_advance 25 = .ok (.aload_n 0, 1) := by decide +kernel
theorem dX6_advance_26 : decode cX6_advance 26 = .ok (.dup, 1) := by decide +kernel
theorem dX6_advance_27 : decode cX6_advance 27 = .ok (.getfield 25, 3) := by decide +kernel
theorem dX6_advance_30 : decode cX6_advance 30 = .ok (.iconst 1, 1) := by decide +kernel
theorem dX6_advance_31 : decode cX6_advance 31 = .ok (.iadd, 1) := by decide +kernel
theorem dX6_advance_32 : decode cX6_advance 32 = .ok (.putfield 25, 3) := by decide +kernel
theorem dX6_advance_35 : decode cX6_advance 35 = .ok (.goto (-35), 3) := by decide +kernel
theorem dX6_advance_38 : decode cX6_advance 38 = .ok (.aload_n 0, 1) := by decide +kernel
theorem dX6_advance_39 : decode cX6_advance 39 = .ok (.aload_n 0, 1) := by decide +kernel
theorem dX6_advance_40 : decode cX6_advance 40 = .ok (.getfield 25, 3) := by decide +kernel
theorem dX6_advance_43 : decode cX6_advance 43 = .ok (.putfield 22, 3) := by decide +kernel
theorem dX6_advance_46 : decode cX6_advance 46 = .ok (.aload_n 0, 1) := by decide +kernel
theorem dX6_advance_47 : decode cX6_advance 47 = .ok (.getfield 25, 3) := by decide +kernel
theorem dX6_advance_50 : decode cX6_advance 50 = .ok (.aload_n 0, 1) := by decide +kernel
theorem dX6_advance_51 : decode cX6_advance 51 = .ok (.getfield 15, 3) := by decide +kernel
theorem dX6_advance_54 : decode cX6_advance 54 = .ok (.if_icmp .lt 9, 3) := by decide +kernel
theorem dX6_advance_57 : decode cX6_advance 57 = .ok (.aload_n 0, 1) := by decide +kernel
theorem dX6_advance_58 : decode cX6_advance 58 = .ok (.iconst 0, 1) := by decide +kernel
theorem dX6_advance_59 : decode cX6_advance 59 = .ok (.putfield 19, 3) := by decide +kernel
theorem dX6_advance_62 : decode cX6_advance 62 = .ok (.return_, 1) := by decide +kernel
theorem dX6_advance_63 : decode cX6_advance 63 = .ok (.aload_n 0, 1) := by decide +kernel
theorem dX6_advance_64 : decode cX6_advance 64 = .ok (.aload_n 0, 1) := by decide +kernel
theorem dX6_advance_65 : decode cX6_advance 65 = .ok (.getfield 11, 3) := by decide +kernel
theorem dX6_advance_68 : decode cX6_advance 68 = .ok (.aload_n 0, 1) := by decide +kernel
theorem dX6_advance_69 : decode cX6_advance 69 = .ok (.getfield 25, 3) := by decide +kernel
theorem dX6_advance_72 : decode cX6_advance 72 = .ok (.iaload, 1) := by decide +kernel
theorem dX6_advance_73 : decode cX6_advance 73 = .ok (.invokestatic 31, 3) := by decide +kernel
theorem dX6_advance_76 : decode cX6_advance 76 = .ok (.putfield 19, 3) := by decide +kernel
theorem dX6_advance_79 : decode cX6_advance 79 = .ok (.aload_n 0, 1) := by decide +kernel
theorem dX6_advance_80 : decode cX6_advance 80 = .ok (.dup, 1) := by decide +kernel
theorem dX6_advance_81 : decode cX6_advance 81 = .ok (.getfield 25, 3) := by decide +kernel
theorem dX6_advance_84 : decode cX6_advance 84 = .ok (.iconst 1, 1) := by decide +kernel
theorem dX6_advance_85 : decode cX6_advance 85 = .ok (.iadd, 1) := by decide +kernel
theorem dX6_advance_86 : decode cX6_advance 86 = .ok (.putfield 25, 3) := by decide +kernel
theorem dX6_advance_89 : decode cX6_advance 89 = .ok (.aload_n 0, 1) := by decide +kernel
theorem dX6_advance_90 : decode cX6_advance 90 = .ok (.getfield 19, 3) := by decide +kernel
theorem dX6_advance_93 : decode cX6_advance 93 = .ok (.iconst 3, 1) := by decide +kernel
theorem dX6_advance_94 : decode cX6_advance 94 = .ok (.if_icmp .eq 46, 3) := by decide +kernel
theorem dX6_advance_97 : decode cX6_advance 97 = .ok (.aload_n 0, 1) := by decide +kernel
theorem dX6_advance_98 : decode cX6_advance 98 = .ok (.getfield 25, 3) := by decide +kernel
theorem dX6_advance_101 : decode cX6_advance 101 = .ok (.aload_n 0, 1) := by decide +kernel
theorem dX6_advance_102 : decode cX6_advance 102 = .ok (.getfield 15, 3) := by decide +kernel
theorem dX6_advance_105 : decode cX6_advance 105 = .ok (.if_icmp .ge 35, 3) := by decide +kernel
theorem dX6_advance_108 : decode cX6_advance 108 = .ok (.aload_n 0, 1) := by decide +kernel
theorem dX6_advance_109 : decode cX6_advance 109 = .ok (.getfield 11, 3) := by decide +kernel
theorem dX6_advance_112 : decode cX6_advance 112 = .ok (.aload_n 0, 1) := by decide +kernel
theorem dX6_advance_113 : decode cX6_advance 113 = .ok (.getfield 25, 3) := by decide +kernel
theorem dX6_advance_116 : decode cX6_advance 116 = .ok (.iaload, 1) := by decide +kernel
theorem dX6_advance_117 : decode cX6_advance 117 = .ok (.invokestatic 31, 3) := by decide +kernel
theorem dX6_advance_120 : decode cX6_advance 120 = .ok (.aload_n 0, 1) := by decide +kernel
theorem dX6_advance_121 : decode cX6_advance 121 = .ok (.getfield 19, 3) := by decide +kernel
theorem dX6_advance_124 : decode cX6_advance 124 = .ok (.if_icmp .ne 16, 3) := by decide +kernel
theorem dX6_advance_127 : decode cX6_advance 127 = .ok (.aload_n 0, 1) := by decide +kernel
theorem dX6_advance_128 : decode cX6_advance 128 = .ok (.dup, 1) := by decide +kernel
theorem dX6_advance_129 : decode cX6_advance 129 = .ok (.getfield 25, 3) := by decide +kernel
theorem dX6_advance_132 : decode cX6_advance 132 = .ok (.iconst 1, 1) := by decide +kernel
theorem dX6_advance_133 : decode cX6_advance 133 = .ok (.iadd, 1) := by decide +kernel
theorem dX6_advance_134 : decode cX6_advance 134 = .ok (.putfield 25, 3) := by decide +kernel
theorem dX6_advance_137 : decode cX6_advance 137 = .ok (.goto (-48), 3) := by decide +kernel
theorem dX6_advance_140 : decode cX6_advance 140 = .ok (.return_, 1) := by decide +kernel
theorem dX6_kindOf_0 : decode cX6_kindOf 0 = .ok (.iload_n 0, 1) := by decide +kernel
theorem dX6_kindOf_1 : decode cX6_kindOf 1 = .ok (.bipush 97, 2) := by decide +kernel
theorem dX6_kindOf_3 : decode cX6_kindOf 3 = .ok (.if_icmp .lt 11, 3) := by decide +kernel
theorem dX6_kindOf_6 : decode cX6_kindOf 6 = .ok (.iload_n 0, 1) := by decide +kernel
theorem dX6_kindOf_7 : decode cX6_kindOf 7 = .ok (.bipush 122, 2) := by decide +kernel
theorem dX6_kindOf_9 : decode cX6_kindOf 9 = .ok (.if_icmp .gt 5, 3) := by decide +kernel
theorem dX6_kindOf_12 : decode cX6_kindOf 12 = .ok (.iconst 1, 1) := by decide +kernel
theorem dX6_kindOf_13 : decode cX6_kindOf 13 = .ok (.ireturn, 1) := by decide +kernel
theorem dX6_kindOf_14 : decode cX6_kindOf 14 = .ok (.iload_n 0, 1) := by decide +kernel
theorem dX6_kindOf_15 : decode cX6_kindOf 15 = .ok (.bipush 48, 2) := by decide +kernel
theorem dX6_kindOf_17 : decode cX6_kindOf 17 = .ok (.if_icmp .lt 13, 3) := by decide +kernel
theorem dX6_kindOf_20 : decode cX6_kindOf 20 = .ok (.iload_n 0, 1) := by decide +kernel
theorem dX6_kindOf_21 : decode cX6_kindOf 21 = .ok (.bipush 57, 2) := by decide +kernel
theorem dX6_kindOf_23 : decode cX6_kindOf 23 = .ok (.if_icmp .gt 7, 3) := by decide +kernel
theorem dX6_kindOf_26 : decode cX6_kindOf 26 = .ok (.iconst 2, 1) := by decide +kernel
theorem dX6_kindOf_27 : decode cX6_kindOf 27 = .ok (.goto 4, 3) := by decide +kernel
theorem dX6_kindOf_30 : decode cX6_kindOf 30 = .ok (.iconst 3, 1) := by decide +kernel
theorem dX6_kindOf_31 : decode cX6_kindOf 31 = .ok (.ireturn, 1) := by decide +kernel
theorem dX6_isSign_0 : decode cX6_isSign 0 = .ok (.aload_n 0, 1) := by decide +kernel
theorem dX6_isSign_1 : decode cX6_isSign 1 = .ok (.getfield 19, 3) := by decide +kernel
theorem dX6_isSign_4 : decode cX6_isSign 4 = .ok (.iconst 3, 1) := by decide +kernel
theorem dX6_isSign_5 : decode cX6_isSign 5 = .ok (.if_icmp .ne 31, 3) := by decide +kernel
theorem dX6_isSign_8 : decode cX6_isSign 8 = .ok (.aload_n 0, 1) := by decide +kernel
theorem dX6_isSign_9 : decode cX6_isSign 9 = .ok (.getfield 22, 3) := by decide +kernel
theorem dX6_isSign_12 : decode cX6_isSign 12 = .ok (.aload_n 0, 1) := by decide +kernel
theorem dX6_isSign_13 : decode cX6_isSign 13 = .ok (.getfield 15, 3) := by decide +kernel
theorem dX6_isSign_16 : decode cX6_isSign 16 = .ok (.if_icmp .ge 20, 3) := by decide +kernel
theorem dX6_isSign_19 : decode cX6_isSign 19 = .ok (.aload_n 0, 1) := by decide +kernel
theorem dX6_isSign_20 : decode cX6_isSign 20 = .ok (.getfield 11, 3) := by decide +kernel
theorem dX6_isSign_23 : decode cX6_isSign 23 = .ok (.aload_n 0, 1) := by decide +kernel
theorem dX6_isSign_24 : decode cX6_isSign 24 = .ok (.getfield 22, 3) := by decide +kernel
theorem dX6_isSign_27 : decode cX6_isSign 27 = .ok (.iaload, 1) := by decide +kernel
theorem dX6_isSign_28 : decode cX6_isSign 28 = .ok (.iload_n 1, 1) := by decide +kernel
theorem dX6_isSign_29 : decode cX6_isSign 29 = .ok (.if_icmp .ne 7, 3) := by decide +kernel
theorem dX6_isSign_32 : decode cX6_isSign 32 = .ok (.iconst 1, 1) := by decide +kernel
theorem dX6_isSign_33 : decode cX6_isSign 33 = .ok (.goto 4, 3) := by decide +kernel
theorem dX6_isSign_36 : decode cX6_isSign 36 = .ok (.iconst 0, 1) := by decide +kernel
theorem dX6_isSign_37 : decode cX6_isSign 37 = .ok (.ireturn, 1) := by decide +kernel
theorem dX6_isWord_0 : decode cX6_isWord 0 = .ok (.aload_n 0, 1) := by decide +kernel
theorem dX6_isWord_1 : decode cX6_isWord 1 = .ok (.getfield 19, 3) := by decide +kernel
theorem dX6_isWord_4 : decode cX6_isWord 4 = .ok (.iconst 1, 1) := by decide +kernel
theorem dX6_isWord_5 : decode cX6_isWord 5 = .ok (.if_icmp .ne 19, 3) := by decide +kernel
theorem dX6_isWord_8 : decode cX6_isWord 8 = .ok (.aload_n 0, 1) := by decide +kernel
theorem dX6_isWord_9 : decode cX6_isWord 9 = .ok (.getfield 25, 3) := by decide +kernel
theorem dX6_isWord_12 : decode cX6_isWord 12 = .ok (.aload_n 0, 1) := by decide +kernel
theorem dX6_isWord_13 : decode cX6_isWord 13 = .ok (.getfield 22, 3) := by decide +kernel
theorem dX6_isWord_16 : decode cX6_isWord 16 = .ok (.isub, 1) := by decide +kernel
theorem dX6_isWord_17 : decode cX6_isWord 17 = .ok (.aload_n 1, 1) := by decide +kernel
theorem dX6_isWord_18 : decode cX6_isWord 18 = .ok (.invokevirtual 35, 3) := by decide +kernel
theorem dX6_isWord_21 : decode cX6_isWord 21 = .ok (.if_icmp .eq 5, 3) := by decide +kernel
theorem dX6_isWord_24 : decode cX6_isWord 24 = .ok (.iconst 0, 1) := by decide +kernel
theorem dX6_isWord_25 : decode cX6_isWord 25 = .ok (.ireturn, 1) := by decide +kernel
theorem dX6_isWord_26 : decode cX6_isWord 26 = .ok (.iconst 0, 1) := by decide +kernel
theorem dX6_isWord_27 : decode cX6_isWord 27 = .ok (.istore_n 2, 1) := by decide +kernel
theorem dX6_isWord_28 : decode cX6_isWord 28 = .ok (.iload_n 2, 1) := by decide +kernel
theorem dX6_isWord_29 : decode cX6_isWord 29 = .ok (.aload_n 1, 1) := by decide +kernel
theorem dX6_isWord_30 : decode cX6_isWord 30 = .ok (.invokevirtual 35, 3) := by decide +kernel
theorem dX6_isWord_33 : decode cX6_isWord 33 = .ok (.if_icmp .ge 30, 3) := by decide +kernel
theorem dX6_isWord_36 : decode cX6_isWord 36 = .ok (.aload_n 0, 1) := by decide +kernel
theorem dX6_isWord_37 : decode cX6_isWord 37 = .ok (.getfield 11, 3) := by decide +kernel
theorem dX6_isWord_40 : decode cX6_isWord 40 = .ok (.aload_n 0, 1) := by decide +kernel
theorem dX6_isWord_41 : decode cX6_isWord 41 = .ok (.getfield 22, 3) := by decide +kernel
theorem dX6_isWord_44 : decode cX6_isWord 44 = .ok (.iload_n 2, 1) := by decide +kernel
theorem dX6_isWord_45 : decode cX6_isWord 45 = .ok (.iadd, 1) := by decide +kernel
theorem dX6_isWord_46 : decode cX6_isWord 46 = .ok (.iaload, 1) := by decide +kernel
theorem dX6_isWord_47 : decode cX6_isWord 47 = .ok (.aload_n 1, 1) := by decide +kernel
theorem dX6_isWord_48 : decode cX6_isWord 48 = .ok (.iload_n 2, 1) := by decide +kernel
theorem dX6_isWord_49 : decode cX6_isWord 49 = .ok (.invokevirtual 40, 3) := by decide +kernel
theorem dX6_isWord_52 : decode cX6_isWord 52 = .ok (.if_icmp .eq 5, 3) := by decide +kernel
theorem dX6_isWord_55 : decode cX6_isWord 55 = .ok (.iconst 0, 1) := by decide +kernel
theorem dX6_isWord_56 : decode cX6_isWord 56 = .ok (.ireturn, 1) := by decide +kernel
theorem dX6_isWord_57 : decode cX6_isWord 57 = .ok (.iinc 2 1, 3) := by decide +kernel
theorem dX6_isWord_60 : decode cX6_isWord 60 = .ok (.goto (-32), 3) := by decide +kernel
theorem dX6_isWord_63 : decode cX6_isWord 63 = .ok (.iconst 1, 1) := by decide +kernel
theorem dX6_isWord_64 : decode cX6_isWord 64 = .ok (.ireturn, 1) := by decide +kernel
theorem dX6_number_0 : decode cX6_number 0 = .ok (.aload_n 0, 1) := by decide +kernel
theorem dX6_number_1 : decode cX6_number 1 = .ok (.getfield 19, 3) := by decide +kernel
theorem dX6_number_4 : decode cX6_number 4 = .ok (.iconst 2, 1) := by decide +kernel
theorem dX6_number_5 : decode cX6_number 5 = .ok (.if_icmp .ne 16, 3) := by decide +kernel
theorem dX6_number_8 : decode cX6_number 8 = .ok (.aload_n 0, 1) := by decide +kernel
theorem dX6_number_9 : decode cX6_number 9 = .ok (.getfield 25, 3) := by decide +kernel
theorem dX6_number_12 : decode cX6_number 12 = .ok (.aload_n 0, 1) := by decide +kernel
theorem dX6_number_13 : decode cX6_number 13 = .ok (.getfield 22, 3) := by decide +kernel
theorem dX6_number_16 : decode cX6_number 16 = .ok (.isub, 1) := by decide +kernel
theorem dX6_number_17 : decode cX6_number 17 = .ok (.iconst 2, 1) := by decide +kernel
theorem dX6_number_18 : decode cX6_number 18 = .ok (.if_icmp .le 5, 3) := by decide +kernel
theorem dX6_number_21 : decode cX6_number 21 = .ok (.iconst (-1), 1) := by decide +kernel
theorem dX6_number_22 : decode cX6_number 22 = .ok (.ireturn, 1) := by decide +kernel
theorem dX6_number_23 : decode cX6_number 23 = .ok (.iconst 0, 1) := by decide +kernel
theorem dX6_number_24 : decode cX6_number 24 = .ok (.istore_n 1, 1) := by decide +kernel
theorem dX6_number_25 : decode cX6_number 25 = .ok (.aload_n 0, 1) := by decide +kernel
theorem dX6_number_26 : decode cX6_number 26 = .ok (.getfield 22, 3) := by decide +kernel
theorem dX6_number_29 : decode cX6_number 29 = .ok (.istore_n 2, 1) := by decide +kernel
theorem dX6_number_30 : decode cX6_number 30 = .ok (.iload_n 2, 1) := by decide +kernel
theorem dX6_number_31 : decode cX6_number 31 = .ok (.aload_n 0, 1) := by decide +kernel
theorem dX6_number_32 : decode cX6_number 32 = .ok (.getfield 25, 3) := by decide +kernel
theorem dX6_number_35 : decode cX6_number 35 = .ok (.if_icmp .ge 24, 3) := by decide +kernel
theorem dX6_number_38 : decode cX6_number 38 = .ok (.bipush 10, 2) := by decide +kernel
theorem dX6_number_40 : decode cX6_number 40 = .ok (.iload_n 1, 1) := by decide +kernel
theorem dX6_number_41 : decode cX6_number 41 = .ok (.imul, 1) := by decide +kernel
theorem dX6_number_42 : decode cX6_number 42 = .ok (.aload_n 0, 1) := by decide +kernel
theorem dX6_number_43 : decode cX6_number 43 = .ok (.getfield 11, 3) := by decide +kernel
theorem dX6_number_46 : decode cX6_number 46 = .ok (.iload_n 2, 1) := by decide +kernel
theorem dX6_number_47 : decode cX6_number 47 = .ok (.iaload, 1) := by decide +kernel
theorem dX6_number_48 : decode cX6_number 48 = .ok (.iadd, 1) := by decide +kernel
theorem dX6_number_49 : decode cX6_number 49 = .ok (.bipush 48, 2) := by decide +kernel
theorem dX6_number_51 : decode cX6_number 51 = .ok (.isub, 1) := by decide +kernel
theorem dX6_number_52 : decode cX6_number 52 = .ok (.istore_n 1, 1) := by decide +kernel
theorem dX6_number_53 : decode cX6_number 53 = .ok (.iinc 2 1, 3) := by decide +kernel
theorem dX6_number_56 : decode cX6_number 56 = .ok (.goto (-26), 3) := by decide +kernel
theorem dX6_number_59 : decode cX6_number 59 = .ok (.iload_n 1, 1) := by decide +kernel
theorem dX6_number_60 : decode cX6_number 60 = .ok (.ireturn, 1) := by decide +kernel
theorem dJ6_bitCount_0f7a4_0 : decode cJ6_bitCount_0f7a4 0 = .ok (.iload_n 0, 1) := by decide +kernel
theorem dJ6_bitCount_0f7a4_1 : decode cJ6_bitCount_0f7a4 1 = .ok (.iload_n 0, 1) := by decide +kernel
theorem dJ6_bitCount_0f7a4_2 : decode cJ6_bitCount_0f7a4 2 = .ok (.iconst 1, 1) := by decide +kernel
theorem dJ6_bitCount_0f7a4_3 : decode cJ6_bitCount_0f7a4 3 = .ok (.iushr, 1) := by decide +kernel
theorem dJ6_bitCount_0f7a4_4 : decode cJ6_bitCount_0f7a4 4 = .ok (.ldc_w 265, 3) := by decide +kernel
theorem dJ6_bitCount_0f7a4_7 : decode cJ6_bitCount_0f7a4 7 = .ok (.iand, 1) := by decide +kernel
theorem dJ6_bitCount_0f7a4_8 : decode cJ6_bitCount_0f7a4 8 = .ok (.isub, 1) := by decide +kernel
theorem dJ6_bitCount_0f7a4_9 : decode cJ6_bitCount_0f7a4 9 = .ok (.istore_n 0, 1) := by decide +kernel
theorem dJ6_bitCount_0f7a4_10 : decode cJ6_bitCount_0f7a4 10 = .ok (.iload_n 0, 1) := by decide +kernel
theorem dJ6_bitCount_0f7a4_11 : decode cJ6_bitCount_0f7a4 11 = .ok (.ldc_w 266, 3) := by decide +kernel
theorem dJ6_bitCount_0f7a4_14 : decode cJ6_bitCount_0f7a4 14 = .ok (.iand, 1) := by decide +kernel
theorem dJ6_bitCount_0f7a4_15 : decode cJ6_bitCount_0f7a4 15 = .ok (.iload_n 0, 1) := by decide +kernel
theorem dJ6_bitCount_0f7a4_16 : decode cJ6_bitCount_0f7a4 16 = .ok (.iconst 2, 1) := by decide +kernel
theorem dJ6_bitCount_0f7a4_17 : decode cJ6_bitCount_0f7a4 17 = .ok (.iushr, 1) := by decide +kernel
theorem dJ6_bitCount_0f7a4_18 : decode cJ6_bitCount_0f7a4 18 = .ok (.ldc_w 266, 3) := by decide +kernel
theorem dJ6_bitCount_0f7a4_21 : decode cJ6_bitCount_0f7a4 21 = .ok (.iand, 1) := by decide +kernel
theorem dJ6_bitCount_0f7a4_22 : decode cJ6_bitCount_0f7a4 22 = .ok (.iadd, 1) := by decide +kernel
theorem dJ6_bitCount_0f7a4_23 : decode cJ6_bitCount_0f7a4 23 = .ok (.istore_n 0, 1) := by decide +kernel
theorem dJ6_bitCount_0f7a4_24 : decode cJ6_bitCount_0f7a4 24 = .ok (.iload_n 0, 1) := by decide +kernel
theorem dJ6_bitCount_0f7a4_25 : decode cJ6_bitCount_0f7a4 25 = .ok (.iload_n 0, 1) := by decide +kernel
theorem dJ6_bitCount_0f7a4_26 : decode cJ6_bitCount_0f7a4 26 = .ok (.iconst 4, 1) := by decide +kernel
theorem dJ6_bitCount_0f7a4_27 : decode cJ6_bitCount_0f7a4 27 = .ok (.iushr, 1) := by decide +kernel
theorem dJ6_bitCount_0f7a4_28 : decode cJ6_bitCount_0f7a4 28 = .ok (.iadd, 1) := by decide +kernel
theorem dJ6_bitCount_0f7a4_29 : decode cJ6_bitCount_0f7a4 29 = .ok (.ldc_w 267, 3) := by decide +kernel
theorem dJ6_bitCount_0f7a4_32 : decode cJ6_bitCount_0f7a4 32 = .ok (.iand, 1) := by decide +kernel
theorem dJ6_bitCount_0f7a4_33 : decode cJ6_bitCount_0f7a4 33 = .ok (.istore_n 0, 1) := by decide +kernel
theorem dJ6_bitCount_0f7a4_34 : decode cJ6_bitCount_0f7a4 34 = .ok (.iload_n 0, 1) := by decide +kernel
theorem dJ6_bitCount_0f7a4_35 : decode cJ6_bitCount_0f7a4 35 = .ok (.iload_n 0, 1) := by decide +kernel
theorem dJ6_bitCount_0f7a4_36 : decode cJ6_bitCount_0f7a4 36 = .ok (.bipush 8, 2) := by decide +kernel
theorem dJ6_bitCount_0f7a4_38 : decode cJ6_bitCount_0f7a4 38 = .ok (.iushr, 1) := by decide +kernel
theorem dJ6_bitCount_0f7a4_39 : decode cJ6_bitCount_0f7a4 39 = .ok (.iadd, 1) := by decide +kernel
theorem dJ6_bitCount_0f7a4_40 : decode cJ6_bitCount_0f7a4 40 = .ok (.istore_n 0, 1) := by decide +kernel
theorem dJ6_bitCount_0f7a4_41 : decode cJ6_bitCount_0f7a4 41 = .ok (.iload_n 0, 1) := by decide +kernel
theorem dJ6_bitCount_0f7a4_42 : decode cJ6_bitCount_0f7a4 42 = .ok (.iload_n 0, 1) := by decide +kernel
theorem dJ6_bitCount_0f7a4_43 : decode cJ6_bitCount_0f7a4 43 = .ok (.bipush 16, 2) := by decide +kernel
theorem dJ6_bitCount_0f7a4_45 : decode cJ6_bitCount_0f7a4 45 = .ok (.iushr, 1) := by decide +kernel
theorem dJ6_bitCount_0f7a4_46 : decode cJ6_bitCount_0f7a4 46 = .ok (.iadd, 1) := by decide +kernel
theorem dJ6_bitCount_0f7a4_47 : decode cJ6_bitCount_0f7a4 47 = .ok (.istore_n 0, 1) := by decide +kernel
theorem dJ6_bitCount_0f7a4_48 : decode cJ6_bitCount_0f7a4 48 = .ok (.iload_n 0, 1) := by decide +kernel
theorem dJ6_bitCount_0f7a4_49 : decode cJ6_bitCount_0f7a4 49 = .ok (.bipush 63, 2) := by decide +kernel
theorem dJ6_bitCount_0f7a4_51 : decode cJ6_bitCount_0f7a4 51 = .ok (.iand, 1) := by decide +kernel
theorem dJ6_bitCount_0f7a4_52 : decode cJ6_bitCount_0f7a4 52 = .ok (.ireturn, 1) := by decide +kernel
theorem dJ13_bitCount_95d88_0 : decode cJ13_bitCount_95d88 0 = .ok (.lload_n 0, 1) := by decide +kernel
theorem dJ13_bitCount_95d88_1 : decode cJ13_bitCount_95d88 1 = .ok (.lload_n 0, 1) := by decide +kernel
theorem dJ13_bitCount_95d88_2 : decode cJ13_bitCount_95d88 2 = .ok (.iconst 1, 1) := by decide +kernel
theorem dJ13_bitCount_95d88_3 : decode cJ13_bitCount_95d88 3 = .ok (.lushr, 1) := by decide +kernel
theorem dJ13_bitCount_95d88_4 : decode cJ13_bitCount_95d88 4 = .ok (.ldc2_w 314, 3) := by decide +kernel
theorem dJ13_bitCount_95d88_7 : decode cJ13_bitCount_95d88 7 = .ok (.land, 1) := by decide +kernel
theorem dJ13_bitCount_95d88_8 : decode cJ13_bitCount_95d88 8 = .ok (.lsub, 1) := by decide +kernel
theorem dJ13_bitCount_95d88_9 : decode cJ13_bitCount_95d88 9 = .ok (.lstore_n 0, 1) := by decide +kernel
theorem dJ13_bitCount_95d88_10 : decode cJ13_bitCount_95d88 10 = .ok (.lload_n 0, 1) := by decide +kernel
theorem dJ13_bitCount_95d88_11 : decode cJ13_bitCount_95d88 11 = .ok (.ldc2_w 316, 3) := by decide +kernel
theorem dJ13_bitCount_95d88_14 : decode cJ13_bitCount_95d88 14 = .ok (.land, 1) := by decide +kernel
theorem dJ13_bitCount_95d88_15 : decode cJ13_bitCount_95d88 15 = .ok (.lload_n 0, 1) := by decide +kernel
theorem dJ13_bitCount_95d88_16 : decode cJ13_bitCount_95d88 16 = .ok (.iconst 2, 1) := by decide +kernel
theorem dJ13_bitCount_95d88_17 : decode cJ13_bitCount_95d88 17 = .ok (.lushr, 1) := by decide +kernel
theorem dJ13_bitCount_95d88_18 : decode cJ13_bitCount_95d88 18 = .ok (.ldc2_w 316, 3) := by decide +kernel
theorem dJ13_bitCount_95d88_21 : decode cJ13_bitCount_95d88 21 = .ok (.land, 1) := by decide +kernel
theorem dJ13_bitCount_95d88_22 : decode cJ13_bitCount_95d88 22 = .ok (.ladd, 1) := by decide +kernel
theorem dJ13_bitCount_95d88_23 : decode cJ13_bitCount_95d88 23 = .ok (.lstore_n 0, 1) := by decide +kernel
theorem dJ13_bitCount_95d88_24 : decode cJ13_bitCount_95d88 24 = .ok (.lload_n 0, 1) := by decide +kernel
theorem dJ13_bitCount_95d88_25 : decode cJ13_bitCount_95d88 25 = .ok (.lload_n 0, 1) := by decide +kernel
theorem dJ13_bitCount_95d88_26 : decode cJ13_bitCount_95d88 26 = .ok (.iconst 4, 1) := by decide +kernel
theorem dJ13_bitCount_95d88_27 : decode cJ13_bitCount_95d88 27 = .ok (.lushr, 1) := by decide +kernel
theorem dJ13_bitCount_95d88_28 : decode cJ13_bitCount_95d88 28 = .ok (.ladd, 1) := by decide +kernel
theorem dJ13_bitCount_95d88_29 : decode cJ13_bitCount_95d88 29 = .ok (.ldc2_w 318, 3) := by decide +kernel
theorem dJ13_bitCount_95d88_32 : decode cJ13_bitCount_95d88 32 = .ok (.land, 1) := by decide +kernel
theorem dJ13_bitCount_95d88_33 : decode cJ13_bitCount_95d88 33 = .ok (.lstore_n 0, 1) := by decide +kernel
theorem dJ13_bitCount_95d88_34 : decode cJ13_bitCount_95d88 34 = .ok (.lload_n 0, 1) := by decide +kernel
theorem dJ13_bitCount_95d88_35 : decode cJ13_bitCount_95d88 35 = .ok (.lload_n 0, 1) := by decide +kernel
theorem dJ13_bitCount_95d88_36 : decode cJ13_bitCount_95d88 36 = .ok (.bipush 8, 2) := by decide +kernel
theorem dJ13_bitCount_95d88_38 : decode cJ13_bitCount_95d88 38 = .ok (.lushr, 1) := by decide +kernel
theorem dJ13_bitCount_95d88_39 : decode cJ13_bitCount_95d88 39 = .ok (.ladd, 1) := by decide +kernel
theorem dJ13_bitCount_95d88_40 : decode cJ13_bitCount_95d88 40 = .ok (.lstore_n 0, 1) := by decide +kernel
theorem dJ13_bitCount_95d88_41 : decode cJ13_bitCount_95d88 41 = .ok (.lload_n 0, 1) := by decide +kernel
theorem dJ13_bitCount_95d88_42 : decode cJ13_bitCount_95d88 42 = .ok (.lload_n 0, 1) := by decide +kernel
theorem dJ13_bitCount_95d88_43 : decode cJ13_bitCount_95d88 43 = .ok (.bipush 16, 2) := by decide +kernel
theorem dJ13_bitCount_95d88_45 : decode cJ13_bitCount_95d88 45 = .ok (.lushr, 1) := by decide +kernel
theorem dJ13_bitCount_95d88_46 : decode cJ13_bitCount_95d88 46 = .ok (.ladd, 1) := by decide +kernel
theorem dJ13_bitCount_95d88_47 : decode cJ13_bitCount_95d88 47 = .ok (.lstore_n 0, 1) := by decide +kernel
theorem dJ13_bitCount_95d88_48 : decode cJ13_bitCount_95d88 48 = .ok (.lload_n 0, 1) := by decide +kernel
theorem dJ13_bitCount_95d88_49 : decode cJ13_bitCount_95d88 49 = .ok (.lload_n 0, 1) := by decide +kernel
theorem dJ13_bitCount_95d88_50 : decode cJ13_bitCount_95d88 50 = .ok (.bipush 32, 2) := by decide +kernel
theorem dJ13_bitCount_95d88_52 : decode cJ13_bitCount_95d88 52 = .ok (.lushr, 1) := by decide +kernel
theorem dJ13_bitCount_95d88_53 : decode cJ13_bitCount_95d88 53 = .ok (.ladd, 1) := by decide +kernel
theorem dJ13_bitCount_95d88_54 : decode cJ13_bitCount_95d88 54 = .ok (.lstore_n 0, 1) := by decide +kernel
theorem dJ13_bitCount_95d88_55 : decode cJ13_bitCount_95d88 55 = .ok (.lload_n 0, 1) := by decide +kernel
theorem dJ13_bitCount_95d88_56 : decode cJ13_bitCount_95d88 56 = .ok (.l2i, 1) := by decide +kernel
theorem dJ13_bitCount_95d88_57 : decode cJ13_bitCount_95d88 57 = .ok (.bipush 127, 2) := by decide +kernel
theorem dJ13_bitCount_95d88_59 : decode cJ13_bitCount_95d88 59 = .ok (.iand, 1) := by decide +kernel
theorem dJ13_bitCount_95d88_60 : decode cJ13_bitCount_95d88 60 = .ok (.ireturn, 1) := by decide +kernel
theorem dJ9_max_7cf53_0 : decode cJ9_max_7cf53 0 = .ok (.iload_n 0, 1) := by decide +kernel
theorem dJ9_max_7cf53_1 : decode cJ9_max_7cf53 1 = .ok (.iload_n 1, 1) := by decide +kernel
theorem dJ9_max_7cf53_2 : decode cJ9_max_7cf53 2 = .ok (.if_icmp .lt 7, 3) := by decide +kernel
theorem dJ9_max_7cf53_5 : decode cJ9_max_7cf53 5 = .ok (.iload_n 0, 1) := by decide +kernel
theorem dJ9_max_7cf53_6 : decode cJ9_max_7cf53 6 = .ok (.goto 4, 3) := by decide +kernel
theorem dJ9_max_7cf53_9 : decode cJ9_max_7cf53 9 = .ok (.iload_n 1, 1) := by decide +kernel
theorem dJ9_max_7cf53_10 : decode cJ9_max_7cf53 10 = .ok (.ireturn, 1) := by decide +kernel
theorem dJ9_min_7cf53_0 : decode cJ9_min_7cf53 0 = .ok (.iload_n 0, 1) := by decide +kernel
theorem dJ9_min_7cf53_1 : decode cJ9_min_7cf53 1 = .ok (.iload_n 1, 1) := by decide +kernel
theorem dJ9_min_7cf53_2 : decode cJ9_min_7cf53 2 = .ok (.if_icmp .gt 7, 3) := by decide +kernel
theorem dJ9_min_7cf53_5 : decode cJ9_min_7cf53 5 = .ok (.iload_n 0, 1) := by decide +kernel
theorem dJ9_min_7cf53_6 : decode cJ9_min_7cf53 6 = .ok (.goto 4, 3) := by decide +kernel
theorem dJ9_min_7cf53_9 : decode cJ9_min_7cf53 9 = .ok (.iload_n 1, 1) := by decide +kernel
theorem dJ9_min_7cf53_10 : decode cJ9_min_7cf53 10 = .ok (.ireturn, 1) := by decide +kernel
theorem dJ0_length_8abf5_0 : decode cJ0_length_8abf5 0 = .ok (.aload_n 0, 1) := by decide +kernel
theorem dJ0_length_8abf5_1 : decode cJ0_length_8abf5 1 = .ok (.getfield 9, 3) := by decide +kernel
theorem dJ0_length_8abf5_4 : decode cJ0_length_8abf5 4 = .ok (.arraylength, 1) := by decide +kernel
theorem dJ0_length_8abf5_5 : decode cJ0_length_8abf5 5 = .ok (.aload_n 0, 1) := by decide +kernel
theorem dJ0_length_8abf5_6 : decode cJ0_length_8abf5 6 = .ok (.invokevirtual 335, 3) := by decide +kernel
theorem dJ0_length_8abf5_9 : decode cJ0_length_8abf5 9 = .ok (.ishr, 1) := by decide +kernel
theorem dJ0_length_8abf5_10 : decode cJ0_length_8abf5 10 = .ok (.ireturn, 1) := by decide +kernel
theorem dJ0_charAt_5068e_0 : decode cJ0_charAt_5068e 0 = .ok (.aload_n 0, 1) := by decide +kernel
theorem dJ0_charAt_5068e_1 : decode cJ0_charAt_5068e 1 = .ok (.invokevirtual 492, 3) := by decide +kernel
theorem dJ0_charAt_5068e_4 : decode cJ0_charAt_5068e 4 = .ok (.ifCond .eq 12, 3) := by decide +kernel
theorem dJ0_charAt_5068e_7 : decode cJ0_charAt_5068e 7 = .ok (.aload_n 0, 1) := by decide +kernel
theorem dJ0_charAt_5068e_8 : decode cJ0_charAt_5068e 8 = .ok (.getfield 9, 3) := by decide +kernel
theorem dJ0_charAt_5068e_11 : decode cJ0_charAt_5068e 11 = .ok (.iload_n 1, 1) := by decide +kernel
theorem dJ0_charAt_5068e_12 : decode cJ0_charAt_5068e 12 = .ok (.invokestatic 495, 3) := by decide +kernel
theorem dJ0_charAt_5068e_15 : decode cJ0_charAt_5068e 15 = .ok (.ireturn, 1) := by decide +kernel
theorem dJ0_charAt_5068e_16 : decode cJ0_charAt_5068e 16 = .ok (.aload_n 0, 1) := by decide +kernel
theorem dJ0_charAt_5068e_17 : decode cJ0_charAt_5068e 17 = .ok (.getfield 9, 3) := by decide +kernel
theorem dJ0_charAt_5068e_20 : decode cJ0_charAt_5068e 20 = .ok (.iload_n 1, 1) := by decide +kernel
theorem dJ0_charAt_5068e_21 : decode cJ0_charAt_5068e 21 = .ok (.invokestatic 498, 3) := by decide +kernel
theorem dJ0_charAt_5068e_24 : decode cJ0_charAt_5068e 24 = .ok (.ireturn, 1) := by decide +kernel
theorem dJ0_coder_7d493_0 : decode cJ0_coder_7d493 0 = .ok (.getstatic 38, 3) := by decide +kernel
theorem dJ0_coder_7d493_3 : decode cJ0_coder_7d493 3 = .ok (.ifCond .eq 10, 3) := by decide +kernel
theorem dJ0_coder_7d493_6 : decode cJ0_coder_7d493 6 = .ok (.aload_n 0, 1) := by decide +kernel
theorem dJ0_coder_7d493_7 : decode cJ0_coder_7d493 7 = .ok (.getfield 15, 3) := by decide +kernel
theorem dJ0_coder_7d493_10 : decode cJ0_coder_7d493 10 = .ok (.goto 4, 3) := by decide +kernel
theorem dJ0_coder_7d493_13 : decode cJ0_coder_7d493 13 = .ok (.iconst 1, 1) := by decide +kernel
theorem dJ0_coder_7d493_14 : decode cJ0_coder_7d493 14 = .ok (.ireturn, 1) := by decide +kernel
theorem dJ0_isLatin1_aae02_0 : decode cJ0_isLatin1_aae02 0 = .ok (.getstatic 38, 3) := by decide +kernel
theorem dJ0_isLatin1_aae02_3 : decode cJ0_isLatin1_aae02 3 = .ok (.ifCond .eq 14, 3) := by decide +kernel
theorem dJ0_isLatin1_aae02_6 : decode cJ0_isLatin1_aae02 6 = .ok (.aload_n 0, 1) := by decide +kernel
theorem dJ0_isLatin1_aae02_7 : decode cJ0_isLatin1_aae02 7 = .ok (.getfield 15, 3) := by decide +kernel
theorem dJ0_isLatin1_aae02_10 : decode cJ0_isLatin1_aae02 10 = .ok (.ifCond .ne 7, 3) := by decide +kernel
theorem dJ0_isLatin1_aae02_13 : decode cJ0_isLatin1_aae02 13 = .ok (.iconst 1, 1) := by decide +kernel
theorem dJ0_isLatin1_aae02_14 : decode cJ0_isLatin1_aae02 14 = .ok (.goto 4, 3) := by decide +kernel
theorem dJ0_isLatin1_aae02_17 : decode cJ0_isLatin1_aae02 17 = .ok (.iconst 0, 1) := by decide +kernel
theorem dJ0_isLatin1_aae02_18 : decode cJ0_isLatin1_aae02 18 = .ok (.ireturn, 1) := by decide +kernel
theorem dJ0_checkIndex_df160_0 : decode cJ0_checkIndex_df160 0 = .ok (.iload_n 0, 1) := by decide +kernel
theorem dJ0_checkIndex_df160_1 : decode cJ0_checkIndex_df160 1 = .ok (.iload_n 1, 1) := by decide +kernel
theorem dJ0_checkIndex_df160_2 : decode cJ0_checkIndex_df160 2 = .ok (.getstatic 1053, 3) := by decide +kernel
theorem dJ0_checkIndex_df160_5 : decode cJ0_checkIndex_df160 5 = .ok (.invokestatic 1059, 3) := by decide +kernel
theorem dJ0_checkIndex_df160_8 : decode cJ0_checkIndex_df160 8 = .ok (.pop, 1) := by decide +kernel
theorem dJ0_checkIndex_df160_9 : decode cJ0_checkIndex_df160 9 = .ok (.return_, 1) := by decide +kernel
theorem dJ1_charAt_3b067_0 : decode cJ1_charAt_3b067 0 = .ok (.iload_n 1, 1) := by decide +kernel
theorem dJ1_charAt_3b067_1 : decode cJ1_charAt_3b067 1 = .ok (.aload_n 0, 1) := by decide +kernel
theorem dJ1_charAt_3b067_2 : decode cJ1_charAt_3b067 2 = .ok (.arraylength, 1) := by decide +kernel
theorem dJ1_charAt_3b067_3 : decode cJ1_charAt_3b067 3 = .ok (.invokestatic 9, 3) := by decide +kernel
theorem dJ1_charAt_3b067_6 : decode cJ1_charAt_3b067 6 = .ok (.aload_n 0, 1) := by decide +kernel
theorem dJ1_charAt_3b067_7 : decode cJ1_charAt_3b067 7 = .ok (.iload_n 1, 1) := by decide +kernel
theorem dJ1_charAt_3b067_8 : decode cJ1_charAt_3b067 8 = .ok (.baload, 1) := by decide +kernel
theorem dJ1_charAt_3b067_9 : decode cJ1_charAt_3b067 9 = .ok (.sipush 255, 3) := by decide +kernel
theorem dJ1_charAt_3b067_12 : decode cJ1_charAt_3b067 12 = .ok (.iand, 1) := by decide +kernel
theorem dJ1_charAt_3b067_13 : decode cJ1_charAt_3b067 13 = .ok (.i2c, 1) := by decide +kernel
theorem dJ1_charAt_3b067_14 : decode cJ1_charAt_3b067 14 = .ok (.ireturn, 1) := by decide +kernel
theorem dJ2_getChar_3b067_0 : decode cJ2_getChar_3b067 0 = .ok (.getstatic 44, 3) := by decide +kernel
theorem dJ2_getChar_3b067_3 : decode cJ2_getChar_3b067 3 = .ok (.ifCond .ne 25, 3) := by decide +kernel
theorem dJ2_getChar_3b067_6 : decode cJ2_getChar_3b067 6 = .ok (.iload_n 1, 1) := by decide +kernel
theorem dJ2_getChar_3b067_7 : decode cJ2_getChar_3b067 7 = .ok (.ifCond .lt 11, 3) := by decide +kernel
theorem dJ2_getChar_3b067_10 : decode cJ2_getChar_3b067 10 = .ok (.iload_n 1, 1) := by decide +kernel
theorem dJ2_getChar_3b067_11 : decode cJ2_getChar_3b067 11 = .ok (.aload_n 0, 1) := by decide +kernel
theorem dJ2_getChar_3b067_12 : decode cJ2_getChar_3b067 12 = .ok (.invokestatic 48, 3) := by decide +kernel
theorem dJ2_getChar_3b067_15 : decode cJ2_getChar_3b067 15 = .ok (.if_icmp .lt 13, 3) := by decide +kernel
theorem dJ2_getChar_3b067_18 : decode cJ2_getChar_3b067 18 = .ok (.new 52, 3) := by decide +kernel
theorem dJ2_getChar_3b067_21 : decode cJ2_getChar_3b067 21 = .ok (.dup, 1) := by decide +kernel
theorem dJ2_getChar_3b067_22 : decode cJ2_getChar_3b067 22 = .ok (.ldc 54, 2) := by decide +kernel
theorem dJ2_getChar_3b067_24 : decode cJ2_getChar_3b067 24 = .ok (.invokespecial 56, 3) := by decide +kernel
theorem dJ2_getChar_3b067_27 : decode cJ2_getChar_3b067 27 = .ok (.athrow, 1) := by decide +kernel
theorem dJ2_getChar_3b067_28 : decode cJ2_getChar_3b067 28 = .ok (.iload_n 1, 1) := by decide +kernel
theorem dJ2_getChar_3b067_29 : decode cJ2_getChar_3b067 29 = .ok (.iconst 1, 1) := by decide +kernel
theorem dJ2_getChar_3b067_30 : decode cJ2_getChar_3b067 30 = .ok (.ishl, 1) := by decide +kernel
theorem dJ2_getChar_3b067_31 : decode cJ2_getChar_3b067 31 = .ok (.istore_n 1, 1) := by decide +kernel
theorem dJ2_getChar_3b067_32 : decode cJ2_getChar_3b067 32 = .ok (.aload_n 0, 1) := by decide +kernel
theorem dJ2_getChar_3b067_33 : decode cJ2_getChar_3b067 33 = .ok (.iload_n 1, 1) := by decide +kernel
theorem dJ2_getChar_3b067_34 : decode cJ2_getChar_3b067 34 = .ok (.iinc 1 1, 3) := by decide +kernel
theorem dJ2_getChar_3b067_37 : decode cJ2_getChar_3b067 37 = .ok (.baload, 1) := by decide +kernel
theorem dJ2_getChar_3b067_38 : decode cJ2_getChar_3b067 38 = .ok (.sipush 255, 3) := by decide +kernel
theorem dJ2_getChar_3b067_41 : decode cJ2_getChar_3b067 41 = .ok (.iand, 1) := by decide +kernel
theorem dJ2_getChar_3b067_42 : decode cJ2_getChar_3b067 42 = .ok (.getstatic 59, 3) := by decide +kernel
theorem dJ2_getChar_3b067_45 : decode cJ2_getChar_3b067 45 = .ok (.ishl, 1) := by decide +kernel
theorem dJ2_getChar_3b067_46 : decode cJ2_getChar_3b067 46 = .ok (.aload_n 0, 1) := by decide +kernel
theorem dJ2_getChar_3b067_47 : decode cJ2_getChar_3b067 47 = .ok (.iload_n 1, 1) := by decide +kernel
theorem dJ2_getChar_3b067_48 : decode cJ2_getChar_3b067 48 = .ok (.baload, 1) := by decide +kernel
theorem dJ2_getChar_3b067_49 : decode cJ2_getChar_3b067 49 = .ok (.sipush 255, 3) := by decide +kernel
theorem dJ2_getChar_3b067_52 : decode cJ2_getChar_3b067 52 = .ok (.iand, 1) := by decide +kernel
theorem dJ2_getChar_3b067_53 : decode cJ2_getChar_3b067 53 = .ok (.getstatic 63, 3) := by decide +kernel
theorem dJ2_getChar_3b067_56 : decode cJ2_getChar_3b067 56 = .ok (.ishl, 1) := by decide +kernel
theorem dJ2_getChar_3b067_57 : decode cJ2_getChar_3b067 57 = .ok (.ior, 1) := by decide +kernel
theorem dJ2_getChar_3b067_58 : decode cJ2_getChar_3b067 58 = .ok (.i2c, 1) := by decide +kernel
theorem dJ2_getChar_3b067_59 : decode cJ2_getChar_3b067 59 = .ok (.ireturn, 1) := by decide +kernel
theorem dJ2_length_9d52b_0 : decode cJ2_length_9d52b 0 = .ok (.aload_n 0, 1) := by decide +kernel
theorem dJ2_length_9d52b_1 : decode cJ2_length_9d52b 1 = .ok (.arraylength, 1) := by decide +kernel
theorem dJ2_length_9d52b_2 : decode cJ2_length_9d52b 2 = .ok (.iconst 1, 1) := by decide +kernel
theorem dJ2_length_9d52b_3 : decode cJ2_length_9d52b 3 = .ok (.ishr, 1) := by decide +kernel
theorem dJ2_length_9d52b_4 : decode cJ2_length_9d52b 4 = .ok (.ireturn, 1) := by decide +kernel
theorem dJ2_charAt_3b067_0 : decode cJ2_charAt_3b067 0 = .ok (.iload_n 1, 1) := by decide +kernel
theorem dJ2_charAt_3b067_1 : decode cJ2_charAt_3b067 1 = .ok (.aload_n 0, 1) := by decide +kernel
theorem dJ2_charAt_3b067_2 : decode cJ2_charAt_3b067 2 = .ok (.invokestatic 67, 3) := by decide +kernel
theorem dJ2_charAt_3b067_5 : decode cJ2_charAt_3b067 5 = .ok (.aload_n 0, 1) := by decide +kernel
theorem dJ2_charAt_3b067_6 : decode cJ2_charAt_3b067 6 = .ok (.iload_n 1, 1) := by decide +kernel
theorem dJ2_charAt_3b067_7 : decode cJ2_charAt_3b067 7 = .ok (.invokestatic 71, 3) := by decide +kernel
theorem dJ2_charAt_3b067_10 : decode cJ2_charAt_3b067 10 = .ok (.ireturn, 1) := by decide +kernel
theorem dJ2_checkIndex_2214a_0 : decode cJ2_checkIndex_2214a 0 = .ok (.iload_n 0, 1) := by decide +kernel
theorem dJ2_checkIndex_2214a_1 : decode cJ2_checkIndex_2214a 1 = .ok (.aload_n 1, 1) := by decide +kernel
theorem dJ2_checkIndex_2214a_2 : decode cJ2_checkIndex_2214a 2 = .ok (.invokestatic 48, 3) := by decide +kernel
theorem dJ2_checkIndex_2214a_5 : decode cJ2_checkIndex_2214a 5 = .ok (.invokestatic 414, 3) := by decide +kernel
theorem dJ2_checkIndex_2214a_8 : decode cJ2_checkIndex_2214a 8 = .ok (.return_, 1) := by decide +kernel
theorem dJ7_fill_d0a16_0 : decode cJ7_fill_d0a16 0 = .ok (.iconst 0, 1) := by decide +kernel
theorem dJ7_fill_d0a16_1 : decode cJ7_fill_d0a16 1 = .ok (.istore_n 3, 1) := by decide +kernel
theorem dJ7_fill_d0a16_2 : decode cJ7_fill_d0a16 2 = .ok (.aload_n 0, 1) := by decide +kernel
theorem dJ7_fill_d0a16_3 : decode cJ7_fill_d0a16 3 = .ok (.arraylength, 1) := by decide +kernel
theorem dJ7_fill_d0a16_4 : decode cJ7_fill_d0a16 4 = .ok (.istore 4, 2) := by decide +kernel
theorem dJ7_fill_d0a16_6 : decode cJ7_fill_d0a16 6 = .ok (.iload_n 3, 1) := by decide +kernel
theorem dJ7_fill_d0a16_7 : decode cJ7_fill_d0a16 7 = .ok (.iload 4, 2) := by decide +kernel
theorem dJ7_fill_d0a16_9 : decode cJ7_fill_d0a16 9 = .ok (.if_icmp .ge 13, 3) := by decide +kernel
theorem dJ7_fill_d0a16_12 : decode cJ7_fill_d0a16 12 = .ok (.aload_n 0, 1) := by decide +kernel
theorem dJ7_fill_d0a16_13 : decode cJ7_fill_d0a16 13 = .ok (.iload_n 3, 1) := by decide +kernel
theorem dJ7_fill_d0a16_14 : decode cJ7_fill_d0a16 14 = .ok (.lload_n 1, 1) := by decide +kernel
theorem dJ7_fill_d0a16_15 : decode cJ7_fill_d0a16 15 = .ok (.lastore, 1) := by decide +kernel
theorem dJ7_fill_d0a16_16 : decode cJ7_fill_d0a16 16 = .ok (.iinc 3 1, 3) := by decide +kernel
theorem dJ7_fill_d0a16_19 : decode cJ7_fill_d0a16 19 = .ok (.goto (-13), 3) := by decide +kernel
theorem dJ7_fill_d0a16_22 : decode cJ7_fill_d0a16 22 = .ok (.return_, 1) := by decide +kernel
theorem dJ7_fill_53178_0 : decode cJ7_fill_53178 0 = .ok (.iconst 0, 1) := by decide +kernel
theorem dJ7_fill_53178_1 : decode cJ7_fill_53178 1 = .ok (.istore_n 2, 1) := by decide +kernel
theorem dJ7_fill_53178_2 : decode cJ7_fill_53178 2 = .ok (.aload_n 0, 1) := by decide +kernel
theorem dJ7_fill_53178_3 : decode cJ7_fill_53178 3 = .ok (.arraylength, 1) := by decide +kernel
theorem dJ7_fill_53178_4 : decode cJ7_fill_53178 4 = .ok (.istore_n 3, 1) := by decide +kernel
theorem dJ7_fill_53178_5 : decode cJ7_fill_53178 5 = .ok (.iload_n 2, 1) := by decide +kernel
theorem dJ7_fill_53178_6 : decode cJ7_fill_53178 6 = .ok (.iload_n 3, 1) := by decide +kernel
theorem dJ7_fill_53178_7 : decode cJ7_fill_53178 7 = .ok (.if_icmp .ge 13, 3) := by decide +kernel
theorem dJ7_fill_53178_10 : decode cJ7_fill_53178 10 = .ok (.aload_n 0, 1) := by decide +kernel
theorem dJ7_fill_53178_11 : decode cJ7_fill_53178 11 = .ok (.iload_n 2, 1) := by decide +kernel
theorem dJ7_fill_53178_12 : decode cJ7_fill_53178 12 = .ok (.iload_n 1, 1) := by decide +kernel
theorem dJ7_fill_53178_13 : decode cJ7_fill_53178 13 = .ok (.iastore, 1) := by decide +kernel
theorem dJ7_fill_53178_14 : decode cJ7_fill_53178 14 = .ok (.iinc 2 1, 3) := by decide +kernel
theorem dJ7_fill_53178_17 : decode cJ7_fill_53178 17 = .ok (.goto (-12), 3) := by decide +kernel
theorem dJ7_fill_53178_20 : decode cJ7_fill_53178 20 = .ok (.return_, 1) := by decide +kernel
theorem dJ3_checkIndex_8e157_0 : decode cJ3_checkIndex_8e157 0 = .ok (.iload_n 0, 1) := by decide +kernel
theorem dJ3_checkIndex_8e157_1 : decode cJ3_checkIndex_8e157 1 = .ok (.ifCond .lt 8, 3) := by decide +kernel
theorem dJ3_checkIndex_8e157_4 : decode cJ3_checkIndex_8e157 4 = .ok (.iload_n 0, 1) := by decide +kernel
theorem dJ3_checkIndex_8e157_5 : decode cJ3_checkIndex_8e157 5 = .ok (.iload_n 1, 1) := by decide +kernel
theorem dJ3_checkIndex_8e157_6 : decode cJ3_checkIndex_8e157 6 = .ok (.if_icmp .lt 10, 3) := by decide +kernel
theorem dJ3_checkIndex_8e157_9 : decode cJ3_checkIndex_8e157 9 = .ok (.aload_n 2, 1) := by decide +kernel
theorem dJ3_checkIndex_8e157_10 : decode cJ3_checkIndex_8e157 10 = .ok (.iload_n 0, 1) := by decide +kernel
theorem dJ3_checkIndex_8e157_11 : decode cJ3_checkIndex_8e157 11 = .ok (.iload_n 1, 1) := by decide +kernel
theorem dJ3_checkIndex_8e157_12 : decode cJ3_checkIndex_8e157 12 = .ok (.invokestatic 95, 3) := by decide +kernel
theorem dJ3_checkIndex_8e157_15 : decode cJ3_checkIndex_8e157 15 = .ok (.athrow, 1) := by decide +kernel
theorem dJ3_checkIndex_8e157_16 : decode cJ3_checkIndex_8e157 16 = .ok (.iload_n 0, 1) := by decide +kernel
theorem dJ3_checkIndex_8e157_17 : decode cJ3_checkIndex_8e157 17 = .ok (.ireturn, 1) := by decide +kernel
