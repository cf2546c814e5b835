theorem dX0_init_0 : decode cX0_init 0 = .ok (.aload_n 0, 1) := by decide +kernel
theorem dX0_init_1 : decode cX0_init 1 = .ok (.invokespecial 3, 3) := by decide +kernel
theorem dX0_init_4 : decode cX0_init 4 = .ok (.aload_n 0, 1) := by decide +kernel
theorem dX0_init_5 : decode cX0_init 5 = .ok (.bipush 10, 2) := by decide +kernel
theorem dX0_init_7 : decode cX0_init 7 = .ok (.newarray .int, 2) := by decide +kernel
theorem dX0_init_9 : decode cX0_init 9 = .ok (.putfield 9, 3) := by decide +kernel
theorem dX0_init_12 : decode cX0_init 12 = .ok (.aload_n 0, 1) := by decide +kernel
theorem dX0_init_13 : decode cX0_init 13 = .ok (.iconst 0, 1) := by decide +kernel
theorem dX0_init_14 : decode cX0_init 14 = .ok (.putfield 15, 3) := by decide +kernel
theorem dX0_init_17 : decode cX0_init 17 = .ok (.return_, 1) := by decide +kernel
theorem dX0_linkPoints_0 : decode cX0_linkPoints 0 = .ok (.aload_n 0, 1) := by decide +kernel
theorem dX0_linkPoints_1 : decode cX0_linkPoints 1 = .ok (.aload_n 1, 1) := by decide +kernel
theorem dX0_linkPoints_2 : decode cX0_linkPoints 2 = .ok (.getfield 19, 3) := by decide +kernel
theorem dX0_linkPoints_5 : decode cX0_linkPoints 5 = .ok (.invokevirtual 24, 3) := by decide +kernel
theorem dX0_linkPoints_8 : decode cX0_linkPoints 8 = .ok (.iconst 0, 1) := by decide +kernel
theorem dX0_linkPoints_9 : decode cX0_linkPoints 9 = .ok (.istore_n 3, 1) := by decide +kernel
theorem dX0_linkPoints_10 : decode cX0_linkPoints 10 = .ok (.iload_n 3, 1) := by decide +kernel
theorem dX0_linkPoints_11 : decode cX0_linkPoints 11 = .ok (.aload_n 0, 1) := by decide +kernel
theorem dX0_linkPoints_12 : decode cX0_linkPoints 12 = .ok (.getfield 15, 3) := by decide +kernel
theorem dX0_linkPoints_15 : decode cX0_linkPoints 15 = .ok (.if_icmp .ge 50, 3) := by decide +kernel
theorem dX0_linkPoints_18 : decode cX0_linkPoints 18 = .ok (.iconst 0, 1) := by decide +kernel
theorem dX0_linkPoints_19 : decode cX0_linkPoints 19 = .ok (.istore 4, 2) := by decide +kernel
theorem dX0_linkPoints_21 : decode cX0_linkPoints 21 = .ok (.iload 4, 2) := by decide +kernel
theorem dX0_linkPoints_23 : decode cX0_linkPoints 23 = .ok (.iload_n 3, 1) := by decide +kernel
theorem dX0_linkPoints_24 : decode cX0_linkPoints 24 = .ok (.if_icmp .ge 35, 3) := by decide +kernel
theorem dX0_linkPoints_27 : decode cX0_linkPoints 27 = .ok (.iconst 1, 1) := by decide +kernel
theorem dX0_linkPoints_28 : decode cX0_linkPoints 28 = .ok (.iload_n 3, 1) := by decide +kernel
theorem dX0_linkPoints_29 : decode cX0_linkPoints 29 = .ok (.ishl, 1) := by decide +kernel
theorem dX0_linkPoints_30 : decode cX0_linkPoints 30 = .ok (.iconst 1, 1) := by decide +kernel
theorem dX0_linkPoints_31 : decode cX0_linkPoints 31 = .ok (.iload 4, 2) := by decide +kernel
theorem dX0_linkPoints_33 : decode cX0_linkPoints 33 = .ok (.ishl, 1) := by decide +kernel
theorem dX0_linkPoints_34 : decode cX0_linkPoints 34 = .ok (.ior, 1) := by decide +kernel
theorem dX0_linkPoints_35 : decode cX0_linkPoints 35 = .ok (.istore 5, 2) := by decide +kernel
theorem dX0_linkPoints_37 : decode cX0_linkPoints 37 = .ok (.aload_n 2, 1) := by decide +kernel
theorem dX0_linkPoints_38 : decode cX0_linkPoints 38 = .ok (.iload 5, 2) := by decide +kernel
theorem dX0_linkPoints_40 : decode cX0_linkPoints 40 = .ok (.invokevirtual 28, 3) := by decide +kernel
theorem dX0_linkPoints_43 : decode cX0_linkPoints 43 = .ok (.ifCond .eq 10, 3) := by decide +kernel
theorem dX0_linkPoints_46 : decode cX0_linkPoints 46 = .ok (.aload_n 0, 1) := by decide +kernel
theorem dX0_linkPoints_47 : decode cX0_linkPoints 47 = .ok (.iload_n 3, 1) := by decide +kernel
theorem dX0_linkPoints_48 : decode cX0_linkPoints 48 = .ok (.iload 4, 2) := by decide +kernel
theorem dX0_linkPoints_50 : decode cX0_linkPoints 50 = .ok (.invokevirtual 34, 3) := by decide +kernel
theorem dX0_linkPoints_53 : decode cX0_linkPoints 53 = .ok (.iinc 4 1, 3) := by decide +kernel
theorem dX0_linkPoints_56 : decode cX0_linkPoints 56 = .ok (.goto (-35), 3) := by decide +kernel
theorem dX0_linkPoints_59 : decode cX0_linkPoints 59 = .ok (.iinc 3 1, 3) := by decide +kernel
theorem dX0_linkPoints_62 : decode cX0_linkPoints 62 = .ok (.goto (-52), 3) := by decide +kernel
theorem dX0_linkPoints_65 : decode cX0_linkPoints 65 = .ok (.return_, 1) := by decide +kernel
theorem dX0_linkFacets_0 : decode cX0_linkFacets 0 = .ok (.aload_n 0, 1) := by decide +kernel
theorem dX0_linkFacets_1 : decode cX0_linkFacets 1 = .ok (.aload_n 1, 1) := by decide +kernel
theorem dX0_linkFacets_2 : decode cX0_linkFacets 2 = .ok (.getfield 38, 3) := by decide +kernel
theorem dX0_linkFacets_5 : decode cX0_linkFacets 5 = .ok (.invokevirtual 24, 3) := by decide +kernel
theorem dX0_linkFacets_8 : decode cX0_linkFacets 8 = .ok (.iconst 0, 1) := by decide +kernel
theorem dX0_linkFacets_9 : decode cX0_linkFacets 9 = .ok (.istore_n 3, 1) := by decide +kernel
theorem dX0_linkFacets_10 : decode cX0_linkFacets 10 = .ok (.iload_n 3, 1) := by decide +kernel
theorem dX0_linkFacets_11 : decode cX0_linkFacets 11 = .ok (.aload_n 0, 1) := by decide +kernel
theorem dX0_linkFacets_12 : decode cX0_linkFacets 12 = .ok (.getfield 15, 3) := by decide +kernel
theorem dX0_linkFacets_15 : decode cX0_linkFacets 15 = .ok (.if_icmp .ge 94, 3) := by decide +kernel
theorem dX0_linkFacets_18 : decode cX0_linkFacets 18 = .ok (.iconst 0, 1) := by decide +kernel
theorem dX0_linkFacets_19 : decode cX0_linkFacets 19 = .ok (.istore 4, 2) := by decide +kernel
theorem dX0_linkFacets_21 : decode cX0_linkFacets 21 = .ok (.iload 4, 2) := by decide +kernel
theorem dX0_linkFacets_23 : decode cX0_linkFacets 23 = .ok (.iload_n 3, 1) := by decide +kernel
theorem dX0_linkFacets_24 : decode cX0_linkFacets 24 = .ok (.if_icmp .ge 79, 3) := by decide +kernel
theorem dX0_linkFacets_27 : decode cX0_linkFacets 27 = .ok (.aload_n 1, 1) := by decide +kernel
theorem dX0_linkFacets_28 : decode cX0_linkFacets 28 = .ok (.getfield 41, 3) := by decide +kernel
theorem dX0_linkFacets_31 : decode cX0_linkFacets 31 = .ok (.iload_n 3, 1) := by decide +kernel
theorem dX0_linkFacets_32 : decode cX0_linkFacets 32 = .ok (.iaload, 1) := by decide +kernel
theorem dX0_linkFacets_33 : decode cX0_linkFacets 33 = .ok (.aload_n 1, 1) := by decide +kernel
theorem dX0_linkFacets_34 : decode cX0_linkFacets 34 = .ok (.getfield 41, 3) := by decide +kernel
theorem dX0_linkFacets_37 : decode cX0_linkFacets 37 = .ok (.iload 4, 2) := by decide +kernel
theorem dX0_linkFacets_39 : decode cX0_linkFacets 39 = .ok (.iaload, 1) := by decide +kernel
theorem dX0_linkFacets_40 : decode cX0_linkFacets 40 = .ok (.iand, 1) := by decide +kernel
theorem dX0_linkFacets_41 : decode cX0_linkFacets 41 = .ok (.istore 5, 2) := by decide +kernel
theorem dX0_linkFacets_43 : decode cX0_linkFacets 43 = .ok (.aload_n 1, 1) := by decide +kernel
theorem dX0_linkFacets_44 : decode cX0_linkFacets 44 = .ok (.getfield 41, 3) := by decide +kernel
theorem dX0_linkFacets_47 : decode cX0_linkFacets 47 = .ok (.iload_n 3, 1) := by decide +kernel
theorem dX0_linkFacets_48 : decode cX0_linkFacets 48 = .ok (.iaload, 1) := by decide +kernel
theorem dX0_linkFacets_49 : decode cX0_linkFacets 49 = .ok (.aload_n 1, 1) := by decide +kernel
theorem dX0_linkFacets_50 : decode cX0_linkFacets 50 = .ok (.getfield 41, 3) := by decide +kernel
theorem dX0_linkFacets_53 : decode cX0_linkFacets 53 = .ok (.iload 4, 2) := by decide +kernel
theorem dX0_linkFacets_55 : decode cX0_linkFacets 55 = .ok (.iaload, 1) := by decide +kernel
theorem dX0_linkFacets_56 : decode cX0_linkFacets 56 = .ok (.if_icmp .eq 41, 3) := by decide +kernel
theorem dX0_linkFacets_59 : decode cX0_linkFacets 59 = .ok (.aload_n 2, 1) := by decide +kernel
theorem dX0_linkFacets_60 : decode cX0_linkFacets 60 = .ok (.iload 5, 2) := by decide +kernel
theorem dX0_linkFacets_62 : decode cX0_linkFacets 62 = .ok (.aload_n 1, 1) := by decide +kernel
theorem dX0_linkFacets_63 : decode cX0_linkFacets 63 = .ok (.getfield 41, 3) := by decide +kernel
theorem dX0_linkFacets_66 : decode cX0_linkFacets 66 = .ok (.iload_n 3, 1) := by decide +kernel
theorem dX0_linkFacets_67 : decode cX0_linkFacets 67 = .ok (.iaload, 1) := by decide +kernel
theorem dX0_linkFacets_68 : decode cX0_linkFacets 68 = .ok (.invokevirtual 44, 3) := by decide +kernel
theorem dX0_linkFacets_71 : decode cX0_linkFacets 71 = .ok (.ifCond .eq 26, 3) := by decide +kernel
theorem dX0_linkFacets_74 : decode cX0_linkFacets 74 = .ok (.aload_n 2, 1) := by decide +kernel
theorem dX0_linkFacets_75 : decode cX0_linkFacets 75 = .ok (.iload 5, 2) := by decide +kernel
theorem dX0_linkFacets_77 : decode cX0_linkFacets 77 = .ok (.aload_n 1, 1) := by decide +kernel
theorem dX0_linkFacets_78 : decode cX0_linkFacets 78 = .ok (.getfield 41, 3) := by decide +kernel
theorem dX0_linkFacets_81 : decode cX0_linkFacets 81 = .ok (.iload 4, 2) := by decide +kernel
theorem dX0_linkFacets_83 : decode cX0_linkFacets 83 = .ok (.iaload, 1) := by decide +kernel
theorem dX0_linkFacets_84 : decode cX0_linkFacets 84 = .ok (.invokevirtual 44, 3) := by decide +kernel
theorem dX0_linkFacets_87 : decode cX0_linkFacets 87 = .ok (.ifCond .eq 10, 3) := by decide +kernel
theorem dX0_linkFacets_90 : decode cX0_linkFacets 90 = .ok (.aload_n 0, 1) := by decide +kernel
theorem dX0_linkFacets_91 : decode cX0_linkFacets 91 = .ok (.iload_n 3, 1) := by decide +kernel
theorem dX0_linkFacets_92 : decode cX0_linkFacets 92 = .ok (.iload 4, 2) := by decide +kernel
theorem dX0_linkFacets_94 : decode cX0_linkFacets 94 = .ok (.invokevirtual 34, 3) := by decide +kernel
theorem dX0_linkFacets_97 : decode cX0_linkFacets 97 = .ok (.iinc 4 1, 3) := by decide +kernel
theorem dX0_linkFacets_100 : decode cX0_linkFacets 100 = .ok (.goto (-79), 3) := by decide +kernel
theorem dX0_linkFacets_103 : decode cX0_linkFacets 103 = .ok (.iinc 3 1, 3) := by decide +kernel
theorem dX0_linkFacets_106 : decode cX0_linkFacets 106 = .ok (.goto (-96), 3) := by decide +kernel
theorem dX0_linkFacets_109 : decode cX0_linkFacets 109 = .ok (.return_, 1) := by decide +kernel
theorem dX0_clear_0 : decode cX0_clear 0 = .ok (.aload_n 0, 1) := by decide +kernel
theorem dX0_clear_1 : decode cX0_clear 1 = .ok (.iload_n 1, 1) := by decide +kernel
theorem dX0_clear_2 : decode cX0_clear 2 = .ok (.putfield 15, 3) := by decide +kernel
theorem dX0_clear_5 : decode cX0_clear 5 = .ok (.aload_n 0, 1) := by decide +kernel
theorem dX0_clear_6 : decode cX0_clear 6 = .ok (.getfield 9, 3) := by decide +kernel
theorem dX0_clear_9 : decode cX0_clear 9 = .ok (.iconst 0, 1) := by decide +kernel
theorem dX0_clear_10 : decode cX0_clear 10 = .ok (.invokestatic 48, 3) := by decide +kernel
theorem dX0_clear_13 : decode cX0_clear 13 = .ok (.return_, 1) := by decide +kernel
theorem dX0_link_0 : decode cX0_link 0 = .ok (.aload_n 0, 1) := by decide +kernel
theorem dX0_link_1 : decode cX0_link 1 = .ok (.getfield 9, 3) := by decide +kernel
theorem dX0_link_4 : decode cX0_link 4 = .ok (.iload_n 1, 1) := by decide +kernel
theorem dX0_link_5 : decode cX0_link 5 = .ok (.dup2, 1) := by decide +kernel
theorem dX0_link_6 : decode cX0_link 6 = .ok (.iaload, 1) := by decide +kernel
theorem dX0_link_7 : decode cX0_link 7 = .ok (.iconst 1, 1) := by decide +kernel
theorem dX0_link_8 : decode cX0_link 8 = .ok (.iload_n 2, 1) := by decide +kernel
theorem dX0_link_9 : decode cX0_link 9 = .ok (.ishl, 1) := by decide +kernel
theorem dX0_link_10 : decode cX0_link 10 = .ok (.ior, 1) := by decide +kernel
theorem dX0_link_11 : decode cX0_link 11 = .ok (.iastore, 1) := by decide +kernel
theorem dX0_link_12 : decode cX0_link 12 = .ok (.aload_n 0, 1) := by decide +kernel
theorem dX0_link_13 : decode cX0_link 13 = .ok (.getfield 9, 3) := by decide +kernel
theorem dX0_link_16 : decode cX0_link 16 = .ok (.iload_n 2, 1) := by decide +kernel
theorem dX0_link_17 : decode cX0_link 17 = .ok (.dup2, 1) := by decide +kernel
theorem dX0_link_18 : decode cX0_link 18 = .ok (.iaload, 1) := by decide +kernel
theorem dX0_link_19 : decode cX0_link 19 = .ok (.iconst 1, 1) := by decide +kernel
theorem dX0_link_20 : decode cX0_link 20 = .ok (.iload_n 1, 1) := by decide +kernel
theorem dX0_link_21 : decode cX0_link 21 = .ok (.ishl, 1) := by decide +kernel
theorem dX0_link_22 : decode cX0_link 22 = .ok (.ior, 1) := by decide +kernel
theorem dX0_link_23 : decode cX0_link 23 = .ok (.iastore, 1) := by decide +kernel
theorem dX0_link_24 : decode cX0_link 24 = .ok (.return_, 1) := by decide +kernel
theorem dX0_length_0 : decode cX0_length 0 = .ok (.iconst 1, 1) := by decide +kernel
theorem dX0_length_1 : decode cX0_length 1 = .ok (.iload_n 1, 1) := by decide +kernel
theorem dX0_length_2 : decode cX0_length 2 = .ok (.ishl, 1) := by decide +kernel
theorem dX0_length_3 : decode cX0_length 3 = .ok (.istore_n 3, 1) := by decide +kernel
theorem dX0_length_4 : decode cX0_length 4 = .ok (.iconst 0, 1) := by decide +kernel
theorem dX0_length_5 : decode cX0_length 5 = .ok (.istore 4, 2) := by decide +kernel
theorem dX0_length_7 : decode cX0_length 7 = .ok (.iload 4, 2) := by decide +kernel
theorem dX0_length_9 : decode cX0_length 9 = .ok (.aload_n 0, 1) := by decide +kernel
theorem dX0_length_10 : decode cX0_length 10 = .ok (.getfield 15, 3) := by decide +kernel
theorem dX0_length_13 : decode cX0_length 13 = .ok (.if_icmp .ge 29, 3) := by decide +kernel
theorem dX0_length_16 : decode cX0_length 16 = .ok (.iload_n 3, 1) := by decide +kernel
theorem dX0_length_17 : decode cX0_length 17 = .ok (.iload_n 2, 1) := by decide +kernel
theorem dX0_length_18 : decode cX0_length 18 = .ok (.ishr, 1) := by decide +kernel
theorem dX0_length_19 : decode cX0_length 19 = .ok (.iconst 1, 1) := by decide +kernel
theorem dX0_length_20 : decode cX0_length 20 = .ok (.iand, 1) := by decide +kernel
theorem dX0_length_21 : decode cX0_length 21 = .ok (.iconst 1, 1) := by decide +kernel
theorem dX0_length_22 : decode cX0_length 22 = .ok (.if_icmp .ne 6, 3) := by decide +kernel
theorem dX0_length_25 : decode cX0_length 25 = .ok (.iload 4, 2) := by decide +kernel
theorem dX0_length_27 : decode cX0_length 27 = .ok (.ireturn, 1) := by decide +kernel
theorem dX0_length_28 : decode cX0_length 28 = .ok (.iload_n 3, 1) := by decide +kernel
theorem dX0_length_29 : decode cX0_length 29 = .ok (.aload_n 0, 1) := by decide +kernel
theorem dX0_length_30 : decode cX0_length 30 = .ok (.iload_n 3, 1) := by decide +kernel
theorem dX0_length_31 : decode cX0_length 31 = .ok (.invokevirtual 54, 3) := by decide +kernel
theorem dX0_length_34 : decode cX0_length 34 = .ok (.ior, 1) := by decide +kernel
theorem dX0_length_35 : decode cX0_length 35 = .ok (.istore_n 3, 1) := by decide +kernel
theorem dX0_length_36 : decode cX0_length 36 = .ok (.iinc 4 1, 3) := by decide +kernel
theorem dX0_length_39 : decode cX0_length 39 = .ok (.goto (-32), 3) := by decide +kernel
theorem dX0_length_42 : decode cX0_length 42 = .ok (.iconst (-1), 1) := by decide +kernel
theorem dX0_length_43 : decode cX0_length 43 = .ok (.ireturn, 1) := by decide +kernel
theorem dX0_nextToAny_0 : decode cX0_nextToAny 0 = .ok (.iconst 0, 1) := by decide +kernel
theorem dX0_nextToAny_1 : decode cX0_nextToAny 1 = .ok (.istore_n 2, 1) := by decide +kernel
theorem dX0_nextToAny_2 : decode cX0_nextToAny 2 = .ok (.iconst 0, 1) := by decide +kernel
theorem dX0_nextToAny_3 : decode cX0_nextToAny 3 = .ok (.istore_n 3, 1) := by decide +kernel
theorem dX0_nextToAny_4 : decode cX0_nextToAny 4 = .ok (.iload_n 3, 1) := by decide +kernel
theorem dX0_nextToAny_5 : decode cX0_nextToAny 5 = .ok (.aload_n 0, 1) := by decide +kernel
theorem dX0_nextToAny_6 : decode cX0_nextToAny 6 = .ok (.getfield 15, 3) := by decide +kernel
theorem dX0_nextToAny_9 : decode cX0_nextToAny 9 = .ok (.if_icmp .ge 27, 3) := by decide +kernel
theorem dX0_nextToAny_12 : decode cX0_nextToAny 12 = .ok (.iload_n 1, 1) := by decide +kernel
theorem dX0_nextToAny_13 : decode cX0_nextToAny 13 = .ok (.iload_n 3, 1) := by decide +kernel
theorem dX0_nextToAny_14 : decode cX0_nextToAny 14 = .ok (.ishr, 1) := by decide +kernel
theorem dX0_nextToAny_15 : decode cX0_nextToAny 15 = .ok (.iconst 1, 1) := by decide +kernel
theorem dX0_nextToAny_16 : decode cX0_nextToAny 16 = .ok (.iand, 1) := by decide +kernel
theorem dX0_nextToAny_17 : decode cX0_nextToAny 17 = .ok (.iconst 1, 1) := by decide +kernel
theorem dX0_nextToAny_18 : decode cX0_nextToAny 18 = .ok (.if_icmp .ne 12, 3) := by decide +kernel
theorem dX0_nextToAny_21 : decode cX0_nextToAny 21 = .ok (.iload_n 2, 1) := by decide +kernel
theorem dX0_nextToAny_22 : decode cX0_nextToAny 22 = .ok (.aload_n 0, 1) := by decide +kernel
theorem dX0_nextToAny_23 : decode cX0_nextToAny 23 = .ok (.getfield 9, 3) := by decide +kernel
theorem dX0_nextToAny_26 : decode cX0_nextToAny 26 = .ok (.iload_n 3, 1) := by decide +kernel
theorem dX0_nextToAny_27 : decode cX0_nextToAny 27 = .ok (.iaload, 1) := by decide +kernel
theorem dX0_nextToAny_28 : decode cX0_nextToAny 28 = .ok (.ior, 1) := by decide +kernel
theorem dX0_nextToAny_29 : decode cX0_nextToAny 29 = .ok (.istore_n 2, 1) := by decide +kernel
theorem dX0_nextToAny_30 : decode cX0_nextToAny 30 = .ok (.iinc 3 1, 3) := by decide +kernel
theorem dX0_nextToAny_33 : decode cX0_nextToAny 33 = .ok (.goto (-29), 3) := by decide +kernel
theorem dX0_nextToAny_36 : decode cX0_nextToAny 36 = .ok (.iload_n 2, 1) := by decide +kernel
theorem dX0_nextToAny_37 : decode cX0_nextToAny 37 = .ok (.ireturn, 1) := by decide +kernel
theorem dX0_firstStep_0 : decode cX0_firstStep 0 = .ok (.aload_n 0, 1) := by decide +kernel
theorem dX0_firstStep_1 : decode cX0_firstStep 1 = .ok (.iload_n 1, 1) := by decide +kernel
theorem dX0_firstStep_2 : decode cX0_firstStep 2 = .ok (.iload_n 2, 1) := by decide +kernel
theorem dX0_firstStep_3 : decode cX0_firstStep 3 = .ok (.invokevirtual 58, 3) := by decide +kernel
theorem dX0_firstStep_6 : decode cX0_firstStep 6 = .ok (.iconst 1, 1) := by decide +kernel
theorem dX0_firstStep_7 : decode cX0_firstStep 7 = .ok (.isub, 1) := by decide +kernel
theorem dX0_firstStep_8 : decode cX0_firstStep 8 = .ok (.istore_n 3, 1) := by decide +kernel
theorem dX0_firstStep_9 : decode cX0_firstStep 9 = .ok (.iconst 0, 1) := by decide +kernel
theorem dX0_firstStep_10 : decode cX0_firstStep 10 = .ok (.istore 4, 2) := by decide +kernel
theorem dX0_firstStep_12 : decode cX0_firstStep 12 = .ok (.iload 4, 2) := by decide +kernel
theorem dX0_firstStep_14 : decode cX0_firstStep 14 = .ok (.aload_n 0, 1) := by decide +kernel
theorem dX0_firstStep_15 : decode cX0_firstStep 15 = .ok (.getfield 15, 3) := by decide +kernel
theorem dX0_firstStep_18 : decode cX0_firstStep 18 = .ok (.if_icmp .ge 42, 3) := by decide +kernel
theorem dX0_firstStep_21 : decode cX0_firstStep 21 = .ok (.iload_n 3, 1) := by decide +kernel
theorem dX0_firstStep_22 : decode cX0_firstStep 22 = .ok (.ifCond .lt 38, 3) := by decide +kernel
theorem dX0_firstStep_25 : decode cX0_firstStep 25 = .ok (.aload_n 0, 1) := by decide +kernel
theorem dX0_firstStep_26 : decode cX0_firstStep 26 = .ok (.getfield 9, 3) := by decide +kernel
theorem dX0_firstStep_29 : decode cX0_firstStep 29 = .ok (.iload_n 1, 1) := by decide +kernel
theorem dX0_firstStep_30 : decode cX0_firstStep 30 = .ok (.iaload, 1) := by decide +kernel
theorem dX0_firstStep_31 : decode cX0_firstStep 31 = .ok (.iload 4, 2) := by decide +kernel
theorem dX0_firstStep_33 : decode cX0_firstStep 33 = .ok (.ishr, 1) := by decide +kernel
theorem dX0_firstStep_34 : decode cX0_firstStep 34 = .ok (.iconst 1, 1) := by decide +kernel
theorem dX0_firstStep_35 : decode cX0_firstStep 35 = .ok (.iand, 1) := by decide +kernel
theorem dX0_firstStep_36 : decode cX0_firstStep 36 = .ok (.iconst 1, 1) := by decide +kernel
theorem dX0_firstStep_37 : decode cX0_firstStep 37 = .ok (.if_icmp .ne 17, 3) := by decide +kernel
theorem dX0_firstStep_40 : decode cX0_firstStep 40 = .ok (.aload_n 0, 1) := by decide +kernel
theorem dX0_firstStep_41 : decode cX0_firstStep 41 = .ok (.iload 4, 2) := by decide +kernel
theorem dX0_firstStep_43 : decode cX0_firstStep 43 = .ok (.iload_n 2, 1) := by decide +kernel
theorem dX0_firstStep_44 : decode cX0_firstStep 44 = .ok (.invokevirtual 58, 3) := by decide +kernel
theorem dX0_firstStep_47 : decode cX0_firstStep 47 = .ok (.iload_n 3, 1) := by decide +kernel
theorem dX0_firstStep_48 : decode cX0_firstStep 48 = .ok (.if_icmp .ne 6, 3) := by decide +kernel
theorem dX0_firstStep_51 : decode cX0_firstStep 51 = .ok (.iload 4, 2) := by decide +kernel
theorem dX0_firstStep_53 : decode cX0_firstStep 53 = .ok (.ireturn, 1) := by decide +kernel
theorem dX0_firstStep_54 : decode cX0_firstStep 54 = .ok (.iinc 4 1, 3) := by decide +kernel
theorem dX0_firstStep_57 : decode cX0_firstStep 57 = .ok (.goto (-45), 3) := by decide +kernel
theorem dX0_firstStep_60 : decode cX0_firstStep 60 = .ok (.iconst (-1), 1) := by decide +kernel
theorem dX0_firstStep_61 : decode cX0_firstStep 61 = .ok (.ireturn, 1) := by decide +kernel
theorem dX0_greatestLength_0 : decode cX0_greatestLength 0 = .ok (.aload_n 0, 1) := by decide +kernel
theorem dX0_greatestLength_1 : decode cX0_greatestLength 1 = .ok (.getfield 15, 3) := by decide +kernel
theorem dX0_greatestLength_4 : decode cX0_greatestLength 4 = .ok (.ifCond .le 7, 3) := by decide +kernel
theorem dX0_greatestLength_7 : decode cX0_greatestLength 7 = .ok (.iconst 0, 1) := by decide +kernel
theorem dX0_greatestLength_8 : decode cX0_greatestLength 8 = .ok (.goto 4, 3) := by decide +kernel
theorem dX0_greatestLength_11 : decode cX0_greatestLength 11 = .ok (.iconst (-1), 1) := by decide +kernel
theorem dX0_greatestLength_12 : decode cX0_greatestLength 12 = .ok (.istore_n 1, 1) := by decide +kernel
theorem dX0_greatestLength_13 : decode cX0_greatestLength 13 = .ok (.iconst 0, 1) := by decide +kernel
theorem dX0_greatestLength_14 : decode cX0_greatestLength 14 = .ok (.istore_n 2, 1) := by decide +kernel
theorem dX0_greatestLength_15 : decode cX0_greatestLength 15 = .ok (.iload_n 2, 1) := by decide +kernel
theorem dX0_greatestLength_16 : decode cX0_greatestLength 16 = .ok (.aload_n 0, 1) := by decide +kernel
theorem dX0_greatestLength_17 : decode cX0_greatestLength 17 = .ok (.getfield 15, 3) := by decide +kernel
theorem dX0_greatestLength_20 : decode cX0_greatestLength 20 = .ok (.if_icmp .ge 45, 3) := by decide +kernel
theorem dX0_greatestLength_23 : decode cX0_greatestLength 23 = .ok (.iconst 0, 1) := by decide +kernel
theorem dX0_greatestLength_24 : decode cX0_greatestLength 24 = .ok (.istore_n 3, 1) := by decide +kernel
theorem dX0_greatestLength_25 : decode cX0_greatestLength 25 = .ok (.iload_n 3, 1) := by decide +kernel
theorem dX0_greatestLength_26 : decode cX0_greatestLength 26 = .ok (.iload_n 2, 1) := by decide +kernel
theorem dX0_greatestLength_27 : decode cX0_greatestLength 27 = .ok (.if_icmp .ge 32, 3) := by decide +kernel
theorem dX0_greatestLength_30 : decode cX0_greatestLength 30 = .ok (.aload_n 0, 1) := by decide +kernel
theorem dX0_greatestLength_31 : decode cX0_greatestLength 31 = .ok (.iload_n 2, 1) := by decide +kernel
theorem dX0_greatestLength_32 : decode cX0_greatestLength 32 = .ok (.iload_n 3, 1) := by decide +kernel
theorem dX0_greatestLength_33 : decode cX0_greatestLength 33 = .ok (.invokevirtual 58, 3) := by decide +kernel
theorem dX0_greatestLength_36 : decode cX0_greatestLength 36 = .ok (.istore 4, 2) := by decide +kernel
theorem dX0_greatestLength_38 : decode cX0_greatestLength 38 = .ok (.iload 4, 2) := by decide +kernel
theorem dX0_greatestLength_40 : decode cX0_greatestLength 40 = .ok (.iconst (-1), 1) := by decide +kernel
theorem dX0_greatestLength_41 : decode cX0_greatestLength 41 = .ok (.if_icmp .ne 5, 3) := by decide +kernel
theorem dX0_greatestLength_44 : decode cX0_greatestLength 44 = .ok (.iconst (-1), 1) := by decide +kernel
theorem dX0_greatestLength_45 : decode cX0_greatestLength 45 = .ok (.ireturn, 1) := by decide +kernel
theorem dX0_greatestLength_46 : decode cX0_greatestLength 46 = .ok (.iload_n 1, 1) := by decide +kernel
theorem dX0_greatestLength_47 : decode cX0_greatestLength 47 = .ok (.iload 4, 2) := by decide +kernel
theorem dX0_greatestLength_49 : decode cX0_greatestLength 49 = .ok (.invokestatic 62, 3) := by decide +kernel
theorem dX0_greatestLength_52 : decode cX0_greatestLength 52 = .ok (.istore_n 1, 1) := by decide +kernel
theorem dX0_greatestLength_53 : decode cX0_greatestLength 53 = .ok (.iinc 3 1, 3) := by decide +kernel
theorem dX0_greatestLength_56 : decode cX0_greatestLength 56 = .ok (.goto (-31), 3) := by decide +kernel
theorem dX0_greatestLength_59 : decode cX0_greatestLength 59 = .ok (.iinc 2 1, 3) := by decide +kernel
theorem dX0_greatestLength_62 : decode cX0_greatestLength 62 = .ok (.goto (-47), 3) := by decide +kernel
theorem dX0_greatestLength_65 : decode cX0_greatestLength 65 = .ok (.iload_n 1, 1) := by decide +kernel
theorem dX0_greatestLength_66 : decode cX0_greatestLength 66 = .ok (.ireturn, 1) := by decide +kernel
theorem dX1_init_0 : decode cX1_init 0 = .ok (.aload_n 0, 1) := by decide +kernel
theorem dX1_init_1 : decode cX1_init 1 = .ok (.invokespecial 3, 3) := by decide +kernel
theorem dX1_init_4 : decode cX1_init 4 = .ok (.aload_n 0, 1) := by decide +kernel
theorem dX1_init_5 : decode cX1_init 5 = .ok (.bipush 8, 2) := by decide +kernel
theorem dX1_init_7 : decode cX1_init 7 = .ok (.anewarray 9, 3) := by decide +kernel
theorem dX1_init_10 : decode cX1_init 10 = .ok (.putfield 11, 3) := by decide +kernel
theorem dX1_init_13 : decode cX1_init 13 = .ok (.aload_n 0, 1) := by decide +kernel
theorem dX1_init_14 : decode cX1_init 14 = .ok (.iconst 0, 1) := by decide +kernel
theorem dX1_init_15 : decode cX1_init 15 = .ok (.putfield 17, 3) := by decide +kernel
theorem dX1_init_18 : decode cX1_init 18 = .ok (.aload_n 0, 1) := by decide +kernel
theorem dX1_init_19 : decode cX1_init 19 = .ok (.iconst 0, 1) := by decide +kernel
theorem dX1_init_20 : decode cX1_init 20 = .ok (.putfield 21, 3) := by decide +kernel
theorem dX1_init_23 : decode cX1_init 23 = .ok (.iconst 0, 1) := by decide +kernel
theorem dX1_init_24 : decode cX1_init 24 = .ok (.istore_n 1, 1) := by decide +kernel
theorem dX1_init_25 : decode cX1_init 25 = .ok (.iload_n 1, 1) := by decide +kernel
theorem dX1_init_26 : decode cX1_init 26 = .ok (.bipush 8, 2) := by decide +kernel
theorem dX1_init_28 : decode cX1_init 28 = .ok (.if_icmp .ge 22, 3) := by decide +kernel
theorem dX1_init_31 : decode cX1_init 31 = .ok (.aload_n 0, 1) := by decide +kernel
theorem dX1_init_32 : decode cX1_init 32 = .ok (.getfield 11, 3) := by decide +kernel
theorem dX1_init_35 : decode cX1_init 35 = .ok (.iload_n 1, 1) := by decide +kernel
theorem dX1_init_36 : decode cX1_init 36 = .ok (.new 9, 3) := by decide +kernel
theorem dX1_init_39 : decode cX1_init 39 = .ok (.dup, 1) := by decide +kernel
theorem dX1_init_40 : decode cX1_init 40 = .ok (.invokespecial 24, 3) := by decide +kernel
theorem dX1_init_43 : decode cX1_init 43 = .ok (.aastore, 1) := by decide +kernel
theorem dX1_init_44 : decode cX1_init 44 = .ok (.iinc 1 1, 3) := by decide +kernel
theorem dX1_init_47 : decode cX1_init 47 = .ok (.goto (-22), 3) := by decide +kernel
theorem dX1_init_50 : decode cX1_init 50 = .ok (.return_, 1) := by decide +kernel
theorem dX1_add_0 : decode cX1_add 0 = .ok (.aload_n 0, 1) := by decide +kernel
theorem dX1_add_1 : decode cX1_add 1 = .ok (.getfield 21, 3) := by decide +kernel
theorem dX1_add_4 : decode cX1_add 4 = .ok (.bipush 8, 2) := by decide +kernel
theorem dX1_add_6 : decode cX1_add 6 = .ok (.if_icmp .ne 26, 3) := by decide +kernel
theorem dX1_add_9 : decode cX1_add 9 = .ok (.aload_n 0, 1) := by decide +kernel
theorem dX1_add_10 : decode cX1_add 10 = .ok (.aload_n 0, 1) := by decide +kernel
theorem dX1_add_11 : decode cX1_add 11 = .ok (.getfield 17, 3) := by decide +kernel
theorem dX1_add_14 : decode cX1_add 14 = .ok (.iconst 1, 1) := by decide +kernel
theorem dX1_add_15 : decode cX1_add 15 = .ok (.iadd, 1) := by decide +kernel
theorem dX1_add_16 : decode cX1_add 16 = .ok (.bipush 8, 2) := by decide +kernel
theorem dX1_add_18 : decode cX1_add 18 = .ok (.irem, 1) := by decide +kernel
theorem dX1_add_19 : decode cX1_add 19 = .ok (.putfield 17, 3) := by decide +kernel
theorem dX1_add_22 : decode cX1_add 22 = .ok (.aload_n 0, 1) := by decide +kernel
theorem dX1_add_23 : decode cX1_add 23 = .ok (.dup, 1) := by decide +kernel
theorem dX1_add_24 : decode cX1_add 24 = .ok (.getfield 21, 3) := by decide +kernel
theorem dX1_add_27 : decode cX1_add 27 = .ok (.iconst 1, 1) := by decide +kernel
theorem dX1_add_28 : decode cX1_add 28 = .ok (.isub, 1) := by decide +kernel
theorem dX1_add_29 : decode cX1_add 29 = .ok (.putfield 21, 3) := by decide +kernel
theorem dX1_add_32 : decode cX1_add 32 = .ok (.aload_n 0, 1) := by decide +kernel
theorem dX1_add_33 : decode cX1_add 33 = .ok (.getfield 11, 3) := by decide +kernel
theorem dX1_add_36 : decode cX1_add 36 = .ok (.aload_n 0, 1) := by decide +kernel
theorem dX1_add_37 : decode cX1_add 37 = .ok (.getfield 17, 3) := by decide +kernel
theorem dX1_add_40 : decode cX1_add 40 = .ok (.aload_n 0, 1) := by decide +kernel
theorem dX1_add_41 : decode cX1_add 41 = .ok (.getfield 21, 3) := by decide +kernel
theorem dX1_add_44 : decode cX1_add 44 = .ok (.iadd, 1) := by decide +kernel
theorem dX1_add_45 : decode cX1_add 45 = .ok (.bipush 8, 2) := by decide +kernel
theorem dX1_add_47 : decode cX1_add 47 = .ok (.irem, 1) := by decide +kernel
theorem dX1_add_48 : decode cX1_add 48 = .ok (.aaload, 1) := by decide +kernel
theorem dX1_add_49 : decode cX1_add 49 = .ok (.aload_n 1, 1) := by decide +kernel
theorem dX1_add_50 : decode cX1_add 50 = .ok (.invokevirtual 25, 3) := by decide +kernel
theorem dX1_add_53 : decode cX1_add 53 = .ok (.aload_n 0, 1) := by decide +kernel
theorem dX1_add_54 : decode cX1_add 54 = .ok (.dup, 1) := by decide +kernel
theorem dX1_add_55 : decode cX1_add 55 = .ok (.getfield 21, 3) := by decide +kernel
theorem dX1_add_58 : decode cX1_add 58 = .ok (.iconst 1, 1) := by decide +kernel
theorem dX1_add_59 : decode cX1_add 59 = .ok (.iadd, 1) := by decide +kernel
theorem dX1_add_60 : decode cX1_add 60 = .ok (.putfield 21, 3) := by decide +kernel
theorem dX1_add_63 : decode cX1_add 63 = .ok (.return_, 1) := by decide +kernel
theorem dX1_takeLatest_0 : decode cX1_takeLatest 0 = .ok (.aload_n 0, 1) := by decide +kernel
theorem dX1_takeLatest_1 : decode cX1_takeLatest 1 = .ok (.getfield 21, 3) := by decide +kernel
theorem dX1_takeLatest_4 : decode cX1_takeLatest 4 = .ok (.ifCond .le 13, 3) := by decide +kernel
theorem dX1_takeLatest_7 : decode cX1_takeLatest 7 = .ok (.aload_n 0, 1) := by decide +kernel
theorem dX1_takeLatest_8 : decode cX1_takeLatest 8 = .ok (.dup, 1) := by decide +kernel
theorem dX1_takeLatest_9 : decode cX1_takeLatest 9 = .ok (.getfield 21, 3) := by decide +kernel
theorem dX1_takeLatest_12 : decode cX1_takeLatest 12 = .ok (.iconst 1, 1) := by decide +kernel
theorem dX1_takeLatest_13 : decode cX1_takeLatest 13 = .ok (.isub, 1) := by decide +kernel
theorem dX1_takeLatest_14 : decode cX1_takeLatest 14 = .ok (.putfield 21, 3) := by decide +kernel
theorem dX1_takeLatest_17 : decode cX1_takeLatest 17 = .ok (.aload_n 0, 1) := by decide +kernel
theorem dX1_takeLatest_18 : decode cX1_takeLatest 18 = .ok (.getfield 11, 3) := by decide +kernel
theorem dX1_takeLatest_21 : decode cX1_takeLatest 21 = .ok (.aload_n 0, 1) := by decide +kernel
theorem dX1_takeLatest_22 : decode cX1_takeLatest 22 = .ok (.getfield 17, 3) := by decide +kernel
theorem dX1_takeLatest_25 : decode cX1_takeLatest 25 = .ok (.aload_n 0, 1) := by decide +kernel
theorem dX1_takeLatest_26 : decode cX1_takeLatest 26 = .ok (.getfield 21, 3) := by decide +kernel
theorem dX1_takeLatest_29 : decode cX1_takeLatest 29 = .ok (.iadd, 1) := by decide +kernel
theorem dX1_takeLatest_30 : decode cX1_takeLatest 30 = .ok (.bipush 8, 2) := by decide +kernel
theorem dX1_takeLatest_32 : decode cX1_takeLatest 32 = .ok (.irem, 1) := by decide +kernel
theorem dX1_takeLatest_33 : decode cX1_takeLatest 33 = .ok (.aaload, 1) := by decide +kernel
theorem dX1_takeLatest_34 : decode cX1_takeLatest 34 = .ok (.areturn, 1) := by decide +kernel
theorem dX2_init_0 : decode cX2_init 0 = .ok (.aload_n 0, 1) := by decide +kernel
theorem dX2_init_1 : decode cX2_init 1 = .ok (.invokespecial 3, 3) := by decide +kernel
theorem dX2_init_4 : decode cX2_init 4 = .ok (.aload_n 0, 1) := by decide +kernel
theorem dX2_init_5 : decode cX2_init 5 = .ok (.bipush 10, 2) := by decide +kernel
theorem dX2_init_7 : decode cX2_init 7 = .ok (.newarray .int, 2) := by decide +kernel
theorem dX2_init_9 : decode cX2_init 9 = .ok (.putfield 9, 3) := by decide +kernel
theorem dX2_init_12 : decode cX2_init 12 = .ok (.aload_n 0, 1) := by decide +kernel
theorem dX2_init_13 : decode cX2_init 13 = .ok (.iconst 1, 1) := by decide +kernel
theorem dX2_init_14 : decode cX2_init 14 = .ok (.putfield 15, 3) := by decide +kernel
theorem dX2_init_17 : decode cX2_init 17 = .ok (.aload_n 0, 1) := by decide +kernel
theorem dX2_init_18 : decode cX2_init 18 = .ok (.iconst 0, 1) := by decide +kernel
theorem dX2_init_19 : decode cX2_init 19 = .ok (.putfield 19, 3) := by decide +kernel
theorem dX2_init_22 : decode cX2_init 22 = .ok (.return_, 1) := by decide +kernel
theorem dX2_copyFrom_0 : decode cX2_copyFrom 0 = .ok (.aload_n 0, 1) := by decide +kernel
theorem dX2_copyFrom_1 : decode cX2_copyFrom 1 = .ok (.aload_n 1, 1) := by decide +kernel
theorem dX2_copyFrom_2 : decode cX2_copyFrom 2 = .ok (.getfield 15, 3) := by decide +kernel
theorem dX2_copyFrom_5 : decode cX2_copyFrom 5 = .ok (.putfield 15, 3) := by decide +kernel
theorem dX2_copyFrom_8 : decode cX2_copyFrom 8 = .ok (.aload_n 0, 1) := by decide +kernel
theorem dX2_copyFrom_9 : decode cX2_copyFrom 9 = .ok (.aload_n 1, 1) := by decide +kernel
theorem dX2_copyFrom_10 : decode cX2_copyFrom 10 = .ok (.getfield 19, 3) := by decide +kernel
theorem dX2_copyFrom_13 : decode cX2_copyFrom 13 = .ok (.putfield 19, 3) := by decide +kernel
theorem dX2_copyFrom_16 : decode cX2_copyFrom 16 = .ok (.aload_n 1, 1) := by decide +kernel
theorem dX2_copyFrom_17 : decode cX2_copyFrom 17 = .ok (.getfield 9, 3) := by decide +kernel
theorem dX2_copyFrom_20 : decode cX2_copyFrom 20 = .ok (.iconst 0, 1) := by decide +kernel
theorem dX2_copyFrom_21 : decode cX2_copyFrom 21 = .ok (.aload_n 0, 1) := by decide +kernel
theorem dX2_copyFrom_22 : decode cX2_copyFrom 22 = .ok (.getfield 9, 3) := by decide +kernel
theorem dX2_copyFrom_25 : decode cX2_copyFrom 25 = .ok (.iconst 0, 1) := by decide +kernel
theorem dX2_copyFrom_26 : decode cX2_copyFrom 26 = .ok (.bipush 10, 2) := by decide +kernel
theorem dX2_copyFrom_28 : decode cX2_copyFrom 28 = .ok (.invokestatic 22, 3) := by decide +kernel
theorem dX2_copyFrom_31 : decode cX2_copyFrom 31 = .ok (.return_, 1) := by decide +kernel
theorem dX2_clear_0 : decode cX2_clear 0 = .ok (.aload_n 0, 1) := by decide +kernel
theorem dX2_clear_1 : decode cX2_clear 1 = .ok (.iload_n 1, 1) := by decide +kernel
theorem dX2_clear_2 : decode cX2_clear 2 = .ok (.putfield 15, 3) := by decide +kernel
theorem dX2_clear_5 : decode cX2_clear 5 = .ok (.aload_n 0, 1) := by decide +kernel
theorem dX2_clear_6 : decode cX2_clear 6 = .ok (.iconst 0, 1) := by decide +kernel
theorem dX2_clear_7 : decode cX2_clear 7 = .ok (.putfield 19, 3) := by decide +kernel
theorem dX2_clear_10 : decode cX2_clear 10 = .ok (.return_, 1) := by decide +kernel
theorem dX2_add_0 : decode cX2_add 0 = .ok (.aload_n 0, 1) := by decide +kernel
theorem dX2_add_1 : decode cX2_add 1 = .ok (.getfield 19, 3) := by decide +kernel
theorem dX2_add_4 : decode cX2_add 4 = .ok (.bipush 10, 2) := by decide +kernel
theorem dX2_add_6 : decode cX2_add 6 = .ok (.if_icmp .ge 23, 3) := by decide +kernel
theorem dX2_add_9 : decode cX2_add 9 = .ok (.aload_n 0, 1) := by decide +kernel
theorem dX2_add_10 : decode cX2_add 10 = .ok (.getfield 9, 3) := by decide +kernel
theorem dX2_add_13 : decode cX2_add 13 = .ok (.aload_n 0, 1) := by decide +kernel
theorem dX2_add_14 : decode cX2_add 14 = .ok (.getfield 19, 3) := by decide +kernel
theorem dX2_add_17 : decode cX2_add 17 = .ok (.iload_n 1, 1) := by decide +kernel
theorem dX2_add_18 : decode cX2_add 18 = .ok (.iastore, 1) := by decide +kernel
theorem dX2_add_19 : decode cX2_add 19 = .ok (.aload_n 0, 1) := by decide +kernel
theorem dX2_add_20 : decode cX2_add 20 = .ok (.dup, 1) := by decide +kernel
theorem dX2_add_21 : decode cX2_add 21 = .ok (.getfield 19, 3) := by decide +kernel
theorem dX2_add_24 : decode cX2_add 24 = .ok (.iconst 1, 1) := by decide +kernel
theorem dX2_add_25 : decode cX2_add 25 = .ok (.iadd, 1) := by decide +kernel
theorem dX2_add_26 : decode cX2_add 26 = .ok (.putfield 19, 3) := by decide +kernel
theorem dX2_add_29 : decode cX2_add 29 = .ok (.return_, 1) := by decide +kernel
theorem dX2_remove_0 : decode cX2_remove 0 = .ok (.iload_n 1, 1) := by decide +kernel
theorem dX2_remove_1 : decode cX2_remove 1 = .ok (.istore_n 2, 1) := by decide +kernel
theorem dX2_remove_2 : decode cX2_remove 2 = .ok (.iload_n 2, 1) := by decide +kernel
theorem dX2_remove_3 : decode cX2_remove 3 = .ok (.iconst 1, 1) := by decide +kernel
theorem dX2_remove_4 : decode cX2_remove 4 = .ok (.iadd, 1) := by decide +kernel
theorem dX2_remove_5 : decode cX2_remove 5 = .ok (.aload_n 0, 1) := by decide +kernel
theorem dX2_remove_6 : decode cX2_remove 6 = .ok (.getfield 19, 3) := by decide +kernel
theorem dX2_remove_9 : decode cX2_remove 9 = .ok (.if_icmp .ge 23, 3) := by decide +kernel
theorem dX2_remove_12 : decode cX2_remove 12 = .ok (.aload_n 0, 1) := by decide +kernel
theorem dX2_remove_13 : decode cX2_remove 13 = .ok (.getfield 9, 3) := by decide +kernel
theorem dX2_remove_16 : decode cX2_remove 16 = .ok (.iload_n 2, 1) := by decide +kernel
theorem dX2_remove_17 : decode cX2_remove 17 = .ok (.aload_n 0, 1) := by decide +kernel
theorem dX2_remove_18 : decode cX2_remove 18 = .ok (.getfield 9, 3) := by decide +kernel
theorem dX2_remove_21 : decode cX2_remove 21 = .ok (.iload_n 2, 1) := by decide +kernel
theorem dX2_remove_22 : decode cX2_remove 22 = .ok (.iconst 1, 1) := by decide +kernel
theorem dX2_remove_23 : decode cX2_remove 23 = .ok (.iadd, 1) := by decide +kernel
theorem dX2_remove_24 : decode cX2_remove 24 = .ok (.iaload, 1) := by decide +kernel
theorem dX2_remove_25 : decode cX2_remove 25 = .ok (.iastore, 1) := by decide +kernel
theorem dX2_remove_26 : decode cX2_remove 26 = .ok (.iinc 2 1, 3) := by decide +kernel
theorem dX2_remove_29 : decode cX2_remove 29 = .ok (.goto (-27), 3) := by decide +kernel
theorem dX2_remove_32 : decode cX2_remove 32 = .ok (.aload_n 0, 1) := by decide +kernel
theorem dX2_remove_33 : decode cX2_remove 33 = .ok (.dup, 1) := by decide +kernel
theorem dX2_remove_34 : decode cX2_remove 34 = .ok (.getfield 19, 3) := by decide +kernel
theorem dX2_remove_37 : decode cX2_remove 37 = .ok (.iconst 1, 1) := by decide +kernel
theorem dX2_remove_38 : decode cX2_remove 38 = .ok (.isub, 1) := by decide +kernel
theorem dX2_remove_39 : decode cX2_remove 39 = .ok (.putfield 19, 3) := by decide +kernel
theorem dX2_remove_42 : decode cX2_remove 42 = .ok (.return_, 1) := by decide +kernel
theorem dX2_has_0 : decode cX2_has 0 = .ok (.aload_n 0, 1) := by decide +kernel
theorem dX2_has_1 : decode cX2_has 1 = .ok (.getfield 9, 3) := by decide +kernel
theorem dX2_has_4 : decode cX2_has 4 = .ok (.iload_n 1, 1) := by decide +kernel
theorem dX2_has_5 : decode cX2_has 5 = .ok (.iaload, 1) := by decide +kernel
theorem dX2_has_6 : decode cX2_has 6 = .ok (.iload_n 2, 1) := by decide +kernel
theorem dX2_has_7 : decode cX2_has 7 = .ok (.ishr, 1) := by decide +kernel
theorem dX2_has_8 : decode cX2_has 8 = .ok (.iconst 1, 1) := by decide +kernel
theorem dX2_has_9 : decode cX2_has 9 = .ok (.iand, 1) := by decide +kernel
theorem dX2_has_10 : decode cX2_has 10 = .ok (.iconst 1, 1) := by decide +kernel
theorem dX2_has_11 : decode cX2_has 11 = .ok (.if_icmp .ne 7, 3) := by decide +kernel
theorem dX2_has_14 : decode cX2_has 14 = .ok (.iconst 1, 1) := by decide +kernel
theorem dX2_has_15 : decode cX2_has 15 = .ok (.goto 4, 3) := by decide +kernel
theorem dX2_has_18 : decode cX2_has 18 = .ok (.iconst 0, 1) := by decide +kernel
theorem dX2_has_19 : decode cX2_has 19 = .ok (.ireturn, 1) := by decide +kernel
theorem dX2_put_0 : decode cX2_put 0 = .ok (.iconst 1, 1) := by decide +kernel
theorem dX2_put_1 : decode cX2_put 1 = .ok (.iload_n 2, 1) := by decide +kernel
theorem dX2_put_2 : decode cX2_put 2 = .ok (.ishl, 1) := by decide +kernel
theorem dX2_put_3 : decode cX2_put 3 = .ok (.istore 4, 2) := by decide +kernel
theorem dX2_put_5 : decode cX2_put 5 = .ok (.aload_n 0, 1) := by decide +kernel
theorem dX2_put_6 : decode cX2_put 6 = .ok (.getfield 9, 3) := by decide +kernel
theorem dX2_put_9 : decode cX2_put 9 = .ok (.iload_n 1, 1) := by decide +kernel
theorem dX2_put_10 : decode cX2_put 10 = .ok (.iload_n 3, 1) := by decide +kernel
theorem dX2_put_11 : decode cX2_put 11 = .ok (.ifCond .eq 15, 3) := by decide +kernel
theorem dX2_put_14 : decode cX2_put 14 = .ok (.aload_n 0, 1) := by decide +kernel
theorem dX2_put_15 : decode cX2_put 15 = .ok (.getfield 9, 3) := by decide +kernel
theorem dX2_put_18 : decode cX2_put 18 = .ok (.iload_n 1, 1) := by decide +kernel
theorem dX2_put_19 : decode cX2_put 19 = .ok (.iaload, 1) := by decide +kernel
theorem dX2_put_20 : decode cX2_put 20 = .ok (.iload 4, 2) := by decide +kernel
theorem dX2_put_22 : decode cX2_put 22 = .ok (.ior, 1) := by decide +kernel
theorem dX2_put_23 : decode cX2_put 23 = .ok (.goto 14, 3) := by decide +kernel
theorem dX2_put_26 : decode cX2_put 26 = .ok (.aload_n 0, 1) := by decide +kernel
theorem dX2_put_27 : decode cX2_put 27 = .ok (.getfield 9, 3) := by decide +kernel
theorem dX2_put_30 : decode cX2_put 30 = .ok (.iload_n 1, 1) := by decide +kernel
theorem dX2_put_31 : decode cX2_put 31 = .ok (.iaload, 1) := by decide +kernel
theorem dX2_put_32 : decode cX2_put 32 = .ok (.iload 4, 2) := by decide +kernel
theorem dX2_put_34 : decode cX2_put 34 = .ok (.iconst (-1), 1) := by decide +kernel
theorem dX2_put_35 : decode cX2_put 35 = .ok (.ixor, 1) := by decide +kernel
theorem dX2_put_36 : decode cX2_put 36 = .ok (.iand, 1) := by decide +kernel
theorem dX2_put_37 : decode cX2_put 37 = .ok (.iastore, 1) := by decide +kernel
theorem dX2_put_38 : decode cX2_put 38 = .ok (.return_, 1) := by decide +kernel
theorem dX2_allPoints_0 : decode cX2_allPoints 0 = .ok (.iconst 1, 1) := by decide +kernel
theorem dX2_allPoints_1 : decode cX2_allPoints 1 = .ok (.aload_n 0, 1) := by decide +kernel
theorem dX2_allPoints_2 : decode cX2_allPoints 2 = .ok (.getfield 15, 3) := by decide +kernel
theorem dX2_allPoints_5 : decode cX2_allPoints 5 = .ok (.ishl, 1) := by decide +kernel
theorem dX2_allPoints_6 : decode cX2_allPoints 6 = .ok (.iconst 1, 1) := by decide +kernel
theorem dX2_allPoints_7 : decode cX2_allPoints 7 = .ok (.isub, 1) := by decide +kernel
theorem dX2_allPoints_8 : decode cX2_allPoints 8 = .ok (.ireturn, 1) := by decide +kernel
theorem dX2_isSet_0 : decode cX2_isSet 0 = .ok (.iload_n 1, 1) := by decide +kernel
theorem dX2_isSet_1 : decode cX2_isSet 1 = .ok (.aload_n 0, 1) := by decide +kernel
theorem dX2_isSet_2 : decode cX2_isSet 2 = .ok (.invokevirtual 28, 3) := by decide +kernel
theorem dX2_isSet_5 : decode cX2_isSet 5 = .ok (.iconst (-1), 1) := by decide +kernel
theorem dX2_isSet_6 : decode cX2_isSet 6 = .ok (.ixor, 1) := by decide +kernel
theorem dX2_isSet_7 : decode cX2_isSet 7 = .ok (.iand, 1) := by decide +kernel
theorem dX2_isSet_8 : decode cX2_isSet 8 = .ok (.ifCond .ne 7, 3) := by decide +kernel
theorem dX2_isSet_11 : decode cX2_isSet 11 = .ok (.iconst 1, 1) := by decide +kernel
theorem dX2_isSet_12 : decode cX2_isSet 12 = .ok (.goto 4, 3) := by decide +kernel
theorem dX2_isSet_15 : decode cX2_isSet 15 = .ok (.iconst 0, 1) := by decide +kernel
theorem dX2_isSet_16 : decode cX2_isSet 16 = .ok (.ireturn, 1) := by decide +kernel
theorem dX2_holders_0 : decode cX2_holders 0 = .ok (.iconst 0, 1) := by decide +kernel
theorem dX2_holders_1 : decode cX2_holders 1 = .ok (.istore_n 2, 1) := by decide +kernel
theorem dX2_holders_2 : decode cX2_holders 2 = .ok (.iconst 0, 1) := by decide +kernel
theorem dX2_holders_3 : decode cX2_holders 3 = .ok (.istore_n 3, 1) := by decide +kernel
theorem dX2_holders_4 : decode cX2_holders 4 = .ok (.iload_n 3, 1) := by decide +kernel
theorem dX2_holders_5 : decode cX2_holders 5 = .ok (.aload_n 0, 1) := by decide +kernel
theorem dX2_holders_6 : decode cX2_holders 6 = .ok (.getfield 19, 3) := by decide +kernel
theorem dX2_holders_9 : decode cX2_holders 9 = .ok (.if_icmp .ge 24, 3) := by decide +kernel
theorem dX2_holders_12 : decode cX2_holders 12 = .ok (.aload_n 0, 1) := by decide +kernel
theorem dX2_holders_13 : decode cX2_holders 13 = .ok (.iload_n 3, 1) := by decide +kernel
theorem dX2_holders_14 : decode cX2_holders 14 = .ok (.iload_n 1, 1) := by decide +kernel
theorem dX2_holders_15 : decode cX2_holders 15 = .ok (.invokevirtual 32, 3) := by decide +kernel
theorem dX2_holders_18 : decode cX2_holders 18 = .ok (.ifCond .eq 9, 3) := by decide +kernel
theorem dX2_holders_21 : decode cX2_holders 21 = .ok (.iload_n 2, 1) := by decide +kernel
theorem dX2_holders_22 : decode cX2_holders 22 = .ok (.iconst 1, 1) := by decide +kernel
theorem dX2_holders_23 : decode cX2_holders 23 = .ok (.iload_n 3, 1) := by decide +kernel
theorem dX2_holders_24 : decode cX2_holders 24 = .ok (.ishl, 1) := by decide +kernel
theorem dX2_holders_25 : decode cX2_holders 25 = .ok (.ior, 1) := by decide +kernel
theorem dX2_holders_26 : decode cX2_holders 26 = .ok (.istore_n 2, 1) := by decide +kernel
theorem dX2_holders_27 : decode cX2_holders 27 = .ok (.iinc 3 1, 3) := by decide +kernel
theorem dX2_holders_30 : decode cX2_holders 30 = .ok (.goto (-26), 3) := by decide +kernel
theorem dX2_holders_33 : decode cX2_holders 33 = .ok (.iload_n 2, 1) := by decide +kernel
theorem dX2_holders_34 : decode cX2_holders 34 = .ok (.ireturn, 1) := by decide +kernel
theorem dX2_closureOf_0 : decode cX2_closureOf 0 = .ok (.aload_n 0, 1) := by decide +kernel
theorem dX2_closureOf_1 : decode cX2_closureOf 1 = .ok (.invokevirtual 28, 3) := by decide +kernel
theorem dX2_closureOf_4 : decode cX2_closureOf 4 = .ok (.istore_n 2, 1) := by decide +kernel
theorem dX2_closureOf_5 : decode cX2_closureOf 5 = .ok (.iconst 0, 1) := by decide +kernel
theorem dX2_closureOf_6 : decode cX2_closureOf 6 = .ok (.istore_n 3, 1) := by decide +kernel
theorem dX2_closureOf_7 : decode cX2_closureOf 7 = .ok (.iload_n 3, 1) := by decide +kernel
theorem dX2_closureOf_8 : decode cX2_closureOf 8 = .ok (.aload_n 0, 1) := by decide +kernel
theorem dX2_closureOf_9 : decode cX2_closureOf 9 = .ok (.getfield 19, 3) := by decide +kernel
theorem dX2_closureOf_12 : decode cX2_closureOf 12 = .ok (.if_icmp .ge 31, 3) := by decide +kernel
theorem dX2_closureOf_15 : decode cX2_closureOf 15 = .ok (.iload_n 1, 1) := by decide +kernel
theorem dX2_closureOf_16 : decode cX2_closureOf 16 = .ok (.aload_n 0, 1) := by decide +kernel
theorem dX2_closureOf_17 : decode cX2_closureOf 17 = .ok (.getfield 9, 3) := by decide +kernel
theorem dX2_closureOf_20 : decode cX2_closureOf 20 = .ok (.iload_n 3, 1) := by decide +kernel
theorem dX2_closureOf_21 : decode cX2_closureOf 21 = .ok (.iaload, 1) := by decide +kernel
theorem dX2_closureOf_22 : decode cX2_closureOf 22 = .ok (.iconst (-1), 1) := by decide +kernel
theorem dX2_closureOf_23 : decode cX2_closureOf 23 = .ok (.ixor, 1) := by decide +kernel
theorem dX2_closureOf_24 : decode cX2_closureOf 24 = .ok (.iand, 1) := by decide +kernel
theorem dX2_closureOf_25 : decode cX2_closureOf 25 = .ok (.ifCond .ne 12, 3) := by decide +kernel
theorem dX2_closureOf_28 : decode cX2_closureOf 28 = .ok (.iload_n 2, 1) := by decide +kernel
theorem dX2_closureOf_29 : decode cX2_closureOf 29 = .ok (.aload_n 0, 1) := by decide +kernel
theorem dX2_closureOf_30 : decode cX2_closureOf 30 = .ok (.getfield 9, 3) := by decide +kernel
theorem dX2_closureOf_33 : decode cX2_closureOf 33 = .ok (.iload_n 3, 1) := by decide +kernel
theorem dX2_closureOf_34 : decode cX2_closureOf 34 = .ok (.iaload, 1) := by decide +kernel
theorem dX2_closureOf_35 : decode cX2_closureOf 35 = .ok (.iand, 1) := by decide +kernel
theorem dX2_closureOf_36 : decode cX2_closureOf 36 = .ok (.istore_n 2, 1) := by decide +kernel
theorem dX2_closureOf_37 : decode cX2_closureOf 37 = .ok (.iinc 3 1, 3) := by decide +kernel
theorem dX2_closureOf_40 : decode cX2_closureOf 40 = .ok (.goto (-33), 3) := by decide +kernel
theorem dX2_closureOf_43 : decode cX2_closureOf 43 = .ok (.iload_n 2, 1) := by decide +kernel
theorem dX2_closureOf_44 : decode cX2_closureOf 44 = .ok (.ireturn, 1) := by decide +kernel
theorem dX2_renumbered_0 : decode cX2_renumbered 0 = .ok (.iconst 0, 1) := by decide +kernel
theorem dX2_renumbered_1 : decode cX2_renumbered 1 = .ok (.istore_n 2, 1) := by decide +kernel
theorem dX2_renumbered_2 : decode cX2_renumbered 2 = .ok (.iconst 0, 1) := by decide +kernel
theorem dX2_renumbered_3 : decode cX2_renumbered 3 = .ok (.istore_n 3, 1) := by decide +kernel
theorem dX2_renumbered_4 : decode cX2_renumbered 4 = .ok (.iconst 0, 1) := by decide +kernel
theorem dX2_renumbered_5 : decode cX2_renumbered 5 = .ok (.istore 4, 2) := by decide +kernel
theorem dX2_renumbered_7 : decode cX2_renumbered 7 = .ok (.iload 4, 2) := by decide +kernel
theorem dX2_renumbered_9 : decode cX2_renumbered 9 = .ok (.bipush 8, 2) := by decide +kernel
theorem dX2_renumbered_11 : decode cX2_renumbered 11 = .ok (.if_icmp .ge 33, 3) := by decide +kernel
theorem dX2_renumbered_14 : decode cX2_renumbered 14 = .ok (.iload_n 1, 1) := by decide +kernel
theorem dX2_renumbered_15 : decode cX2_renumbered 15 = .ok (.iload 4, 2) := by decide +kernel
theorem dX2_renumbered_17 : decode cX2_renumbered 17 = .ok (.ishr, 1) := by decide +kernel
theorem dX2_renumbered_18 : decode cX2_renumbered 18 = .ok (.iconst 1, 1) := by decide +kernel
theorem dX2_renumbered_19 : decode cX2_renumbered 19 = .ok (.iand, 1) := by decide +kernel
theorem dX2_renumbered_20 : decode cX2_renumbered 20 = .ok (.iconst 1, 1) := by decide +kernel
theorem dX2_renumbered_21 : decode cX2_renumbered 21 = .ok (.if_icmp .ne 17, 3) := by decide +kernel
theorem dX2_renumbered_24 : decode cX2_renumbered 24 = .ok (.iload_n 2, 1) := by decide +kernel
theorem dX2_renumbered_25 : decode cX2_renumbered 25 = .ok (.iload_n 0, 1) := by decide +kernel
theorem dX2_renumbered_26 : decode cX2_renumbered 26 = .ok (.iload 4, 2) := by decide +kernel
theorem dX2_renumbered_28 : decode cX2_renumbered 28 = .ok (.ishr, 1) := by decide +kernel
theorem dX2_renumbered_29 : decode cX2_renumbered 29 = .ok (.iconst 1, 1) := by decide +kernel
theorem dX2_renumbered_30 : decode cX2_renumbered 30 = .ok (.iand, 1) := by decide +kernel
theorem dX2_renumbered_31 : decode cX2_renumbered 31 = .ok (.iload_n 3, 1) := by decide +kernel
theorem dX2_renumbered_32 : decode cX2_renumbered 32 = .ok (.ishl, 1) := by decide +kernel
theorem dX2_renumbered_33 : decode cX2_renumbered 33 = .ok (.ior, 1) := by decide +kernel
theorem dX2_renumbered_34 : decode cX2_renumbered 34 = .ok (.istore_n 2, 1) := by decide +kernel
theorem dX2_renumbered_35 : decode cX2_renumbered 35 = .ok (.iinc 3 1, 3) := by decide +kernel
theorem dX2_renumbered_38 : decode cX2_renumbered 38 = .ok (.iinc 4 1, 3) := by decide +kernel
theorem dX2_renumbered_41 : decode cX2_renumbered 41 = .ok (.goto (-34), 3) := by decide +kernel
theorem dX2_renumbered_44 : decode cX2_renumbered 44 = .ok (.iload_n 2, 1) := by decide +kernel
theorem dX2_renumbered_45 : decode cX2_renumbered 45 = .ok (.ireturn, 1) := by decide +kernel
theorem dX3_init_0 : decode cX3_init 0 = .ok (.aload_n 0, 1) := by decide +kernel
theorem dX3_init_1 : decode cX3_init 1 = .ok (.invokespecial 3, 3) := by decide +kernel
theorem dX3_init_4 : decode cX3_init 4 = .ok (.aload_n 0, 1) := by decide +kernel
theorem dX3_init_5 : decode cX3_init 5 = .ok (.sipush 256, 3) := by decide +kernel
theorem dX3_init_8 : decode cX3_init 8 = .ok (.newarray .int, 2) := by decide +kernel
theorem dX3_init_10 : decode cX3_init 10 = .ok (.putfield 9, 3) := by decide +kernel
theorem dX3_init_13 : decode cX3_init 13 = .ok (.aload_n 0, 1) := by decide +kernel
theorem dX3_init_14 : decode cX3_init 14 = .ok (.sipush 256, 3) := by decide +kernel
theorem dX3_init_17 : decode cX3_init 17 = .ok (.newarray .int, 2) := by decide +kernel
theorem dX3_init_19 : decode cX3_init 19 = .ok (.putfield 15, 3) := by decide +kernel
theorem dX3_init_22 : decode cX3_init 22 = .ok (.aload_n 0, 1) := by decide +kernel
theorem dX3_init_23 : decode cX3_init 23 = .ok (.sipush 256, 3) := by decide +kernel
theorem dX3_init_26 : decode cX3_init 26 = .ok (.newarray .int, 2) := by decide +kernel
theorem dX3_init_28 : decode cX3_init 28 = .ok (.putfield 18, 3) := by decide +kernel
theorem dX3_init_31 : decode cX3_init 31 = .ok (.aload_n 0, 1) := by decide +kernel
theorem dX3_init_32 : decode cX3_init 32 = .ok (.sipush 256, 3) := by decide +kernel
theorem dX3_init_35 : decode cX3_init 35 = .ok (.newarray .int, 2) := by decide +kernel
theorem dX3_init_37 : decode cX3_init 37 = .ok (.putfield 21, 3) := by decide +kernel
theorem dX3_init_40 : decode cX3_init 40 = .ok (.aload_n 0, 1) := by decide +kernel
theorem dX3_init_41 : decode cX3_init 41 = .ok (.bipush 9, 2) := by decide +kernel
theorem dX3_init_43 : decode cX3_init 43 = .ok (.newarray .int, 2) := by decide +kernel
theorem dX3_init_45 : decode cX3_init 45 = .ok (.putfield 24, 3) := by decide +kernel
theorem dX3_init_48 : decode cX3_init 48 = .ok (.aload_n 0, 1) := by decide +kernel
theorem dX3_init_49 : decode cX3_init 49 = .ok (.iconst 0, 1) := by decide +kernel
theorem dX3_init_50 : decode cX3_init 50 = .ok (.putfield 27, 3) := by decide +kernel
theorem dX3_init_53 : decode cX3_init 53 = .ok (.aload_n 0, 1) := by decide +kernel
theorem dX3_init_54 : decode cX3_init 54 = .ok (.sipush 256, 3) := by decide +kernel
theorem dX3_init_57 : decode cX3_init 57 = .ok (.newarray .int, 2) := by decide +kernel
theorem dX3_init_59 : decode cX3_init 59 = .ok (.putfield 31, 3) := by decide +kernel
theorem dX3_init_62 : decode cX3_init 62 = .ok (.aload_n 0, 1) := by decide +kernel
theorem dX3_init_63 : decode cX3_init 63 = .ok (.iconst 1, 1) := by decide +kernel
theorem dX3_init_64 : decode cX3_init 64 = .ok (.putfield 34, 3) := by decide +kernel
theorem dX3_init_67 : decode cX3_init 67 = .ok (.aload_n 0, 1) := by decide +kernel
theorem dX3_init_68 : decode cX3_init 68 = .ok (.iconst 1, 1) := by decide +kernel
theorem dX3_init_69 : decode cX3_init 69 = .ok (.putfield 37, 3) := by decide +kernel
theorem dX3_init_72 : decode cX3_init 72 = .ok (.return_, 1) := by decide +kernel
theorem dX3_build_0 : decode cX3_build 0 = .ok (.aload_n 0, 1) := by decide +kernel
theorem dX3_build_1 : decode cX3_build 1 = .ok (.aload_n 1, 1) := by decide +kernel
theorem dX3_build_2 : decode cX3_build 2 = .ok (.getfield 40, 3) := by decide +kernel
theorem dX3_build_5 : decode cX3_build 5 = .ok (.putfield 34, 3) := by decide +kernel
theorem dX3_build_8 : decode cX3_build 8 = .ok (.aload_n 0, 1) := by decide +kernel
theorem dX3_build_9 : decode cX3_build 9 = .ok (.aload_n 1, 1) := by decide +kernel
theorem dX3_build_10 : decode cX3_build 10 = .ok (.invokevirtual 43, 3) := by decide +kernel
theorem dX3_build_13 : decode cX3_build 13 = .ok (.putfield 37, 3) := by decide +kernel
theorem dX3_build_16 : decode cX3_build 16 = .ok (.iconst 0, 1) := by decide +kernel
theorem dX3_build_17 : decode cX3_build 17 = .ok (.istore_n 2, 1) := by decide +kernel
theorem dX3_build_18 : decode cX3_build 18 = .ok (.iload_n 2, 1) := by decide +kernel
theorem dX3_build_19 : decode cX3_build 19 = .ok (.aload_n 0, 1) := by decide +kernel
theorem dX3_build_20 : decode cX3_build 20 = .ok (.getfield 37, 3) := by decide +kernel
theorem dX3_build_23 : decode cX3_build 23 = .ok (.if_icmp .gt 34, 3) := by decide +kernel
theorem dX3_build_26 : decode cX3_build 26 = .ok (.aload_n 0, 1) := by decide +kernel
theorem dX3_build_27 : decode cX3_build 27 = .ok (.getfield 9, 3) := by decide +kernel
theorem dX3_build_30 : decode cX3_build 30 = .ok (.iload_n 2, 1) := by decide +kernel
theorem dX3_build_31 : decode cX3_build 31 = .ok (.aload_n 1, 1) := by decide +kernel
theorem dX3_build_32 : decode cX3_build 32 = .ok (.iload_n 2, 1) := by decide +kernel
theorem dX3_build_33 : decode cX3_build 33 = .ok (.invokevirtual 47, 3) := by decide +kernel
theorem dX3_build_36 : decode cX3_build 36 = .ok (.iastore, 1) := by decide +kernel
theorem dX3_build_37 : decode cX3_build 37 = .ok (.aload_n 0, 1) := by decide +kernel
theorem dX3_build_38 : decode cX3_build 38 = .ok (.getfield 15, 3) := by decide +kernel
theorem dX3_build_41 : decode cX3_build 41 = .ok (.iload_n 2, 1) := by decide +kernel
theorem dX3_build_42 : decode cX3_build 42 = .ok (.iconst 0, 1) := by decide +kernel
theorem dX3_build_43 : decode cX3_build 43 = .ok (.iastore, 1) := by decide +kernel
theorem dX3_build_44 : decode cX3_build 44 = .ok (.aload_n 0, 1) := by decide +kernel
theorem dX3_build_45 : decode cX3_build 45 = .ok (.getfield 18, 3) := by decide +kernel
theorem dX3_build_48 : decode cX3_build 48 = .ok (.iload_n 2, 1) := by decide +kernel
theorem dX3_build_49 : decode cX3_build 49 = .ok (.iconst (-1), 1) := by decide +kernel
theorem dX3_build_50 : decode cX3_build 50 = .ok (.iastore, 1) := by decide +kernel
theorem dX3_build_51 : decode cX3_build 51 = .ok (.iinc 2 1, 3) := by decide +kernel
theorem dX3_build_54 : decode cX3_build 54 = .ok (.goto (-36), 3) := by decide +kernel
theorem dX3_build_57 : decode cX3_build 57 = .ok (.aload_n 0, 1) := by decide +kernel
theorem dX3_build_58 : decode cX3_build 58 = .ok (.invokevirtual 51, 3) := by decide +kernel
theorem dX3_build_61 : decode cX3_build 61 = .ok (.aload_n 0, 1) := by decide +kernel
theorem dX3_build_62 : decode cX3_build 62 = .ok (.invokevirtual 54, 3) := by decide +kernel
theorem dX3_build_65 : decode cX3_build 65 = .ok (.return_, 1) := by decide +kernel
theorem dX3_top_0 : decode cX3_top 0 = .ok (.aload_n 0, 1) := by decide +kernel
theorem dX3_top_1 : decode cX3_top 1 = .ok (.getfield 15, 3) := by decide +kernel
theorem dX3_top_4 : decode cX3_top 4 = .ok (.aload_n 0, 1) := by decide +kernel
theorem dX3_top_5 : decode cX3_top 5 = .ok (.getfield 37, 3) := by decide +kernel
theorem dX3_top_8 : decode cX3_top 8 = .ok (.iaload, 1) := by decide +kernel
theorem dX3_top_9 : decode cX3_top 9 = .ok (.ireturn, 1) := by decide +kernel
theorem dX3_isFace_0 : decode cX3_isFace 0 = .ok (.aload_n 0, 1) := by decide +kernel
theorem dX3_isFace_1 : decode cX3_isFace 1 = .ok (.getfield 9, 3) := by decide +kernel
theorem dX3_isFace_4 : decode cX3_isFace 4 = .ok (.iload_n 1, 1) := by decide +kernel
theorem dX3_isFace_5 : decode cX3_isFace 5 = .ok (.iaload, 1) := by decide +kernel
theorem dX3_isFace_6 : decode cX3_isFace 6 = .ok (.iload_n 1, 1) := by decide +kernel
theorem dX3_isFace_7 : decode cX3_isFace 7 = .ok (.if_icmp .ne 7, 3) := by decide +kernel
theorem dX3_isFace_10 : decode cX3_isFace 10 = .ok (.iconst 1, 1) := by decide +kernel
theorem dX3_isFace_11 : decode cX3_isFace 11 = .ok (.goto 4, 3) := by decide +kernel
theorem dX3_isFace_14 : decode cX3_isFace 14 = .ok (.iconst 0, 1) := by decide +kernel
theorem dX3_isFace_15 : decode cX3_isFace 15 = .ok (.ireturn, 1) := by decide +kernel
theorem dX3_rankFaces_0 : decode cX3_rankFaces 0 = .ok (.iconst 0, 1) := by decide +kernel
theorem dX3_rankFaces_1 : decode cX3_rankFaces 1 = .ok (.istore_n 1, 1) := by decide +kernel
theorem dX3_rankFaces_2 : decode cX3_rankFaces 2 = .ok (.iload_n 1, 1) := by decide +kernel
theorem dX3_rankFaces_3 : decode cX3_rankFaces 3 = .ok (.aload_n 0, 1) := by decide +kernel
theorem dX3_rankFaces_4 : decode cX3_rankFaces 4 = .ok (.getfield 37, 3) := by decide +kernel
theorem dX3_rankFaces_7 : decode cX3_rankFaces 7 = .ok (.if_icmp .gt 72, 3) := by decide +kernel
theorem dX3_rankFaces_10 : decode cX3_rankFaces 10 = .ok (.iconst 0, 1) := by decide +kernel
theorem dX3_rankFaces_11 : decode cX3_rankFaces 11 = .ok (.istore_n 2, 1) := by decide +kernel
theorem dX3_rankFaces_12 : decode cX3_rankFaces 12 = .ok (.iload_n 2, 1) := by decide +kernel
theorem dX3_rankFaces_13 : decode cX3_rankFaces 13 = .ok (.aload_n 0, 1) := by decide +kernel
theorem dX3_rankFaces_14 : decode cX3_rankFaces 14 = .ok (.getfield 34, 3) := by decide +kernel
theorem dX3_rankFaces_17 : decode cX3_rankFaces 17 = .ok (.if_icmp .ge 56, 3) := by decide +kernel
theorem dX3_rankFaces_20 : decode cX3_rankFaces 20 = .ok (.aload_n 0, 1) := by decide +kernel
theorem dX3_rankFaces_21 : decode cX3_rankFaces 21 = .ok (.iload_n 1, 1) := by decide +kernel
theorem dX3_rankFaces_22 : decode cX3_rankFaces 22 = .ok (.invokevirtual 57, 3) := by decide +kernel
theorem dX3_rankFaces_25 : decode cX3_rankFaces 25 = .ok (.ifCond .eq 48, 3) := by decide +kernel
theorem dX3_rankFaces_28 : decode cX3_rankFaces 28 = .ok (.aload_n 0, 1) := by decide +kernel
theorem dX3_rankFaces_29 : decode cX3_rankFaces 29 = .ok (.getfield 9, 3) := by decide +kernel
theorem dX3_rankFaces_32 : decode cX3_rankFaces 32 = .ok (.iload_n 1, 1) := by decide +kernel
theorem dX3_rankFaces_33 : decode cX3_rankFaces 33 = .ok (.iconst 1, 1) := by decide +kernel
theorem dX3_rankFaces_34 : decode cX3_rankFaces 34 = .ok (.iload_n 2, 1) := by decide +kernel
theorem dX3_rankFaces_35 : decode cX3_rankFaces 35 = .ok (.ishl, 1) := by decide +kernel
theorem dX3_rankFaces_36 : decode cX3_rankFaces 36 = .ok (.ior, 1) := by decide +kernel
theorem dX3_rankFaces_37 : decode cX3_rankFaces 37 = .ok (.iaload, 1) := by decide +kernel
theorem dX3_rankFaces_38 : decode cX3_rankFaces 38 = .ok (.istore_n 3, 1) := by decide +kernel
theorem dX3_rankFaces_39 : decode cX3_rankFaces 39 = .ok (.iload_n 3, 1) := by decide +kernel
theorem dX3_rankFaces_40 : decode cX3_rankFaces 40 = .ok (.iload_n 1, 1) := by decide +kernel
theorem dX3_rankFaces_41 : decode cX3_rankFaces 41 = .ok (.if_icmp .eq 26, 3) := by decide +kernel
theorem dX3_rankFaces_44 : decode cX3_rankFaces 44 = .ok (.aload_n 0, 1) := by decide +kernel
theorem dX3_rankFaces_45 : decode cX3_rankFaces 45 = .ok (.getfield 15, 3) := by decide +kernel
theorem dX3_rankFaces_48 : decode cX3_rankFaces 48 = .ok (.iload_n 3, 1) := by decide +kernel
theorem dX3_rankFaces_49 : decode cX3_rankFaces 49 = .ok (.aload_n 0, 1) := by decide +kernel
theorem dX3_rankFaces_50 : decode cX3_rankFaces 50 = .ok (.getfield 15, 3) := by decide +kernel
theorem dX3_rankFaces_53 : decode cX3_rankFaces 53 = .ok (.iload_n 3, 1) := by decide +kernel
theorem dX3_rankFaces_54 : decode cX3_rankFaces 54 = .ok (.iaload, 1) := by decide +kernel
theorem dX3_rankFaces_55 : decode cX3_rankFaces 55 = .ok (.aload_n 0, 1) := by decide +kernel
theorem dX3_rankFaces_56 : decode cX3_rankFaces 56 = .ok (.getfield 15, 3) := by decide +kernel
theorem dX3_rankFaces_59 : decode cX3_rankFaces 59 = .ok (.iload_n 1, 1) := by decide +kernel
theorem dX3_rankFaces_60 : decode cX3_rankFaces 60 = .ok (.iaload, 1) := by decide +kernel
theorem dX3_rankFaces_61 : decode cX3_rankFaces 61 = .ok (.iconst 1, 1) := by decide +kernel
theorem dX3_rankFaces_62 : decode cX3_rankFaces 62 = .ok (.iadd, 1) := by decide +kernel
theorem dX3_rankFaces_63 : decode cX3_rankFaces 63 = .ok (.invokestatic 61, 3) := by decide +kernel
theorem dX3_rankFaces_66 : decode cX3_rankFaces 66 = .ok (.iastore, 1) := by decide +kernel
theorem dX3_rankFaces_67 : decode cX3_rankFaces 67 = .ok (.iinc 2 1, 3) := by decide +kernel
theorem dX3_rankFaces_70 : decode cX3_rankFaces 70 = .ok (.goto (-58), 3) := by decide +kernel
theorem dX3_rankFaces_73 : decode cX3_rankFaces 73 = .ok (.iinc 1 1, 3) := by decide +kernel
theorem dX3_rankFaces_76 : decode cX3_rankFaces 76 = .ok (.goto (-74), 3) := by decide +kernel
theorem dX3_rankFaces_79 : decode cX3_rankFaces 79 = .ok (.return_, 1) := by decide +kernel
theorem dX3_numberFaces_0 : decode cX3_numberFaces 0 = .ok (.aload_n 0, 1) := by decide +kernel
theorem dX3_numberFaces_1 : decode cX3_numberFaces 1 = .ok (.iconst 0, 1) := by decide +kernel
theorem dX3_numberFaces_2 : decode cX3_numberFaces 2 = .ok (.putfield 27, 3) := by decide +kernel
theorem dX3_numberFaces_5 : decode cX3_numberFaces 5 = .ok (.iconst 0, 1) := by decide +kernel
theorem dX3_numberFaces_6 : decode cX3_numberFaces 6 = .ok (.istore_n 1, 1) := by decide +kernel
theorem dX3_numberFaces_7 : decode cX3_numberFaces 7 = .ok (.iload_n 1, 1) := by decide +kernel
theorem dX3_numberFaces_8 : decode cX3_numberFaces 8 = .ok (.bipush 8, 2) := by decide +kernel
theorem dX3_numberFaces_10 : decode cX3_numberFaces 10 = .ok (.if_icmp .gt 90, 3) := by decide +kernel
theorem dX3_numberFaces_13 : decode cX3_numberFaces 13 = .ok (.aload_n 0, 1) := by decide +kernel
theorem dX3_numberFaces_14 : decode cX3_numberFaces 14 = .ok (.getfield 27, 3) := by decide +kernel
theorem dX3_numberFaces_17 : decode cX3_numberFaces 17 = .ok (.istore_n 2, 1) := by decide +kernel
theorem dX3_numberFaces_18 : decode cX3_numberFaces 18 = .ok (.iconst 0, 1) := by decide +kernel
theorem dX3_numberFaces_19 : decode cX3_numberFaces 19 = .ok (.istore_n 3, 1) := by decide +kernel
theorem dX3_numberFaces_20 : decode cX3_numberFaces 20 = .ok (.iload_n 3, 1) := by decide +kernel
theorem dX3_numberFaces_21 : decode cX3_numberFaces 21 = .ok (.aload_n 0, 1) := by decide +kernel
theorem dX3_numberFaces_22 : decode cX3_numberFaces 22 = .ok (.getfield 37, 3) := by decide +kernel
theorem dX3_numberFaces_25 : decode cX3_numberFaces 25 = .ok (.if_icmp .gt 57, 3) := by decide +kernel
theorem dX3_numberFaces_28 : decode cX3_numberFaces 28 = .ok (.aload_n 0, 1) := by decide +kernel
theorem dX3_numberFaces_29 : decode cX3_numberFaces 29 = .ok (.iload_n 3, 1) := by decide +kernel
theorem dX3_numberFaces_30 : decode cX3_numberFaces 30 = .ok (.invokevirtual 57, 3) := by decide +kernel
theorem dX3_numberFaces_33 : decode cX3_numberFaces 33 = .ok (.ifCond .eq 43, 3) := by decide +kernel
theorem dX3_numberFaces_36 : decode cX3_numberFaces 36 = .ok (.aload_n 0, 1) := by decide +kernel
theorem dX3_numberFaces_37 : decode cX3_numberFaces 37 = .ok (.getfield 15, 3) := by decide +kernel
theorem dX3_numberFaces_40 : decode cX3_numberFaces 40 = .ok (.iload_n 3, 1) := by decide +kernel
theorem dX3_numberFaces_41 : decode cX3_numberFaces 41 = .ok (.iaload, 1) := by decide +kernel
theorem dX3_numberFaces_42 : decode cX3_numberFaces 42 = .ok (.iload_n 1, 1) := by decide +kernel
theorem dX3_numberFaces_43 : decode cX3_numberFaces 43 = .ok (.if_icmp .ne 33, 3) := by decide +kernel
theorem dX3_numberFaces_46 : decode cX3_numberFaces 46 = .ok (.aload_n 0, 1) := by decide +kernel
theorem dX3_numberFaces_47 : decode cX3_numberFaces 47 = .ok (.getfield 21, 3) := by decide +kernel
theorem dX3_numberFaces_50 : decode cX3_numberFaces 50 = .ok (.aload_n 0, 1) := by decide +kernel
theorem dX3_numberFaces_51 : decode cX3_numberFaces 51 = .ok (.getfield 27, 3) := by decide +kernel
theorem dX3_numberFaces_54 : decode cX3_numberFaces 54 = .ok (.iload_n 3, 1) := by decide +kernel
theorem dX3_numberFaces_55 : decode cX3_numberFaces 55 = .ok (.iastore, 1) := by decide +kernel
theorem dX3_numberFaces_56 : decode cX3_numberFaces 56 = .ok (.aload_n 0, 1) := by decide +kernel
theorem dX3_numberFaces_57 : decode cX3_numberFaces 57 = .ok (.getfield 18, 3) := by decide +kernel
theorem dX3_numberFaces_60 : decode cX3_numberFaces 60 = .ok (.iload_n 3, 1) := by decide +kernel
theorem dX3_numberFaces_61 : decode cX3_numberFaces 61 = .ok (.aload_n 0, 1) := by decide +kernel
theorem dX3_numberFaces_62 : decode cX3_numberFaces 62 = .ok (.getfield 27, 3) := by decide +kernel
theorem dX3_numberFaces_65 : decode cX3_numberFaces 65 = .ok (.iastore, 1) := by decide +kernel
theorem dX3_numberFaces_66 : decode cX3_numberFaces 66 = .ok (.aload_n 0, 1) := by decide +kernel
theorem dX3_numberFaces_67 : decode cX3_numberFaces 67 = .ok (.dup, 1) := by decide +kernel
theorem dX3_numberFaces_68 : decode cX3_numberFaces 68 = .ok (.getfield 27, 3) := by decide +kernel
theorem dX3_numberFaces_71 : decode cX3_numberFaces 71 = .ok (.iconst 1, 1) := by decide +kernel
theorem dX3_numberFaces_72 : decode cX3_numberFaces 72 = .ok (.iadd, 1) := by decide +kernel
theorem dX3_numberFaces_73 : decode cX3_numberFaces 73 = .ok (.putfield 27, 3) := by decide +kernel
theorem dX3_numberFaces_76 : decode cX3_numberFaces 76 = .ok (.iinc 3 1, 3) := by decide +kernel
theorem dX3_numberFaces_79 : decode cX3_numberFaces 79 = .ok (.goto (-59), 3) := by decide +kernel
theorem dX3_numberFaces_82 : decode cX3_numberFaces 82 = .ok (.aload_n 0, 1) := by decide +kernel
theorem dX3_numberFaces_83 : decode cX3_numberFaces 83 = .ok (.getfield 24, 3) := by decide +kernel
theorem dX3_numberFaces_86 : decode cX3_numberFaces 86 = .ok (.iload_n 1, 1) := by decide +kernel
theorem dX3_numberFaces_87 : decode cX3_numberFaces 87 = .ok (.aload_n 0, 1) := by decide +kernel
theorem dX3_numberFaces_88 : decode cX3_numberFaces 88 = .ok (.getfield 27, 3) := by decide +kernel
theorem dX3_numberFaces_91 : decode cX3_numberFaces 91 = .ok (.iload_n 2, 1) := by decide +kernel
theorem dX3_numberFaces_92 : decode cX3_numberFaces 92 = .ok (.isub, 1) := by decide +kernel
theorem dX3_numberFaces_93 : decode cX3_numberFaces 93 = .ok (.iastore, 1) := by decide +kernel
theorem dX3_numberFaces_94 : decode cX3_numberFaces 94 = .ok (.iinc 1 1, 3) := by decide +kernel
theorem dX3_numberFaces_97 : decode cX3_numberFaces 97 = .ok (.goto (-90), 3) := by decide +kernel
theorem dX3_numberFaces_100 : decode cX3_numberFaces 100 = .ok (.return_, 1) := by decide +kernel
theorem dX3_isCover_0 : decode cX3_isCover 0 = .ok (.iload_n 2, 1) := by decide +kernel
theorem dX3_isCover_1 : decode cX3_isCover 1 = .ok (.iload_n 1, 1) := by decide +kernel
theorem dX3_isCover_2 : decode cX3_isCover 2 = .ok (.iconst (-1), 1) := by decide +kernel
theorem dX3_isCover_3 : decode cX3_isCover 3 = .ok (.ixor, 1) := by decide +kernel
theorem dX3_isCover_4 : decode cX3_isCover 4 = .ok (.iand, 1) := by decide +kernel
theorem dX3_isCover_5 : decode cX3_isCover 5 = .ok (.istore_n 3, 1) := by decide +kernel
theorem dX3_isCover_6 : decode cX3_isCover 6 = .ok (.iload_n 3, 1) := by decide +kernel
theorem dX3_isCover_7 : decode cX3_isCover 7 = .ok (.ifCond .eq 11, 3) := by decide +kernel
theorem dX3_isCover_10 : decode cX3_isCover 10 = .ok (.iload_n 1, 1) := by decide +kernel
theorem dX3_isCover_11 : decode cX3_isCover 11 = .ok (.iload_n 2, 1) := by decide +kernel
theorem dX3_isCover_12 : decode cX3_isCover 12 = .ok (.iconst (-1), 1) := by decide +kernel
theorem dX3_isCover_13 : decode cX3_isCover 13 = .ok (.ixor, 1) := by decide +kernel
theorem dX3_isCover_14 : decode cX3_isCover 14 = .ok (.iand, 1) := by decide +kernel
theorem dX3_isCover_15 : decode cX3_isCover 15 = .ok (.ifCond .eq 5, 3) := by decide +kernel
theorem dX3_isCover_18 : decode cX3_isCover 18 = .ok (.iconst 0, 1) := by decide +kernel
theorem dX3_isCover_19 : decode cX3_isCover 19 = .ok (.ireturn, 1) := by decide +kernel
theorem dX3_isCover_20 : decode cX3_isCover 20 = .ok (.iconst 0, 1) := by decide +kernel
theorem dX3_isCover_21 : decode cX3_isCover 21 = .ok (.istore 4, 2) := by decide +kernel
theorem dX3_isCover_23 : decode cX3_isCover 23 = .ok (.iload 4, 2) := by decide +kernel
theorem dX3_isCover_25 : decode cX3_isCover 25 = .ok (.aload_n 0, 1) := by decide +kernel
theorem dX3_isCover_26 : decode cX3_isCover 26 = .ok (.getfield 34, 3) := by decide +kernel
theorem dX3_isCover_29 : decode cX3_isCover 29 = .ok (.if_icmp .ge 36, 3) := by decide +kernel
theorem dX3_isCover_32 : decode cX3_isCover 32 = .ok (.iload_n 3, 1) := by decide +kernel
theorem dX3_isCover_33 : decode cX3_isCover 33 = .ok (.iload 4, 2) := by decide +kernel
theorem dX3_isCover_35 : decode cX3_isCover 35 = .ok (.ishr, 1) := by decide +kernel
theorem dX3_isCover_36 : decode cX3_isCover 36 = .ok (.iconst 1, 1) := by decide +kernel
theorem dX3_isCover_37 : decode cX3_isCover 37 = .ok (.iand, 1) := by decide +kernel
theorem dX3_isCover_38 : decode cX3_isCover 38 = .ok (.iconst 1, 1) := by decide +kernel
theorem dX3_isCover_39 : decode cX3_isCover 39 = .ok (.if_icmp .ne 20, 3) := by decide +kernel
theorem dX3_isCover_42 : decode cX3_isCover 42 = .ok (.aload_n 0, 1) := by decide +kernel
theorem dX3_isCover_43 : decode cX3_isCover 43 = .ok (.getfield 9, 3) := by decide +kernel
theorem dX3_isCover_46 : decode cX3_isCover 46 = .ok (.iload_n 1, 1) := by decide +kernel
theorem dX3_isCover_47 : decode cX3_isCover 47 = .ok (.iconst 1, 1) := by decide +kernel
theorem dX3_isCover_48 : decode cX3_isCover 48 = .ok (.iload 4, 2) := by decide +kernel
theorem dX3_isCover_50 : decode cX3_isCover 50 = .ok (.ishl, 1) := by decide +kernel
theorem dX3_isCover_51 : decode cX3_isCover 51 = .ok (.ior, 1) := by decide +kernel
theorem dX3_isCover_52 : decode cX3_isCover 52 = .ok (.iaload, 1) := by decide +kernel
theorem dX3_isCover_53 : decode cX3_isCover 53 = .ok (.iload_n 2, 1) := by decide +kernel
theorem dX3_isCover_54 : decode cX3_isCover 54 = .ok (.if_icmp .eq 5, 3) := by decide +kernel
theorem dX3_isCover_57 : decode cX3_isCover 57 = .ok (.iconst 0, 1) := by decide +kernel
theorem dX3_isCover_58 : decode cX3_isCover 58 = .ok (.ireturn, 1) := by decide +kernel
theorem dX3_isCover_59 : decode cX3_isCover 59 = .ok (.iinc 4 1, 3) := by decide +kernel
theorem dX3_isCover_62 : decode cX3_isCover 62 = .ok (.goto (-39), 3) := by decide +kernel
theorem dX3_isCover_65 : decode cX3_isCover 65 = .ok (.iconst 1, 1) := by decide +kernel
theorem dX3_isCover_66 : decode cX3_isCover 66 = .ok (.ireturn, 1) := by decide +kernel
theorem dX3_isCoverInWay_0 : decode cX3_isCoverInWay 0 = .ok (.iload_n 3, 1) := by decide +kernel
theorem dX3_isCoverInWay_1 : decode cX3_isCoverInWay 1 = .ok (.ifCond .eq 12, 3) := by decide +kernel
theorem dX3_isCoverInWay_4 : decode cX3_isCoverInWay 4 = .ok (.aload_n 0, 1) := by decide +kernel
theorem dX3_isCoverInWay_5 : decode cX3_isCoverInWay 5 = .ok (.iload_n 1, 1) := by decide +kernel
theorem dX3_isCoverInWay_6 : decode cX3_isCoverInWay 6 = .ok (.iload_n 2, 1) := by decide +kernel
theorem dX3_isCoverInWay_7 : decode cX3_isCoverInWay 7 = .ok (.invokevirtual 67, 3) := by decide +kernel
theorem dX3_isCoverInWay_10 : decode cX3_isCoverInWay 10 = .ok (.goto 9, 3) := by decide +kernel
theorem dX3_isCoverInWay_13 : decode cX3_isCoverInWay 13 = .ok (.aload_n 0, 1) := by decide +kernel
theorem dX3_isCoverInWay_14 : decode cX3_isCoverInWay 14 = .ok (.iload_n 2, 1) := by decide +kernel
theorem dX3_isCoverInWay_15 : decode cX3_isCoverInWay 15 = .ok (.iload_n 1, 1) := by decide +kernel
theorem dX3_isCoverInWay_16 : decode cX3_isCoverInWay 16 = .ok (.invokevirtual 67, 3) := by decide +kernel
theorem dX3_isCoverInWay_19 : decode cX3_isCoverInWay 19 = .ok (.ireturn, 1) := by decide +kernel
theorem dX3_coverBy_0 : decode cX3_coverBy 0 = .ok (.aload_n 0, 1) := by decide +kernel
theorem dX3_coverBy_1 : decode cX3_coverBy 1 = .ok (.getfield 9, 3) := by decide +kernel
theorem dX3_coverBy_4 : decode cX3_coverBy 4 = .ok (.iload_n 1, 1) := by decide +kernel
theorem dX3_coverBy_5 : decode cX3_coverBy 5 = .ok (.iconst 1, 1) := by decide +kernel
theorem dX3_coverBy_6 : decode cX3_coverBy 6 = .ok (.iload_n 2, 1) := by decide +kernel
theorem dX3_coverBy_7 : decode cX3_coverBy 7 = .ok (.ishl, 1) := by decide +kernel
theorem dX3_coverBy_8 : decode cX3_coverBy 8 = .ok (.ior, 1) := by decide +kernel
theorem dX3_coverBy_9 : decode cX3_coverBy 9 = .ok (.iaload, 1) := by decide +kernel
theorem dX3_coverBy_10 : decode cX3_coverBy 10 = .ok (.istore_n 3, 1) := by decide +kernel
theorem dX3_coverBy_11 : decode cX3_coverBy 11 = .ok (.iload_n 3, 1) := by decide +kernel
theorem dX3_coverBy_12 : decode cX3_coverBy 12 = .ok (.iload_n 1, 1) := by decide +kernel
theorem dX3_coverBy_13 : decode cX3_coverBy 13 = .ok (.iconst (-1), 1) := by decide +kernel
theorem dX3_coverBy_14 : decode cX3_coverBy 14 = .ok (.ixor, 1) := by decide +kernel
theorem dX3_coverBy_15 : decode cX3_coverBy 15 = .ok (.iand, 1) := by decide +kernel
theorem dX3_coverBy_16 : decode cX3_coverBy 16 = .ok (.istore 4, 2) := by decide +kernel
theorem dX3_coverBy_18 : decode cX3_coverBy 18 = .ok (.iload 4, 2) := by decide +kernel
theorem dX3_coverBy_20 : decode cX3_coverBy 20 = .ok (.iload 4, 2) := by decide +kernel
theorem dX3_coverBy_22 : decode cX3_coverBy 22 = .ok (.ineg, 1) := by decide +kernel
theorem dX3_coverBy_23 : decode cX3_coverBy 23 = .ok (.iand, 1) := by decide +kernel
theorem dX3_coverBy_24 : decode cX3_coverBy 24 = .ok (.iconst 1, 1) := by decide +kernel
theorem dX3_coverBy_25 : decode cX3_coverBy 25 = .ok (.iload_n 2, 1) := by decide +kernel
theorem dX3_coverBy_26 : decode cX3_coverBy 26 = .ok (.ishl, 1) := by decide +kernel
theorem dX3_coverBy_27 : decode cX3_coverBy 27 = .ok (.if_icmp .ne 7, 3) := by decide +kernel
theorem dX3_coverBy_30 : decode cX3_coverBy 30 = .ok (.iconst 1, 1) := by decide +kernel
theorem dX3_coverBy_31 : decode cX3_coverBy 31 = .ok (.goto 4, 3) := by decide +kernel
theorem dX3_coverBy_34 : decode cX3_coverBy 34 = .ok (.iconst 0, 1) := by decide +kernel
theorem dX3_coverBy_35 : decode cX3_coverBy 35 = .ok (.istore 5, 2) := by decide +kernel
theorem dX3_coverBy_37 : decode cX3_coverBy 37 = .ok (.iload 5, 2) := by decide +kernel
theorem dX3_coverBy_39 : decode cX3_coverBy 39 = .ok (.ifCond .eq 16, 3) := by decide +kernel
theorem dX3_coverBy_42 : decode cX3_coverBy 42 = .ok (.aload_n 0, 1) := by decide +kernel
theorem dX3_coverBy_43 : decode cX3_coverBy 43 = .ok (.iload_n 1, 1) := by decide +kernel
theorem dX3_coverBy_44 : decode cX3_coverBy 44 = .ok (.iload_n 3, 1) := by decide +kernel
theorem dX3_coverBy_45 : decode cX3_coverBy 45 = .ok (.invokevirtual 67, 3) := by decide +kernel
theorem dX3_coverBy_48 : decode cX3_coverBy 48 = .ok (.ifCond .eq 7, 3) := by decide +kernel
theorem dX3_coverBy_51 : decode cX3_coverBy 51 = .ok (.iload_n 3, 1) := by decide +kernel
theorem dX3_coverBy_52 : decode cX3_coverBy 52 = .ok (.goto 4, 3) := by decide +kernel
theorem dX3_coverBy_55 : decode cX3_coverBy 55 = .ok (.iconst (-1), 1) := by decide +kernel
theorem dX3_coverBy_56 : decode cX3_coverBy 56 = .ok (.ireturn, 1) := by decide +kernel
theorem dX3_countCovers_0 : decode cX3_countCovers 0 = .ok (.iconst 0, 1) := by decide +kernel
theorem dX3_countCovers_1 : decode cX3_countCovers 1 = .ok (.istore_n 3, 1) := by decide +kernel
theorem dX3_countCovers_2 : decode cX3_countCovers 2 = .ok (.iconst 0, 1) := by decide +kernel
theorem dX3_countCovers_3 : decode cX3_countCovers 3 = .ok (.istore 4, 2) := by decide +kernel
theorem dX3_countCovers_5 : decode cX3_countCovers 5 = .ok (.iload 4, 2) := by decide +kernel
theorem dX3_countCovers_7 : decode cX3_countCovers 7 = .ok (.aload_n 0, 1) := by decide +kernel
theorem dX3_countCovers_8 : decode cX3_countCovers 8 = .ok (.getfield 27, 3) := by decide +kernel
theorem dX3_countCovers_11 : decode cX3_countCovers 11 = .ok (.if_icmp .ge 28, 3) := by decide +kernel
theorem dX3_countCovers_14 : decode cX3_countCovers 14 = .ok (.aload_n 0, 1) := by decide +kernel
theorem dX3_countCovers_15 : decode cX3_countCovers 15 = .ok (.iload_n 1, 1) := by decide +kernel
theorem dX3_countCovers_16 : decode cX3_countCovers 16 = .ok (.aload_n 0, 1) := by decide +kernel
theorem dX3_countCovers_17 : decode cX3_countCovers 17 = .ok (.getfield 21, 3) := by decide +kernel
theorem dX3_countCovers_20 : decode cX3_countCovers 20 = .ok (.iload 4, 2) := by decide +kernel
theorem dX3_countCovers_22 : decode cX3_countCovers 22 = .ok (.iaload, 1) := by decide +kernel
theorem dX3_countCovers_23 : decode cX3_countCovers 23 = .ok (.iload_n 2, 1) := by decide +kernel
theorem dX3_countCovers_24 : decode cX3_countCovers 24 = .ok (.invokevirtual 71, 3) := by decide +kernel
theorem dX3_countCovers_27 : decode cX3_countCovers 27 = .ok (.ifCond .eq 6, 3) := by decide +kernel
theorem dX3_countCovers_30 : decode cX3_countCovers 30 = .ok (.iinc 3 1, 3) := by decide +kernel
theorem dX3_countCovers_33 : decode cX3_countCovers 33 = .ok (.iinc 4 1, 3) := by decide +kernel
theorem dX3_countCovers_36 : decode cX3_countCovers 36 = .ok (.goto (-31), 3) := by decide +kernel
theorem dX3_countCovers_39 : decode cX3_countCovers 39 = .ok (.iload_n 3, 1) := by decide +kernel
theorem dX3_countCovers_40 : decode cX3_countCovers 40 = .ok (.ireturn, 1) := by decide +kernel
theorem dX3_coverAt_0 : decode cX3_coverAt 0 = .ok (.iconst 0, 1) := by decide +kernel
theorem dX3_coverAt_1 : decode cX3_coverAt 1 = .ok (.istore 4, 2) := by decide +kernel
theorem dX3_coverAt_3 : decode cX3_coverAt 3 = .ok (.iconst 0, 1) := by decide +kernel
theorem dX3_coverAt_4 : decode cX3_coverAt 4 = .ok (.istore 5, 2) := by decide +kernel
theorem dX3_coverAt_6 : decode cX3_coverAt 6 = .ok (.iload 5, 2) := by decide +kernel
theorem dX3_coverAt_8 : decode cX3_coverAt 8 = .ok (.aload_n 0, 1) := by decide +kernel
theorem dX3_coverAt_9 : decode cX3_coverAt 9 = .ok (.getfield 27, 3) := by decide +kernel
theorem dX3_coverAt_12 : decode cX3_coverAt 12 = .ok (.if_icmp .ge 37, 3) := by decide +kernel
theorem dX3_coverAt_15 : decode cX3_coverAt 15 = .ok (.aload_n 0, 1) := by decide +kernel
theorem dX3_coverAt_16 : decode cX3_coverAt 16 = .ok (.iload_n 1, 1) := by decide +kernel
theorem dX3_coverAt_17 : decode cX3_coverAt 17 = .ok (.aload_n 0, 1) := by decide +kernel
theorem dX3_coverAt_18 : decode cX3_coverAt 18 = .ok (.getfield 21, 3) := by decide +kernel
theorem dX3_coverAt_21 : decode cX3_coverAt 21 = .ok (.iload 5, 2) := by decide +kernel
theorem dX3_coverAt_23 : decode cX3_coverAt 23 = .ok (.iaload, 1) := by decide +kernel
theorem dX3_coverAt_24 : decode cX3_coverAt 24 = .ok (.iload_n 2, 1) := by decide +kernel
theorem dX3_coverAt_25 : decode cX3_coverAt 25 = .ok (.invokevirtual 71, 3) := by decide +kernel
theorem dX3_coverAt_28 : decode cX3_coverAt 28 = .ok (.ifCond .eq 15, 3) := by decide +kernel
theorem dX3_coverAt_31 : decode cX3_coverAt 31 = .ok (.iload 4, 2) := by decide +kernel
theorem dX3_coverAt_33 : decode cX3_coverAt 33 = .ok (.iload_n 3, 1) := by decide +kernel
theorem dX3_coverAt_34 : decode cX3_coverAt 34 = .ok (.if_icmp .ne 6, 3) := by decide +kernel
theorem dX3_coverAt_37 : decode cX3_coverAt 37 = .ok (.iload 5, 2) := by decide +kernel
theorem dX3_coverAt_39 : decode cX3_coverAt 39 = .ok (.ireturn, 1) := by decide +kernel
theorem dX3_coverAt_40 : decode cX3_coverAt 40 = .ok (.iinc 4 1, 3) := by decide +kernel
theorem dX3_coverAt_43 : decode cX3_coverAt 43 = .ok (.iinc 5 1, 3) := by decide +kernel
theorem dX3_coverAt_46 : decode cX3_coverAt 46 = .ok (.goto (-40), 3) := by decide +kernel
theorem dX3_coverAt_49 : decode cX3_coverAt 49 = .ok (.iconst (-1), 1) := by decide +kernel
theorem dX3_coverAt_50 : decode cX3_coverAt 50 = .ok (.ireturn, 1) := by decide +kernel
theorem dX3_coversWithin_0 : decode cX3_coversWithin 0 = .ok (.iconst 0, 1) := by decide +kernel
theorem dX3_coversWithin_1 : decode cX3_coversWithin 1 = .ok (.istore_n 3, 1) := by decide +kernel
theorem dX3_coversWithin_2 : decode cX3_coversWithin 2 = .ok (.iconst 0, 1) := by decide +kernel
theorem dX3_coversWithin_3 : decode cX3_coversWithin 3 = .ok (.istore 4, 2) := by decide +kernel
theorem dX3_coversWithin_5 : decode cX3_coversWithin 5 = .ok (.iconst 0, 1) := by decide +kernel
theorem dX3_coversWithin_6 : decode cX3_coversWithin 6 = .ok (.istore 5, 2) := by decide +kernel
theorem dX3_coversWithin_8 : decode cX3_coversWithin 8 = .ok (.iload 5, 2) := by decide +kernel
theorem dX3_coversWithin_10 : decode cX3_coversWithin 10 = .ok (.aload_n 0, 1) := by decide +kernel
theorem dX3_coversWithin_11 : decode cX3_coversWithin 11 = .ok (.getfield 27, 3) := by decide +kernel
theorem dX3_coversWithin_14 : decode cX3_coversWithin 14 = .ok (.if_icmp .ge 48, 3) := by decide +kernel
theorem dX3_coversWithin_17 : decode cX3_coversWithin 17 = .ok (.aload_n 0, 1) := by decide +kernel
theorem dX3_coversWithin_18 : decode cX3_coversWithin 18 = .ok (.iload_n 1, 1) := by decide +kernel
theorem dX3_coversWithin_19 : decode cX3_coversWithin 19 = .ok (.aload_n 0, 1) := by decide +kernel
theorem dX3_coversWithin_20 : decode cX3_coversWithin 20 = .ok (.getfield 21, 3) := by decide +kernel
theorem dX3_coversWithin_23 : decode cX3_coversWithin 23 = .ok (.iload 5, 2) := by decide +kernel
theorem dX3_coversWithin_25 : decode cX3_coversWithin 25 = .ok (.iaload, 1) := by decide +kernel
theorem dX3_coversWithin_26 : decode cX3_coversWithin 26 = .ok (.invokevirtual 67, 3) := by decide +kernel
theorem dX3_coversWithin_29 : decode cX3_coversWithin 29 = .ok (.ifCond .eq 27, 3) := by decide +kernel
theorem dX3_coversWithin_32 : decode cX3_coversWithin 32 = .ok (.aload_n 0, 1) := by decide +kernel
theorem dX3_coversWithin_33 : decode cX3_coversWithin 33 = .ok (.getfield 21, 3) := by decide +kernel
theorem dX3_coversWithin_36 : decode cX3_coversWithin 36 = .ok (.iload 5, 2) := by decide +kernel
theorem dX3_coversWithin_38 : decode cX3_coversWithin 38 = .ok (.iaload, 1) := by decide +kernel
theorem dX3_coversWithin_39 : decode cX3_coversWithin 39 = .ok (.iload_n 2, 1) := by decide +kernel
theorem dX3_coversWithin_40 : decode cX3_coversWithin 40 = .ok (.iconst (-1), 1) := by decide +kernel
theorem dX3_coversWithin_41 : decode cX3_coversWithin 41 = .ok (.ixor, 1) := by decide +kernel
theorem dX3_coversWithin_42 : decode cX3_coversWithin 42 = .ok (.iand, 1) := by decide +kernel
theorem dX3_coversWithin_43 : decode cX3_coversWithin 43 = .ok (.ifCond .ne 10, 3) := by decide +kernel
theorem dX3_coversWithin_46 : decode cX3_coversWithin 46 = .ok (.iload_n 3, 1) := by decide +kernel
theorem dX3_coversWithin_47 : decode cX3_coversWithin 47 = .ok (.iconst 1, 1) := by decide +kernel
theorem dX3_coversWithin_48 : decode cX3_coversWithin 48 = .ok (.iload 4, 2) := by decide +kernel
theorem dX3_coversWithin_50 : decode cX3_coversWithin 50 = .ok (.ishl, 1) := by decide +kernel
theorem dX3_coversWithin_51 : decode cX3_coversWithin 51 = .ok (.ior, 1) := by decide +kernel
theorem dX3_coversWithin_52 : decode cX3_coversWithin 52 = .ok (.istore_n 3, 1) := by decide +kernel
theorem dX3_coversWithin_53 : decode cX3_coversWithin 53 = .ok (.iinc 4 1, 3) := by decide +kernel
theorem dX3_coversWithin_56 : decode cX3_coversWithin 56 = .ok (.iinc 5 1, 3) := by decide +kernel
theorem dX3_coversWithin_59 : decode cX3_coversWithin 59 = .ok (.goto (-51), 3) := by decide +kernel
theorem dX3_coversWithin_62 : decode cX3_coversWithin 62 = .ok (.iload_n 3, 1) := by decide +kernel
theorem dX3_coversWithin_63 : decode cX3_coversWithin 63 = .ok (.ireturn, 1) := by decide +kernel
theorem dX3_partsOf_0 : decode cX3_partsOf 0 = .ok (.iconst 1, 1) := by decide +kernel
theorem dX3_partsOf_1 : decode cX3_partsOf 1 = .ok (.iload_n 0, 1) := by decide +kernel
theorem dX3_partsOf_2 : decode cX3_partsOf 2 = .ok (.invokestatic 75, 3) := by decide +kernel
theorem dX3_partsOf_5 : decode cX3_partsOf 5 = .ok (.ishl, 1) := by decide +kernel
theorem dX3_partsOf_6 : decode cX3_partsOf 6 = .ok (.ireturn, 1) := by decide +kernel
theorem dX3_partAfter_0 : decode cX3_partAfter 0 = .ok (.iload_n 0, 1) := by decide +kernel
theorem dX3_partAfter_1 : decode cX3_partAfter 1 = .ok (.iload_n 1, 1) := by decide +kernel
theorem dX3_partAfter_2 : decode cX3_partAfter 2 = .ok (.isub, 1) := by decide +kernel
theorem dX3_partAfter_3 : decode cX3_partAfter 3 = .ok (.iload_n 1, 1) := by decide +kernel
theorem dX3_partAfter_4 : decode cX3_partAfter 4 = .ok (.iand, 1) := by decide +kernel
theorem dX3_partAfter_5 : decode cX3_partAfter 5 = .ok (.ireturn, 1) := by decide +kernel
theorem dX3_countBetween_0 : decode cX3_countBetween 0 = .ok (.iload_n 1, 1) := by decide +kernel
theorem dX3_countBetween_1 : decode cX3_countBetween 1 = .ok (.iload_n 2, 1) := by decide +kernel
theorem dX3_countBetween_2 : decode cX3_countBetween 2 = .ok (.iconst (-1), 1) := by decide +kernel
theorem dX3_countBetween_3 : decode cX3_countBetween 3 = .ok (.ixor, 1) := by decide +kernel
theorem dX3_countBetween_4 : decode cX3_countBetween 4 = .ok (.iand, 1) := by decide +kernel
theorem dX3_countBetween_5 : decode cX3_countBetween 5 = .ok (.ifCond .eq 5, 3) := by decide +kernel
theorem dX3_countBetween_8 : decode cX3_countBetween 8 = .ok (.iconst 0, 1) := by decide +kernel
theorem dX3_countBetween_9 : decode cX3_countBetween 9 = .ok (.ireturn, 1) := by decide +kernel
theorem dX3_countBetween_10 : decode cX3_countBetween 10 = .ok (.iload_n 2, 1) := by decide +kernel
theorem dX3_countBetween_11 : decode cX3_countBetween 11 = .ok (.iload_n 1, 1) := by decide +kernel
theorem dX3_countBetween_12 : decode cX3_countBetween 12 = .ok (.iconst (-1), 1) := by decide +kernel
theorem dX3_countBetween_13 : decode cX3_countBetween 13 = .ok (.ixor, 1) := by decide +kernel
theorem dX3_countBetween_14 : decode cX3_countBetween 14 = .ok (.iand, 1) := by decide +kernel
theorem dX3_countBetween_15 : decode cX3_countBetween 15 = .ok (.istore_n 3, 1) := by decide +kernel
theorem dX3_countBetween_16 : decode cX3_countBetween 16 = .ok (.iload_n 3, 1) := by decide +kernel
theorem dX3_countBetween_17 : decode cX3_countBetween 17 = .ok (.invokestatic 80, 3) := by decide +kernel
theorem dX3_countBetween_20 : decode cX3_countBetween 20 = .ok (.istore 4, 2) := by decide +kernel
theorem dX3_countBetween_22 : decode cX3_countBetween 22 = .ok (.iconst 0, 1) := by decide +kernel
theorem dX3_countBetween_23 : decode cX3_countBetween 23 = .ok (.istore 5, 2) := by decide +kernel
theorem dX3_countBetween_25 : decode cX3_countBetween 25 = .ok (.iconst 0, 1) := by decide +kernel
theorem dX3_countBetween_26 : decode cX3_countBetween 26 = .ok (.istore 6, 2) := by decide +kernel
theorem dX3_countBetween_28 : decode cX3_countBetween 28 = .ok (.iconst 0, 1) := by decide +kernel
theorem dX3_countBetween_29 : decode cX3_countBetween 29 = .ok (.istore 7, 2) := by decide +kernel
theorem dX3_countBetween_31 : decode cX3_countBetween 31 = .ok (.iload 7, 2) := by decide +kernel
theorem dX3_countBetween_33 : decode cX3_countBetween 33 = .ok (.iload 4, 2) := by decide +kernel
theorem dX3_countBetween_35 : decode cX3_countBetween 35 = .ok (.if_icmp .ge 31, 3) := by decide +kernel
theorem dX3_countBetween_38 : decode cX3_countBetween 38 = .ok (.aload_n 0, 1) := by decide +kernel
theorem dX3_countBetween_39 : decode cX3_countBetween 39 = .ok (.iload_n 1, 1) := by decide +kernel
theorem dX3_countBetween_40 : decode cX3_countBetween 40 = .ok (.iload 5, 2) := by decide +kernel
theorem dX3_countBetween_42 : decode cX3_countBetween 42 = .ok (.ior, 1) := by decide +kernel
theorem dX3_countBetween_43 : decode cX3_countBetween 43 = .ok (.invokevirtual 57, 3) := by decide +kernel
theorem dX3_countBetween_46 : decode cX3_countBetween 46 = .ok (.ifCond .eq 6, 3) := by decide +kernel
theorem dX3_countBetween_49 : decode cX3_countBetween 49 = .ok (.iinc 6 1, 3) := by decide +kernel
theorem dX3_countBetween_52 : decode cX3_countBetween 52 = .ok (.iload 5, 2) := by decide +kernel
theorem dX3_countBetween_54 : decode cX3_countBetween 54 = .ok (.iload_n 3, 1) := by decide +kernel
theorem dX3_countBetween_55 : decode cX3_countBetween 55 = .ok (.invokestatic 83, 3) := by decide +kernel
theorem dX3_countBetween_58 : decode cX3_countBetween 58 = .ok (.istore 5, 2) := by decide +kernel
theorem dX3_countBetween_60 : decode cX3_countBetween 60 = .ok (.iinc 7 1, 3) := by decide +kernel
theorem dX3_countBetween_63 : decode cX3_countBetween 63 = .ok (.goto (-32), 3) := by decide +kernel
theorem dX3_countBetween_66 : decode cX3_countBetween 66 = .ok (.iload 6, 2) := by decide +kernel
theorem dX3_countBetween_68 : decode cX3_countBetween 68 = .ok (.ireturn, 1) := by decide +kernel
theorem dX3_clearTally_0 : decode cX3_clearTally 0 = .ok (.iload_n 2, 1) := by decide +kernel
theorem dX3_clearTally_1 : decode cX3_clearTally 1 = .ok (.iload_n 1, 1) := by decide +kernel
theorem dX3_clearTally_2 : decode cX3_clearTally 2 = .ok (.iconst (-1), 1) := by decide +kernel
theorem dX3_clearTally_3 : decode cX3_clearTally 3 = .ok (.ixor, 1) := by decide +kernel
theorem dX3_clearTally_4 : decode cX3_clearTally 4 = .ok (.iand, 1) := by decide +kernel
theorem dX3_clearTally_5 : decode cX3_clearTally 5 = .ok (.istore_n 3, 1) := by decide +kernel
theorem dX3_clearTally_6 : decode cX3_clearTally 6 = .ok (.iload_n 3, 1) := by decide +kernel
theorem dX3_clearTally_7 : decode cX3_clearTally 7 = .ok (.invokestatic 80, 3) := by decide +kernel
theorem dX3_clearTally_10 : decode cX3_clearTally 10 = .ok (.istore 4, 2) := by decide +kernel
theorem dX3_clearTally_12 : decode cX3_clearTally 12 = .ok (.iconst 0, 1) := by decide +kernel
theorem dX3_clearTally_13 : decode cX3_clearTally 13 = .ok (.istore 5, 2) := by decide +kernel
theorem dX3_clearTally_15 : decode cX3_clearTally 15 = .ok (.iconst 0, 1) := by decide +kernel
theorem dX3_clearTally_16 : decode cX3_clearTally 16 = .ok (.istore 6, 2) := by decide +kernel
theorem dX3_clearTally_18 : decode cX3_clearTally 18 = .ok (.iload 6, 2) := by decide +kernel
theorem dX3_clearTally_20 : decode cX3_clearTally 20 = .ok (.iload 4, 2) := by decide +kernel
theorem dX3_clearTally_22 : decode cX3_clearTally 22 = .ok (.if_icmp .ge 27, 3) := by decide +kernel
theorem dX3_clearTally_25 : decode cX3_clearTally 25 = .ok (.aload_n 0, 1) := by decide +kernel
theorem dX3_clearTally_26 : decode cX3_clearTally 26 = .ok (.getfield 31, 3) := by decide +kernel
theorem dX3_clearTally_29 : decode cX3_clearTally 29 = .ok (.iload_n 1, 1) := by decide +kernel
theorem dX3_clearTally_30 : decode cX3_clearTally 30 = .ok (.iload 5, 2) := by decide +kernel
theorem dX3_clearTally_32 : decode cX3_clearTally 32 = .ok (.ior, 1) := by decide +kernel
theorem dX3_clearTally_33 : decode cX3_clearTally 33 = .ok (.iconst 0, 1) := by decide +kernel
theorem dX3_clearTally_34 : decode cX3_clearTally 34 = .ok (.iastore, 1) := by decide +kernel
theorem dX3_clearTally_35 : decode cX3_clearTally 35 = .ok (.iload 5, 2) := by decide +kernel
theorem dX3_clearTally_37 : decode cX3_clearTally 37 = .ok (.iload_n 3, 1) := by decide +kernel
theorem dX3_clearTally_38 : decode cX3_clearTally 38 = .ok (.invokestatic 83, 3) := by decide +kernel
theorem dX3_clearTally_41 : decode cX3_clearTally 41 = .ok (.istore 5, 2) := by decide +kernel
theorem dX3_clearTally_43 : decode cX3_clearTally 43 = .ok (.iinc 6 1, 3) := by decide +kernel
theorem dX3_clearTally_46 : decode cX3_clearTally 46 = .ok (.goto (-28), 3) := by decide +kernel
theorem dX3_clearTally_49 : decode cX3_clearTally 49 = .ok (.return_, 1) := by decide +kernel
theorem dX3_countChains_0 : decode cX3_countChains 0 = .ok (.iload_n 1, 1) := by decide +kernel
theorem dX3_countChains_1 : decode cX3_countChains 1 = .ok (.iload_n 2, 1) := by decide +kernel
theorem dX3_countChains_2 : decode cX3_countChains 2 = .ok (.iconst (-1), 1) := by decide +kernel
theorem dX3_countChains_3 : decode cX3_countChains 3 = .ok (.ixor, 1) := by decide +kernel
theorem dX3_countChains_4 : decode cX3_countChains 4 = .ok (.iand, 1) := by decide +kernel
theorem dX3_countChains_5 : decode cX3_countChains 5 = .ok (.ifCond .eq 5, 3) := by decide +kernel
theorem dX3_countChains_8 : decode cX3_countChains 8 = .ok (.iconst 0, 1) := by decide +kernel
theorem dX3_countChains_9 : decode cX3_countChains 9 = .ok (.ireturn, 1) := by decide +kernel
theorem dX3_countChains_10 : decode cX3_countChains 10 = .ok (.aload_n 0, 1) := by decide +kernel
theorem dX3_countChains_11 : decode cX3_countChains 11 = .ok (.iload_n 1, 1) := by decide +kernel
theorem dX3_countChains_12 : decode cX3_countChains 12 = .ok (.iload_n 2, 1) := by decide +kernel
theorem dX3_countChains_13 : decode cX3_countChains 13 = .ok (.invokevirtual 86, 3) := by decide +kernel
theorem dX3_countChains_16 : decode cX3_countChains 16 = .ok (.aload_n 0, 1) := by decide +kernel
theorem dX3_countChains_17 : decode cX3_countChains 17 = .ok (.getfield 31, 3) := by decide +kernel
theorem dX3_countChains_20 : decode cX3_countChains 20 = .ok (.iload_n 1, 1) := by decide +kernel
theorem dX3_countChains_21 : decode cX3_countChains 21 = .ok (.iconst 1, 1) := by decide +kernel
theorem dX3_countChains_22 : decode cX3_countChains 22 = .ok (.iastore, 1) := by decide +kernel
theorem dX3_countChains_23 : decode cX3_countChains 23 = .ok (.iload_n 2, 1) := by decide +kernel
theorem dX3_countChains_24 : decode cX3_countChains 24 = .ok (.iload_n 1, 1) := by decide +kernel
theorem dX3_countChains_25 : decode cX3_countChains 25 = .ok (.iconst (-1), 1) := by decide +kernel
theorem dX3_countChains_26 : decode cX3_countChains 26 = .ok (.ixor, 1) := by decide +kernel
theorem dX3_countChains_27 : decode cX3_countChains 27 = .ok (.iand, 1) := by decide +kernel
theorem dX3_countChains_28 : decode cX3_countChains 28 = .ok (.istore_n 3, 1) := by decide +kernel
theorem dX3_countChains_29 : decode cX3_countChains 29 = .ok (.iload_n 3, 1) := by decide +kernel
theorem dX3_countChains_30 : decode cX3_countChains 30 = .ok (.invokestatic 80, 3) := by decide +kernel
theorem dX3_countChains_33 : decode cX3_countChains 33 = .ok (.istore 4, 2) := by decide +kernel
theorem dX3_countChains_35 : decode cX3_countChains 35 = .ok (.iconst 0, 1) := by decide +kernel
theorem dX3_countChains_36 : decode cX3_countChains 36 = .ok (.istore 5, 2) := by decide +kernel
theorem dX3_countChains_38 : decode cX3_countChains 38 = .ok (.iconst 0, 1) := by decide +kernel
theorem dX3_countChains_39 : decode cX3_countChains 39 = .ok (.istore 6, 2) := by decide +kernel
theorem dX3_countChains_41 : decode cX3_countChains 41 = .ok (.iload 6, 2) := by decide +kernel
theorem dX3_countChains_43 : decode cX3_countChains 43 = .ok (.iload 4, 2) := by decide +kernel
theorem dX3_countChains_45 : decode cX3_countChains 45 = .ok (.if_icmp .ge 37, 3) := by decide +kernel
theorem dX3_countChains_48 : decode cX3_countChains 48 = .ok (.aload_n 0, 1) := by decide +kernel
theorem dX3_countChains_49 : decode cX3_countChains 49 = .ok (.iload_n 1, 1) := by decide +kernel
theorem dX3_countChains_50 : decode cX3_countChains 50 = .ok (.iload 5, 2) := by decide +kernel
theorem dX3_countChains_52 : decode cX3_countChains 52 = .ok (.ior, 1) := by decide +kernel
theorem dX3_countChains_53 : decode cX3_countChains 53 = .ok (.invokevirtual 57, 3) := by decide +kernel
theorem dX3_countChains_56 : decode cX3_countChains 56 = .ok (.ifCond .eq 12, 3) := by decide +kernel
theorem dX3_countChains_59 : decode cX3_countChains 59 = .ok (.aload_n 0, 1) := by decide +kernel
theorem dX3_countChains_60 : decode cX3_countChains 60 = .ok (.iload_n 1, 1) := by decide +kernel
theorem dX3_countChains_61 : decode cX3_countChains 61 = .ok (.iload 5, 2) := by decide +kernel
theorem dX3_countChains_63 : decode cX3_countChains 63 = .ok (.ior, 1) := by decide +kernel
theorem dX3_countChains_64 : decode cX3_countChains 64 = .ok (.iload_n 2, 1) := by decide +kernel
theorem dX3_countChains_65 : decode cX3_countChains 65 = .ok (.invokevirtual 90, 3) := by decide +kernel
theorem dX3_countChains_68 : decode cX3_countChains 68 = .ok (.iload 5, 2) := by decide +kernel
theorem dX3_countChains_70 : decode cX3_countChains 70 = .ok (.iload_n 3, 1) := by decide +kernel
theorem dX3_countChains_71 : decode cX3_countChains 71 = .ok (.invokestatic 83, 3) := by decide +kernel
theorem dX3_countChains_74 : decode cX3_countChains 74 = .ok (.istore 5, 2) := by decide +kernel
theorem dX3_countChains_76 : decode cX3_countChains 76 = .ok (.iinc 6 1, 3) := by decide +kernel
theorem dX3_countChains_79 : decode cX3_countChains 79 = .ok (.goto (-38), 3) := by decide +kernel
theorem dX3_countChains_82 : decode cX3_countChains 82 = .ok (.aload_n 0, 1) := by decide +kernel
theorem dX3_countChains_83 : decode cX3_countChains 83 = .ok (.getfield 31, 3) := by decide +kernel
theorem dX3_countChains_86 : decode cX3_countChains 86 = .ok (.iload_n 2, 1) := by decide +kernel
theorem dX3_countChains_87 : decode cX3_countChains 87 = .ok (.iaload, 1) := by decide +kernel
theorem dX3_countChains_88 : decode cX3_countChains 88 = .ok (.ireturn, 1) := by decide +kernel
theorem dX3_passOn_0 : decode cX3_passOn 0 = .ok (.iconst 0, 1) := by decide +kernel
theorem dX3_passOn_1 : decode cX3_passOn 1 = .ok (.istore_n 3, 1) := by decide +kernel
theorem dX3_passOn_2 : decode cX3_passOn 2 = .ok (.iload_n 3, 1) := by decide +kernel
theorem dX3_passOn_3 : decode cX3_passOn 3 = .ok (.aload_n 0, 1) := by decide +kernel
theorem dX3_passOn_4 : decode cX3_passOn 4 = .ok (.getfield 34, 3) := by decide +kernel
theorem dX3_passOn_7 : decode cX3_passOn 7 = .ok (.if_icmp .ge 52, 3) := by decide +kernel
theorem dX3_passOn_10 : decode cX3_passOn 10 = .ok (.iload_n 2, 1) := by decide +kernel
theorem dX3_passOn_11 : decode cX3_passOn 11 = .ok (.iload_n 3, 1) := by decide +kernel
theorem dX3_passOn_12 : decode cX3_passOn 12 = .ok (.ishr, 1) := by decide +kernel
theorem dX3_passOn_13 : decode cX3_passOn 13 = .ok (.iconst 1, 1) := by decide +kernel
theorem dX3_passOn_14 : decode cX3_passOn 14 = .ok (.iand, 1) := by decide +kernel
theorem dX3_passOn_15 : decode cX3_passOn 15 = .ok (.iconst 1, 1) := by decide +kernel
theorem dX3_passOn_16 : decode cX3_passOn 16 = .ok (.if_icmp .ne 12, 3) := by decide +kernel
theorem dX3_passOn_19 : decode cX3_passOn 19 = .ok (.aload_n 0, 1) := by decide +kernel
theorem dX3_passOn_20 : decode cX3_passOn 20 = .ok (.iload_n 1, 1) := by decide +kernel
theorem dX3_passOn_21 : decode cX3_passOn 21 = .ok (.iload_n 3, 1) := by decide +kernel
theorem dX3_passOn_22 : decode cX3_passOn 22 = .ok (.invokevirtual 93, 3) := by decide +kernel
theorem dX3_passOn_25 : decode cX3_passOn 25 = .ok (.goto 4, 3) := by decide +kernel
theorem dX3_passOn_28 : decode cX3_passOn 28 = .ok (.iconst (-1), 1) := by decide +kernel
theorem dX3_passOn_29 : decode cX3_passOn 29 = .ok (.istore 4, 2) := by decide +kernel
theorem dX3_passOn_31 : decode cX3_passOn 31 = .ok (.iload 4, 2) := by decide +kernel
theorem dX3_passOn_33 : decode cX3_passOn 33 = .ok (.iconst (-1), 1) := by decide +kernel
theorem dX3_passOn_34 : decode cX3_passOn 34 = .ok (.if_icmp .eq 19, 3) := by decide +kernel
theorem dX3_passOn_37 : decode cX3_passOn 37 = .ok (.aload_n 0, 1) := by decide +kernel
theorem dX3_passOn_38 : decode cX3_passOn 38 = .ok (.getfield 31, 3) := by decide +kernel
theorem dX3_passOn_41 : decode cX3_passOn 41 = .ok (.iload 4, 2) := by decide +kernel
theorem dX3_passOn_43 : decode cX3_passOn 43 = .ok (.dup2, 1) := by decide +kernel
theorem dX3_passOn_44 : decode cX3_passOn 44 = .ok (.iaload, 1) := by decide +kernel
theorem dX3_passOn_45 : decode cX3_passOn 45 = .ok (.aload_n 0, 1) := by decide +kernel
theorem dX3_passOn_46 : decode cX3_passOn 46 = .ok (.getfield 31, 3) := by decide +kernel
theorem dX3_passOn_49 : decode cX3_passOn 49 = .ok (.iload_n 1, 1) := by decide +kernel
theorem dX3_passOn_50 : decode cX3_passOn 50 = .ok (.iaload, 1) := by decide +kernel
theorem dX3_passOn_51 : decode cX3_passOn 51 = .ok (.iadd, 1) := by decide +kernel
theorem dX3_passOn_52 : decode cX3_passOn 52 = .ok (.iastore, 1) := by decide +kernel
theorem dX3_passOn_53 : decode cX3_passOn 53 = .ok (.iinc 3 1, 3) := by decide +kernel
theorem dX3_passOn_56 : decode cX3_passOn 56 = .ok (.goto (-54), 3) := by decide +kernel
theorem dX3_passOn_59 : decode cX3_passOn 59 = .ok (.return_, 1) := by decide +kernel
theorem dX3_mobiusNumber_0 : decode cX3_mobiusNumber 0 = .ok (.iload_n 1, 1) := by decide +kernel
theorem dX3_mobiusNumber_1 : decode cX3_mobiusNumber 1 = .ok (.iload_n 2, 1) := by decide +kernel
theorem dX3_mobiusNumber_2 : decode cX3_mobiusNumber 2 = .ok (.iconst (-1), 1) := by decide +kernel
theorem dX3_mobiusNumber_3 : decode cX3_mobiusNumber 3 = .ok (.ixor, 1) := by decide +kernel
theorem dX3_mobiusNumber_4 : decode cX3_mobiusNumber 4 = .ok (.iand, 1) := by decide +kernel
theorem dX3_mobiusNumber_5 : decode cX3_mobiusNumber 5 = .ok (.ifCond .eq 5, 3) := by decide +kernel
theorem dX3_mobiusNumber_8 : decode cX3_mobiusNumber 8 = .ok (.iconst 0, 1) := by decide +kernel
theorem dX3_mobiusNumber_9 : decode cX3_mobiusNumber 9 = .ok (.ireturn, 1) := by decide +kernel
theorem dX3_mobiusNumber_10 : decode cX3_mobiusNumber 10 = .ok (.aload_n 0, 1) := by decide +kernel
theorem dX3_mobiusNumber_11 : decode cX3_mobiusNumber 11 = .ok (.iload_n 1, 1) := by decide +kernel
theorem dX3_mobiusNumber_12 : decode cX3_mobiusNumber 12 = .ok (.iload_n 2, 1) := by decide +kernel
theorem dX3_mobiusNumber_13 : decode cX3_mobiusNumber 13 = .ok (.invokevirtual 96, 3) := by decide +kernel
theorem dX3_mobiusNumber_16 : decode cX3_mobiusNumber 16 = .ok (.aload_n 0, 1) := by decide +kernel
theorem dX3_mobiusNumber_17 : decode cX3_mobiusNumber 17 = .ok (.getfield 31, 3) := by decide +kernel
theorem dX3_mobiusNumber_20 : decode cX3_mobiusNumber 20 = .ok (.iload_n 2, 1) := by decide +kernel
theorem dX3_mobiusNumber_21 : decode cX3_mobiusNumber 21 = .ok (.iaload, 1) := by decide +kernel
theorem dX3_mobiusNumber_22 : decode cX3_mobiusNumber 22 = .ok (.ireturn, 1) := by decide +kernel
theorem dX3_tallyMobius_0 : decode cX3_tallyMobius 0 = .ok (.aload_n 0, 1) := by decide +kernel
theorem dX3_tallyMobius_1 : decode cX3_tallyMobius 1 = .ok (.iload_n 1, 1) := by decide +kernel
theorem dX3_tallyMobius_2 : decode cX3_tallyMobius 2 = .ok (.iload_n 2, 1) := by decide +kernel
theorem dX3_tallyMobius_3 : decode cX3_tallyMobius 3 = .ok (.invokevirtual 86, 3) := by decide +kernel
theorem dX3_tallyMobius_6 : decode cX3_tallyMobius 6 = .ok (.iload_n 2, 1) := by decide +kernel
theorem dX3_tallyMobius_7 : decode cX3_tallyMobius 7 = .ok (.iload_n 1, 1) := by decide +kernel
theorem dX3_tallyMobius_8 : decode cX3_tallyMobius 8 = .ok (.iconst (-1), 1) := by decide +kernel
theorem dX3_tallyMobius_9 : decode cX3_tallyMobius 9 = .ok (.ixor, 1) := by decide +kernel
theorem dX3_tallyMobius_10 : decode cX3_tallyMobius 10 = .ok (.iand, 1) := by decide +kernel
theorem dX3_tallyMobius_11 : decode cX3_tallyMobius 11 = .ok (.istore_n 3, 1) := by decide +kernel
theorem dX3_tallyMobius_12 : decode cX3_tallyMobius 12 = .ok (.iload_n 3, 1) := by decide +kernel
theorem dX3_tallyMobius_13 : decode cX3_tallyMobius 13 = .ok (.invokestatic 80, 3) := by decide +kernel
theorem dX3_tallyMobius_16 : decode cX3_tallyMobius 16 = .ok (.istore 4, 2) := by decide +kernel
theorem dX3_tallyMobius_18 : decode cX3_tallyMobius 18 = .ok (.iconst 0, 1) := by decide +kernel
theorem dX3_tallyMobius_19 : decode cX3_tallyMobius 19 = .ok (.istore 5, 2) := by decide +kernel
theorem dX3_tallyMobius_21 : decode cX3_tallyMobius 21 = .ok (.iconst 0, 1) := by decide +kernel
theorem dX3_tallyMobius_22 : decode cX3_tallyMobius 22 = .ok (.istore 6, 2) := by decide +kernel
theorem dX3_tallyMobius_24 : decode cX3_tallyMobius 24 = .ok (.iload 6, 2) := by decide +kernel
theorem dX3_tallyMobius_26 : decode cX3_tallyMobius 26 = .ok (.iload 4, 2) := by decide +kernel
theorem dX3_tallyMobius_28 : decode cX3_tallyMobius 28 = .ok (.if_icmp .ge 42, 3) := by decide +kernel
theorem dX3_tallyMobius_31 : decode cX3_tallyMobius 31 = .ok (.aload_n 0, 1) := by decide +kernel
theorem dX3_tallyMobius_32 : decode cX3_tallyMobius 32 = .ok (.getfield 31, 3) := by decide +kernel
theorem dX3_tallyMobius_35 : decode cX3_tallyMobius 35 = .ok (.aload_n 0, 1) := by decide +kernel
theorem dX3_tallyMobius_36 : decode cX3_tallyMobius 36 = .ok (.getfield 9, 3) := by decide +kernel
theorem dX3_tallyMobius_39 : decode cX3_tallyMobius 39 = .ok (.iload_n 1, 1) := by decide +kernel
theorem dX3_tallyMobius_40 : decode cX3_tallyMobius 40 = .ok (.iload 5, 2) := by decide +kernel
theorem dX3_tallyMobius_42 : decode cX3_tallyMobius 42 = .ok (.ior, 1) := by decide +kernel
theorem dX3_tallyMobius_43 : decode cX3_tallyMobius 43 = .ok (.iaload, 1) := by decide +kernel
theorem dX3_tallyMobius_44 : decode cX3_tallyMobius 44 = .ok (.dup2, 1) := by decide +kernel
theorem dX3_tallyMobius_45 : decode cX3_tallyMobius 45 = .ok (.iaload, 1) := by decide +kernel
theorem dX3_tallyMobius_46 : decode cX3_tallyMobius 46 = .ok (.iload 5, 2) := by decide +kernel
theorem dX3_tallyMobius_48 : decode cX3_tallyMobius 48 = .ok (.invokestatic 75, 3) := by decide +kernel
theorem dX3_tallyMobius_51 : decode cX3_tallyMobius 51 = .ok (.invokestatic 99, 3) := by decide +kernel
theorem dX3_tallyMobius_54 : decode cX3_tallyMobius 54 = .ok (.iadd, 1) := by decide +kernel
theorem dX3_tallyMobius_55 : decode cX3_tallyMobius 55 = .ok (.iastore, 1) := by decide +kernel
theorem dX3_tallyMobius_56 : decode cX3_tallyMobius 56 = .ok (.iload 5, 2) := by decide +kernel
theorem dX3_tallyMobius_58 : decode cX3_tallyMobius 58 = .ok (.iload_n 3, 1) := by decide +kernel
theorem dX3_tallyMobius_59 : decode cX3_tallyMobius 59 = .ok (.invokestatic 83, 3) := by decide +kernel
theorem dX3_tallyMobius_62 : decode cX3_tallyMobius 62 = .ok (.istore 5, 2) := by decide +kernel
theorem dX3_tallyMobius_64 : decode cX3_tallyMobius 64 = .ok (.iinc 6 1, 3) := by decide +kernel
theorem dX3_tallyMobius_67 : decode cX3_tallyMobius 67 = .ok (.goto (-43), 3) := by decide +kernel
theorem dX3_tallyMobius_70 : decode cX3_tallyMobius 70 = .ok (.return_, 1) := by decide +kernel
theorem dX3_signOf_0 : decode cX3_signOf 0 = .ok (.iload_n 0, 1) := by decide +kernel
theorem dX3_signOf_1 : decode cX3_signOf 1 = .ok (.iconst 1, 1) := by decide +kernel
theorem dX3_signOf_2 : decode cX3_signOf 2 = .ok (.iand, 1) := by decide +kernel
theorem dX3_signOf_3 : decode cX3_signOf 3 = .ok (.ifCond .ne 7, 3) := by decide +kernel
theorem dX3_signOf_6 : decode cX3_signOf 6 = .ok (.iconst 1, 1) := by decide +kernel
theorem dX3_signOf_7 : decode cX3_signOf 7 = .ok (.goto 4, 3) := by decide +kernel
theorem dX3_signOf_10 : decode cX3_signOf 10 = .ok (.iconst (-1), 1) := by decide +kernel
theorem dX3_signOf_11 : decode cX3_signOf 11 = .ok (.ireturn, 1) := by decide +kernel
theorem dX3_graded_0 : decode cX3_graded 0 = .ok (.iconst 0, 1) := by decide +kernel
theorem dX3_graded_1 : decode cX3_graded 1 = .ok (.istore_n 1, 1) := by decide +kernel
theorem dX3_graded_2 : decode cX3_graded 2 = .ok (.iload_n 1, 1) := by decide +kernel
theorem dX3_graded_3 : decode cX3_graded 3 = .ok (.aload_n 0, 1) := by decide +kernel
theorem dX3_graded_4 : decode cX3_graded 4 = .ok (.getfield 27, 3) := by decide +kernel
theorem dX3_graded_7 : decode cX3_graded 7 = .ok (.if_icmp .ge 66, 3) := by decide +kernel
theorem dX3_graded_10 : decode cX3_graded 10 = .ok (.iconst 0, 1) := by decide +kernel
theorem dX3_graded_11 : decode cX3_graded 11 = .ok (.istore_n 2, 1) := by decide +kernel
theorem dX3_graded_12 : decode cX3_graded 12 = .ok (.iload_n 2, 1) := by decide +kernel
theorem dX3_graded_13 : decode cX3_graded 13 = .ok (.aload_n 0, 1) := by decide +kernel
theorem dX3_graded_14 : decode cX3_graded 14 = .ok (.getfield 34, 3) := by decide +kernel
theorem dX3_graded_17 : decode cX3_graded 17 = .ok (.if_icmp .ge 50, 3) := by decide +kernel
theorem dX3_graded_20 : decode cX3_graded 20 = .ok (.aload_n 0, 1) := by decide +kernel
theorem dX3_graded_21 : decode cX3_graded 21 = .ok (.aload_n 0, 1) := by decide +kernel
theorem dX3_graded_22 : decode cX3_graded 22 = .ok (.getfield 21, 3) := by decide +kernel
theorem dX3_graded_25 : decode cX3_graded 25 = .ok (.iload_n 1, 1) := by decide +kernel
theorem dX3_graded_26 : decode cX3_graded 26 = .ok (.iaload, 1) := by decide +kernel
theorem dX3_graded_27 : decode cX3_graded 27 = .ok (.iload_n 2, 1) := by decide +kernel
theorem dX3_graded_28 : decode cX3_graded 28 = .ok (.invokevirtual 93, 3) := by decide +kernel
theorem dX3_graded_31 : decode cX3_graded 31 = .ok (.istore_n 3, 1) := by decide +kernel
theorem dX3_graded_32 : decode cX3_graded 32 = .ok (.iload_n 3, 1) := by decide +kernel
theorem dX3_graded_33 : decode cX3_graded 33 = .ok (.iconst (-1), 1) := by decide +kernel
theorem dX3_graded_34 : decode cX3_graded 34 = .ok (.if_icmp .eq 27, 3) := by decide +kernel
theorem dX3_graded_37 : decode cX3_graded 37 = .ok (.aload_n 0, 1) := by decide +kernel
theorem dX3_graded_38 : decode cX3_graded 38 = .ok (.getfield 15, 3) := by decide +kernel
theorem dX3_graded_41 : decode cX3_graded 41 = .ok (.iload_n 3, 1) := by decide +kernel
theorem dX3_graded_42 : decode cX3_graded 42 = .ok (.iaload, 1) := by decide +kernel
theorem dX3_graded_43 : decode cX3_graded 43 = .ok (.aload_n 0, 1) := by decide +kernel
theorem dX3_graded_44 : decode cX3_graded 44 = .ok (.getfield 15, 3) := by decide +kernel
theorem dX3_graded_47 : decode cX3_graded 47 = .ok (.aload_n 0, 1) := by decide +kernel
theorem dX3_graded_48 : decode cX3_graded 48 = .ok (.getfield 21, 3) := by decide +kernel
theorem dX3_graded_51 : decode cX3_graded 51 = .ok (.iload_n 1, 1) := by decide +kernel
theorem dX3_graded_52 : decode cX3_graded 52 = .ok (.iaload, 1) := by decide +kernel
theorem dX3_graded_53 : decode cX3_graded 53 = .ok (.iaload, 1) := by decide +kernel
theorem dX3_graded_54 : decode cX3_graded 54 = .ok (.iconst 1, 1) := by decide +kernel
theorem dX3_graded_55 : decode cX3_graded 55 = .ok (.iadd, 1) := by decide +kernel
theorem dX3_graded_56 : decode cX3_graded 56 = .ok (.if_icmp .eq 5, 3) := by decide +kernel
theorem dX3_graded_59 : decode cX3_graded 59 = .ok (.iconst 0, 1) := by decide +kernel
theorem dX3_graded_60 : decode cX3_graded 60 = .ok (.ireturn, 1) := by decide +kernel
theorem dX3_graded_61 : decode cX3_graded 61 = .ok (.iinc 2 1, 3) := by decide +kernel
theorem dX3_graded_64 : decode cX3_graded 64 = .ok (.goto (-52), 3) := by decide +kernel
theorem dX3_graded_67 : decode cX3_graded 67 = .ok (.iinc 1 1, 3) := by decide +kernel
theorem dX3_graded_70 : decode cX3_graded 70 = .ok (.goto (-68), 3) := by decide +kernel
theorem dX3_graded_73 : decode cX3_graded 73 = .ok (.iconst 1, 1) := by decide +kernel
theorem dX3_graded_74 : decode cX3_graded 74 = .ok (.ireturn, 1) := by decide +kernel
theorem dX3_mobiusAlternates_0 : decode cX3_mobiusAlternates 0 = .ok (.iconst 0, 1) := by decide +kernel
theorem dX3_mobiusAlternates_1 : decode cX3_mobiusAlternates 1 = .ok (.istore_n 1, 1) := by decide +kernel
theorem dX3_mobiusAlternates_2 : decode cX3_mobiusAlternates 2 = .ok (.iload_n 1, 1) := by decide +kernel
theorem dX3_mobiusAlternates_3 : decode cX3_mobiusAlternates 3 = .ok (.aload_n 0, 1) := by decide +kernel
theorem dX3_mobiusAlternates_4 : decode cX3_mobiusAlternates 4 = .ok (.getfield 27, 3) := by decide +kernel
theorem dX3_mobiusAlternates_7 : decode cX3_mobiusAlternates 7 = .ok (.if_icmp .ge 38, 3) := by decide +kernel
theorem dX3_mobiusAlternates_10 : decode cX3_mobiusAlternates 10 = .ok (.aload_n 0, 1) := by decide +kernel
theorem dX3_mobiusAlternates_11 : decode cX3_mobiusAlternates 11 = .ok (.aload_n 0, 1) := by decide +kernel
theorem dX3_mobiusAlternates_12 : decode cX3_mobiusAlternates 12 = .ok (.getfield 21, 3) := by decide +kernel
theorem dX3_mobiusAlternates_15 : decode cX3_mobiusAlternates 15 = .ok (.iload_n 1, 1) := by decide +kernel
theorem dX3_mobiusAlternates_16 : decode cX3_mobiusAlternates 16 = .ok (.iaload, 1) := by decide +kernel
theorem dX3_mobiusAlternates_17 : decode cX3_mobiusAlternates 17 = .ok (.aload_n 0, 1) := by decide +kernel
theorem dX3_mobiusAlternates_18 : decode cX3_mobiusAlternates 18 = .ok (.getfield 37, 3) := by decide +kernel
theorem dX3_mobiusAlternates_21 : decode cX3_mobiusAlternates 21 = .ok (.invokevirtual 96, 3) := by decide +kernel
theorem dX3_mobiusAlternates_24 : decode cX3_mobiusAlternates 24 = .ok (.aload_n 0, 1) := by decide +kernel
theorem dX3_mobiusAlternates_25 : decode cX3_mobiusAlternates 25 = .ok (.aload_n 0, 1) := by decide +kernel
theorem dX3_mobiusAlternates_26 : decode cX3_mobiusAlternates 26 = .ok (.getfield 21, 3) := by decide +kernel
theorem dX3_mobiusAlternates_29 : decode cX3_mobiusAlternates 29 = .ok (.iload_n 1, 1) := by decide +kernel
theorem dX3_mobiusAlternates_30 : decode cX3_mobiusAlternates 30 = .ok (.iaload, 1) := by decide +kernel
theorem dX3_mobiusAlternates_31 : decode cX3_mobiusAlternates 31 = .ok (.invokevirtual 102, 3) := by decide +kernel
theorem dX3_mobiusAlternates_34 : decode cX3_mobiusAlternates 34 = .ok (.ifCond .ne 5, 3) := by decide +kernel
theorem dX3_mobiusAlternates_37 : decode cX3_mobiusAlternates 37 = .ok (.iconst 0, 1) := by decide +kernel
theorem dX3_mobiusAlternates_38 : decode cX3_mobiusAlternates 38 = .ok (.ireturn, 1) := by decide +kernel
theorem dX3_mobiusAlternates_39 : decode cX3_mobiusAlternates 39 = .ok (.iinc 1 1, 3) := by decide +kernel
theorem dX3_mobiusAlternates_42 : decode cX3_mobiusAlternates 42 = .ok (.goto (-40), 3) := by decide +kernel
theorem dX3_mobiusAlternates_45 : decode cX3_mobiusAlternates 45 = .ok (.iconst 1, 1) := by decide +kernel
theorem dX3_mobiusAlternates_46 : decode cX3_mobiusAlternates 46 = .ok (.ireturn, 1) := by decide +kernel
theorem dX3_tallyAlternates_0 : decode cX3_tallyAlternates 0 = .ok (.aload_n 0, 1) := by decide +kernel
theorem dX3_tallyAlternates_1 : decode cX3_tallyAlternates 1 = .ok (.getfield 37, 3) := by decide +kernel
theorem dX3_tallyAlternates_4 : decode cX3_tallyAlternates 4 = .ok (.iload_n 1, 1) := by decide +kernel
theorem dX3_tallyAlternates_5 : decode cX3_tallyAlternates 5 = .ok (.iconst (-1), 1) := by decide +kernel
theorem dX3_tallyAlternates_6 : decode cX3_tallyAlternates 6 = .ok (.ixor, 1) := by decide +kernel
theorem dX3_tallyAlternates_7 : decode cX3_tallyAlternates 7 = .ok (.iand, 1) := by decide +kernel
theorem dX3_tallyAlternates_8 : decode cX3_tallyAlternates 8 = .ok (.istore_n 2, 1) := by decide +kernel
theorem dX3_tallyAlternates_9 : decode cX3_tallyAlternates 9 = .ok (.iload_n 2, 1) := by decide +kernel
theorem dX3_tallyAlternates_10 : decode cX3_tallyAlternates 10 = .ok (.invokestatic 80, 3) := by decide +kernel
theorem dX3_tallyAlternates_13 : decode cX3_tallyAlternates 13 = .ok (.istore_n 3, 1) := by decide +kernel
theorem dX3_tallyAlternates_14 : decode cX3_tallyAlternates 14 = .ok (.iconst 0, 1) := by decide +kernel
theorem dX3_tallyAlternates_15 : decode cX3_tallyAlternates 15 = .ok (.istore 4, 2) := by decide +kernel
theorem dX3_tallyAlternates_17 : decode cX3_tallyAlternates 17 = .ok (.iconst 0, 1) := by decide +kernel
theorem dX3_tallyAlternates_18 : decode cX3_tallyAlternates 18 = .ok (.istore 5, 2) := by decide +kernel
theorem dX3_tallyAlternates_20 : decode cX3_tallyAlternates 20 = .ok (.iload 5, 2) := by decide +kernel
theorem dX3_tallyAlternates_22 : decode cX3_tallyAlternates 22 = .ok (.iload_n 3, 1) := by decide +kernel
theorem dX3_tallyAlternates_23 : decode cX3_tallyAlternates 23 = .ok (.if_icmp .ge 61, 3) := by decide +kernel
theorem dX3_tallyAlternates_26 : decode cX3_tallyAlternates 26 = .ok (.iload_n 1, 1) := by decide +kernel
theorem dX3_tallyAlternates_27 : decode cX3_tallyAlternates 27 = .ok (.iload 4, 2) := by decide +kernel
theorem dX3_tallyAlternates_29 : decode cX3_tallyAlternates 29 = .ok (.ior, 1) := by decide +kernel
theorem dX3_tallyAlternates_30 : decode cX3_tallyAlternates 30 = .ok (.istore 6, 2) := by decide +kernel
theorem dX3_tallyAlternates_32 : decode cX3_tallyAlternates 32 = .ok (.aload_n 0, 1) := by decide +kernel
theorem dX3_tallyAlternates_33 : decode cX3_tallyAlternates 33 = .ok (.iload 6, 2) := by decide +kernel
theorem dX3_tallyAlternates_35 : decode cX3_tallyAlternates 35 = .ok (.invokevirtual 57, 3) := by decide +kernel
theorem dX3_tallyAlternates_38 : decode cX3_tallyAlternates 38 = .ok (.ifCond .eq 32, 3) := by decide +kernel
theorem dX3_tallyAlternates_41 : decode cX3_tallyAlternates 41 = .ok (.aload_n 0, 1) := by decide +kernel
theorem dX3_tallyAlternates_42 : decode cX3_tallyAlternates 42 = .ok (.getfield 31, 3) := by decide +kernel
theorem dX3_tallyAlternates_45 : decode cX3_tallyAlternates 45 = .ok (.iload 6, 2) := by decide +kernel
theorem dX3_tallyAlternates_47 : decode cX3_tallyAlternates 47 = .ok (.iaload, 1) := by decide +kernel
theorem dX3_tallyAlternates_48 : decode cX3_tallyAlternates 48 = .ok (.aload_n 0, 1) := by decide +kernel
theorem dX3_tallyAlternates_49 : decode cX3_tallyAlternates 49 = .ok (.getfield 15, 3) := by decide +kernel
theorem dX3_tallyAlternates_52 : decode cX3_tallyAlternates 52 = .ok (.iload 6, 2) := by decide +kernel
theorem dX3_tallyAlternates_54 : decode cX3_tallyAlternates 54 = .ok (.iaload, 1) := by decide +kernel
theorem dX3_tallyAlternates_55 : decode cX3_tallyAlternates 55 = .ok (.aload_n 0, 1) := by decide +kernel
theorem dX3_tallyAlternates_56 : decode cX3_tallyAlternates 56 = .ok (.getfield 15, 3) := by decide +kernel
theorem dX3_tallyAlternates_59 : decode cX3_tallyAlternates 59 = .ok (.iload_n 1, 1) := by decide +kernel
theorem dX3_tallyAlternates_60 : decode cX3_tallyAlternates 60 = .ok (.iaload, 1) := by decide +kernel
theorem dX3_tallyAlternates_61 : decode cX3_tallyAlternates 61 = .ok (.isub, 1) := by decide +kernel
theorem dX3_tallyAlternates_62 : decode cX3_tallyAlternates 62 = .ok (.invokestatic 99, 3) := by decide +kernel
theorem dX3_tallyAlternates_65 : decode cX3_tallyAlternates 65 = .ok (.if_icmp .eq 5, 3) := by decide +kernel
theorem dX3_tallyAlternates_68 : decode cX3_tallyAlternates 68 = .ok (.iconst 0, 1) := by decide +kernel
theorem dX3_tallyAlternates_69 : decode cX3_tallyAlternates 69 = .ok (.ireturn, 1) := by decide +kernel
theorem dX3_tallyAlternates_70 : decode cX3_tallyAlternates 70 = .ok (.iload 4, 2) := by decide +kernel
theorem dX3_tallyAlternates_72 : decode cX3_tallyAlternates 72 = .ok (.iload_n 2, 1) := by decide +kernel
theorem dX3_tallyAlternates_73 : decode cX3_tallyAlternates 73 = .ok (.invokestatic 83, 3) := by decide +kernel
theorem dX3_tallyAlternates_76 : decode cX3_tallyAlternates 76 = .ok (.istore 4, 2) := by decide +kernel
theorem dX3_tallyAlternates_78 : decode cX3_tallyAlternates 78 = .ok (.iinc 5 1, 3) := by decide +kernel
theorem dX3_tallyAlternates_81 : decode cX3_tallyAlternates 81 = .ok (.goto (-61), 3) := by decide +kernel
theorem dX3_tallyAlternates_84 : decode cX3_tallyAlternates 84 = .ok (.iconst 1, 1) := by decide +kernel
theorem dX3_tallyAlternates_85 : decode cX3_tallyAlternates 85 = .ok (.ireturn, 1) := by decide +kernel
theorem dX3_evenMinusOdd_0 : decode cX3_evenMinusOdd 0 = .ok (.iconst 0, 1) := by decide +kernel
theorem dX3_evenMinusOdd_1 : decode cX3_evenMinusOdd 1 = .ok (.istore_n 1, 1) := by decide +kernel
theorem dX3_evenMinusOdd_2 : decode cX3_evenMinusOdd 2 = .ok (.iconst 0, 1) := by decide +kernel
theorem dX3_evenMinusOdd_3 : decode cX3_evenMinusOdd 3 = .ok (.istore_n 2, 1) := by decide +kernel
theorem dX3_evenMinusOdd_4 : decode cX3_evenMinusOdd 4 = .ok (.iload_n 2, 1) := by decide +kernel
theorem dX3_evenMinusOdd_5 : decode cX3_evenMinusOdd 5 = .ok (.bipush 8, 2) := by decide +kernel
theorem dX3_evenMinusOdd_7 : decode cX3_evenMinusOdd 7 = .ok (.if_icmp .gt 23, 3) := by decide +kernel
theorem dX3_evenMinusOdd_10 : decode cX3_evenMinusOdd 10 = .ok (.iload_n 1, 1) := by decide +kernel
theorem dX3_evenMinusOdd_11 : decode cX3_evenMinusOdd 11 = .ok (.iload_n 2, 1) := by decide +kernel
theorem dX3_evenMinusOdd_12 : decode cX3_evenMinusOdd 12 = .ok (.invokestatic 99, 3) := by decide +kernel
theorem dX3_evenMinusOdd_15 : decode cX3_evenMinusOdd 15 = .ok (.aload_n 0, 1) := by decide +kernel
theorem dX3_evenMinusOdd_16 : decode cX3_evenMinusOdd 16 = .ok (.getfield 24, 3) := by decide +kernel
theorem dX3_evenMinusOdd_19 : decode cX3_evenMinusOdd 19 = .ok (.iload_n 2, 1) := by decide +kernel
theorem dX3_evenMinusOdd_20 : decode cX3_evenMinusOdd 20 = .ok (.iaload, 1) := by decide +kernel
theorem dX3_evenMinusOdd_21 : decode cX3_evenMinusOdd 21 = .ok (.imul, 1) := by decide +kernel
theorem dX3_evenMinusOdd_22 : decode cX3_evenMinusOdd 22 = .ok (.iadd, 1) := by decide +kernel
theorem dX3_evenMinusOdd_23 : decode cX3_evenMinusOdd 23 = .ok (.istore_n 1, 1) := by decide +kernel
theorem dX3_evenMinusOdd_24 : decode cX3_evenMinusOdd 24 = .ok (.iinc 2 1, 3) := by decide +kernel
theorem dX3_evenMinusOdd_27 : decode cX3_evenMinusOdd 27 = .ok (.goto (-23), 3) := by decide +kernel
theorem dX3_evenMinusOdd_30 : decode cX3_evenMinusOdd 30 = .ok (.iload_n 1, 1) := by decide +kernel
theorem dX3_evenMinusOdd_31 : decode cX3_evenMinusOdd 31 = .ok (.ireturn, 1) := by decide +kernel
theorem dX3_cubicBelow_0 : decode cX3_cubicBelow 0 = .ok (.iconst 0, 1) := by decide +kernel
theorem dX3_cubicBelow_1 : decode cX3_cubicBelow 1 = .ok (.istore_n 1, 1) := by decide +kernel
theorem dX3_cubicBelow_2 : decode cX3_cubicBelow 2 = .ok (.iload_n 1, 1) := by decide +kernel
theorem dX3_cubicBelow_3 : decode cX3_cubicBelow 3 = .ok (.iconst 1, 1) := by decide +kernel
theorem dX3_cubicBelow_4 : decode cX3_cubicBelow 4 = .ok (.iadd, 1) := by decide +kernel
theorem dX3_cubicBelow_5 : decode cX3_cubicBelow 5 = .ok (.aload_n 0, 1) := by decide +kernel
theorem dX3_cubicBelow_6 : decode cX3_cubicBelow 6 = .ok (.getfield 27, 3) := by decide +kernel
theorem dX3_cubicBelow_9 : decode cX3_cubicBelow 9 = .ok (.if_icmp .ge 43, 3) := by decide +kernel
theorem dX3_cubicBelow_12 : decode cX3_cubicBelow 12 = .ok (.aload_n 0, 1) := by decide +kernel
theorem dX3_cubicBelow_13 : decode cX3_cubicBelow 13 = .ok (.aload_n 0, 1) := by decide +kernel
theorem dX3_cubicBelow_14 : decode cX3_cubicBelow 14 = .ok (.getfield 21, 3) := by decide +kernel
theorem dX3_cubicBelow_17 : decode cX3_cubicBelow 17 = .ok (.iconst 0, 1) := by decide +kernel
theorem dX3_cubicBelow_18 : decode cX3_cubicBelow 18 = .ok (.iaload, 1) := by decide +kernel
theorem dX3_cubicBelow_19 : decode cX3_cubicBelow 19 = .ok (.aload_n 0, 1) := by decide +kernel
theorem dX3_cubicBelow_20 : decode cX3_cubicBelow 20 = .ok (.getfield 21, 3) := by decide +kernel
theorem dX3_cubicBelow_23 : decode cX3_cubicBelow 23 = .ok (.iload_n 1, 1) := by decide +kernel
theorem dX3_cubicBelow_24 : decode cX3_cubicBelow 24 = .ok (.iaload, 1) := by decide +kernel
theorem dX3_cubicBelow_25 : decode cX3_cubicBelow 25 = .ok (.invokevirtual 105, 3) := by decide +kernel
theorem dX3_cubicBelow_28 : decode cX3_cubicBelow 28 = .ok (.iconst 1, 1) := by decide +kernel
theorem dX3_cubicBelow_29 : decode cX3_cubicBelow 29 = .ok (.aload_n 0, 1) := by decide +kernel
theorem dX3_cubicBelow_30 : decode cX3_cubicBelow 30 = .ok (.getfield 15, 3) := by decide +kernel
theorem dX3_cubicBelow_33 : decode cX3_cubicBelow 33 = .ok (.aload_n 0, 1) := by decide +kernel
theorem dX3_cubicBelow_34 : decode cX3_cubicBelow 34 = .ok (.getfield 21, 3) := by decide +kernel
theorem dX3_cubicBelow_37 : decode cX3_cubicBelow 37 = .ok (.iload_n 1, 1) := by decide +kernel
theorem dX3_cubicBelow_38 : decode cX3_cubicBelow 38 = .ok (.iaload, 1) := by decide +kernel
theorem dX3_cubicBelow_39 : decode cX3_cubicBelow 39 = .ok (.iaload, 1) := by decide +kernel
theorem dX3_cubicBelow_40 : decode cX3_cubicBelow 40 = .ok (.ishl, 1) := by decide +kernel
theorem dX3_cubicBelow_41 : decode cX3_cubicBelow 41 = .ok (.if_icmp .eq 5, 3) := by decide +kernel
theorem dX3_cubicBelow_44 : decode cX3_cubicBelow 44 = .ok (.iconst 0, 1) := by decide +kernel
theorem dX3_cubicBelow_45 : decode cX3_cubicBelow 45 = .ok (.ireturn, 1) := by decide +kernel
theorem dX3_cubicBelow_46 : decode cX3_cubicBelow 46 = .ok (.iinc 1 1, 3) := by decide +kernel
theorem dX3_cubicBelow_49 : decode cX3_cubicBelow 49 = .ok (.goto (-47), 3) := by decide +kernel
theorem dX3_cubicBelow_52 : decode cX3_cubicBelow 52 = .ok (.iconst 1, 1) := by decide +kernel
theorem dX3_cubicBelow_53 : decode cX3_cubicBelow 53 = .ok (.ireturn, 1) := by decide +kernel
theorem dX3_cubicAbove_0 : decode cX3_cubicAbove 0 = .ok (.iconst 1, 1) := by decide +kernel
theorem dX3_cubicAbove_1 : decode cX3_cubicAbove 1 = .ok (.istore_n 1, 1) := by decide +kernel
theorem dX3_cubicAbove_2 : decode cX3_cubicAbove 2 = .ok (.iload_n 1, 1) := by decide +kernel
theorem dX3_cubicAbove_3 : decode cX3_cubicAbove 3 = .ok (.aload_n 0, 1) := by decide +kernel
theorem dX3_cubicAbove_4 : decode cX3_cubicAbove 4 = .ok (.getfield 27, 3) := by decide +kernel
theorem dX3_cubicAbove_7 : decode cX3_cubicAbove 7 = .ok (.if_icmp .ge 46, 3) := by decide +kernel
theorem dX3_cubicAbove_10 : decode cX3_cubicAbove 10 = .ok (.aload_n 0, 1) := by decide +kernel
theorem dX3_cubicAbove_11 : decode cX3_cubicAbove 11 = .ok (.aload_n 0, 1) := by decide +kernel
theorem dX3_cubicAbove_12 : decode cX3_cubicAbove 12 = .ok (.getfield 21, 3) := by decide +kernel
theorem dX3_cubicAbove_15 : decode cX3_cubicAbove 15 = .ok (.iload_n 1, 1) := by decide +kernel
theorem dX3_cubicAbove_16 : decode cX3_cubicAbove 16 = .ok (.iaload, 1) := by decide +kernel
theorem dX3_cubicAbove_17 : decode cX3_cubicAbove 17 = .ok (.aload_n 0, 1) := by decide +kernel
theorem dX3_cubicAbove_18 : decode cX3_cubicAbove 18 = .ok (.getfield 37, 3) := by decide +kernel
theorem dX3_cubicAbove_21 : decode cX3_cubicAbove 21 = .ok (.invokevirtual 105, 3) := by decide +kernel
theorem dX3_cubicAbove_24 : decode cX3_cubicAbove 24 = .ok (.iconst 1, 1) := by decide +kernel
theorem dX3_cubicAbove_25 : decode cX3_cubicAbove 25 = .ok (.aload_n 0, 1) := by decide +kernel
theorem dX3_cubicAbove_26 : decode cX3_cubicAbove 26 = .ok (.invokevirtual 108, 3) := by decide +kernel
theorem dX3_cubicAbove_29 : decode cX3_cubicAbove 29 = .ok (.aload_n 0, 1) := by decide +kernel
theorem dX3_cubicAbove_30 : decode cX3_cubicAbove 30 = .ok (.getfield 15, 3) := by decide +kernel
theorem dX3_cubicAbove_33 : decode cX3_cubicAbove 33 = .ok (.aload_n 0, 1) := by decide +kernel
theorem dX3_cubicAbove_34 : decode cX3_cubicAbove 34 = .ok (.getfield 21, 3) := by decide +kernel
theorem dX3_cubicAbove_37 : decode cX3_cubicAbove 37 = .ok (.iload_n 1, 1) := by decide +kernel
theorem dX3_cubicAbove_38 : decode cX3_cubicAbove 38 = .ok (.iaload, 1) := by decide +kernel
theorem dX3_cubicAbove_39 : decode cX3_cubicAbove 39 = .ok (.iaload, 1) := by decide +kernel
theorem dX3_cubicAbove_40 : decode cX3_cubicAbove 40 = .ok (.isub, 1) := by decide +kernel
theorem dX3_cubicAbove_41 : decode cX3_cubicAbove 41 = .ok (.ishl, 1) := by decide +kernel
theorem dX3_cubicAbove_42 : decode cX3_cubicAbove 42 = .ok (.if_icmp .eq 5, 3) := by decide +kernel
theorem dX3_cubicAbove_45 : decode cX3_cubicAbove 45 = .ok (.iconst 0, 1) := by decide +kernel
theorem dX3_cubicAbove_46 : decode cX3_cubicAbove 46 = .ok (.ireturn, 1) := by decide +kernel
theorem dX3_cubicAbove_47 : decode cX3_cubicAbove 47 = .ok (.iinc 1 1, 3) := by decide +kernel
theorem dX3_cubicAbove_50 : decode cX3_cubicAbove 50 = .ok (.goto (-48), 3) := by decide +kernel
theorem dX3_cubicAbove_53 : decode cX3_cubicAbove 53 = .ok (.iconst 1, 1) := by decide +kernel
theorem dX3_cubicAbove_54 : decode cX3_cubicAbove 54 = .ok (.ireturn, 1) := by decide +kernel
theorem dX4_init_0 : decode cX4_init 0 = .ok (.aload_n 0, 1) := by decide +kernel
theorem dX4_init_1 : decode cX4_init 1 = .ok (.invokespecial 3, 3) := by decide +kernel
theorem dX4_init_4 : decode cX4_init 4 = .ok (.aload_n 0, 1) := by decide +kernel
theorem dX4_init_5 : decode cX4_init 5 = .ok (.bipush 8, 2) := by decide +kernel
theorem dX4_init_7 : decode cX4_init 7 = .ok (.newarray .int, 2) := by decide +kernel
theorem dX4_init_9 : decode cX4_init 9 = .ok (.putfield 9, 3) := by decide +kernel
theorem dX4_init_12 : decode cX4_init 12 = .ok (.aload_n 0, 1) := by decide +kernel
theorem dX4_init_13 : decode cX4_init 13 = .ok (.bipush 8, 2) := by decide +kernel
theorem dX4_init_15 : decode cX4_init 15 = .ok (.newarray .int, 2) := by decide +kernel
theorem dX4_init_17 : decode cX4_init 17 = .ok (.putfield 15, 3) := by decide +kernel
theorem dX4_init_20 : decode cX4_init 20 = .ok (.aload_n 0, 1) := by decide +kernel
theorem dX4_init_21 : decode cX4_init 21 = .ok (.bipush 8, 2) := by decide +kernel
theorem dX4_init_23 : decode cX4_init 23 = .ok (.newarray .int, 2) := by decide +kernel
theorem dX4_init_25 : decode cX4_init 25 = .ok (.putfield 18, 3) := by decide +kernel
theorem dX4_init_28 : decode cX4_init 28 = .ok (.aload_n 0, 1) := by decide +kernel
theorem dX4_init_29 : decode cX4_init 29 = .ok (.bipush 8, 2) := by decide +kernel
theorem dX4_init_31 : decode cX4_init 31 = .ok (.newarray .long, 2) := by decide +kernel
theorem dX4_init_33 : decode cX4_init 33 = .ok (.putfield 21, 3) := by decide +kernel
theorem dX4_init_36 : decode cX4_init 36 = .ok (.aload_n 0, 1) := by decide +kernel
theorem dX4_init_37 : decode cX4_init 37 = .ok (.bipush 8, 2) := by decide +kernel
theorem dX4_init_39 : decode cX4_init 39 = .ok (.newarray .long, 2) := by decide +kernel
theorem dX4_init_41 : decode cX4_init 41 = .ok (.putfield 25, 3) := by decide +kernel
theorem dX4_init_44 : decode cX4_init 44 = .ok (.aload_n 0, 1) := by decide +kernel
theorem dX4_init_45 : decode cX4_init 45 = .ok (.bipush 10, 2) := by decide +kernel
theorem dX4_init_47 : decode cX4_init 47 = .ok (.newarray .int, 2) := by decide +kernel
theorem dX4_init_49 : decode cX4_init 49 = .ok (.putfield 28, 3) := by decide +kernel
theorem dX4_init_52 : decode cX4_init 52 = .ok (.aload_n 0, 1) := by decide +kernel
theorem dX4_init_53 : decode cX4_init 53 = .ok (.bipush 10, 2) := by decide +kernel
theorem dX4_init_55 : decode cX4_init 55 = .ok (.newarray .int, 2) := by decide +kernel
theorem dX4_init_57 : decode cX4_init 57 = .ok (.putfield 31, 3) := by decide +kernel
theorem dX4_init_60 : decode cX4_init 60 = .ok (.aload_n 0, 1) := by decide +kernel
theorem dX4_init_61 : decode cX4_init 61 = .ok (.sipush 256, 3) := by decide +kernel
theorem dX4_init_64 : decode cX4_init 64 = .ok (.newarray .int, 2) := by decide +kernel
theorem dX4_init_66 : decode cX4_init 66 = .ok (.putfield 34, 3) := by decide +kernel
theorem dX4_init_69 : decode cX4_init 69 = .ok (.return_, 1) := by decide +kernel
theorem dX4_find_0 : decode cX4_find 0 = .ok (.aload_n 0, 1) := by decide +kernel
theorem dX4_find_1 : decode cX4_find 1 = .ok (.aload_n 1, 1) := by decide +kernel
theorem dX4_find_2 : decode cX4_find 2 = .ok (.aload_n 2, 1) := by decide +kernel
theorem dX4_find_3 : decode cX4_find 3 = .ok (.iconst 0, 1) := by decide +kernel
theorem dX4_find_4 : decode cX4_find 4 = .ok (.invokevirtual 37, 3) := by decide +kernel
theorem dX4_find_7 : decode cX4_find 7 = .ok (.aload_n 0, 1) := by decide +kernel
theorem dX4_find_8 : decode cX4_find 8 = .ok (.aload_n 1, 1) := by decide +kernel
theorem dX4_find_9 : decode cX4_find 9 = .ok (.getfield 41, 3) := by decide +kernel
theorem dX4_find_12 : decode cX4_find 12 = .ok (.invokevirtual 47, 3) := by decide +kernel
theorem dX4_find_15 : decode cX4_find 15 = .ok (.ifCond .eq 16, 3) := by decide +kernel
theorem dX4_find_18 : decode cX4_find 18 = .ok (.aload_n 0, 1) := by decide +kernel
theorem dX4_find_19 : decode cX4_find 19 = .ok (.aload_n 1, 1) := by decide +kernel
theorem dX4_find_20 : decode cX4_find 20 = .ok (.aload_n 2, 1) := by decide +kernel
theorem dX4_find_21 : decode cX4_find 21 = .ok (.invokevirtual 51, 3) := by decide +kernel
theorem dX4_find_24 : decode cX4_find 24 = .ok (.ifCond .eq 7, 3) := by decide +kernel
theorem dX4_find_27 : decode cX4_find 27 = .ok (.iconst 1, 1) := by decide +kernel
theorem dX4_find_28 : decode cX4_find 28 = .ok (.goto 4, 3) := by decide +kernel
theorem dX4_find_31 : decode cX4_find 31 = .ok (.iconst 0, 1) := by decide +kernel
theorem dX4_find_32 : decode cX4_find 32 = .ok (.ireturn, 1) := by decide +kernel
theorem dX4_countOnto_0 : decode cX4_countOnto 0 = .ok (.aload_n 0, 1) := by decide +kernel
theorem dX4_countOnto_1 : decode cX4_countOnto 1 = .ok (.aload_n 1, 1) := by decide +kernel
theorem dX4_countOnto_2 : decode cX4_countOnto 2 = .ok (.aload_n 1, 1) := by decide +kernel
theorem dX4_countOnto_3 : decode cX4_countOnto 3 = .ok (.iconst 0, 1) := by decide +kernel
theorem dX4_countOnto_4 : decode cX4_countOnto 4 = .ok (.invokevirtual 37, 3) := by decide +kernel
theorem dX4_countOnto_7 : decode cX4_countOnto 7 = .ok (.iconst 1, 1) := by decide +kernel
theorem dX4_countOnto_8 : decode cX4_countOnto 8 = .ok (.istore_n 2, 1) := by decide +kernel
theorem dX4_countOnto_9 : decode cX4_countOnto 9 = .ok (.iconst 0, 1) := by decide +kernel
theorem dX4_countOnto_10 : decode cX4_countOnto 10 = .ok (.istore_n 3, 1) := by decide +kernel
theorem dX4_countOnto_11 : decode cX4_countOnto 11 = .ok (.iload_n 3, 1) := by decide +kernel
theorem dX4_countOnto_12 : decode cX4_countOnto 12 = .ok (.aload_n 1, 1) := by decide +kernel
theorem dX4_countOnto_13 : decode cX4_countOnto 13 = .ok (.getfield 41, 3) := by decide +kernel
theorem dX4_countOnto_16 : decode cX4_countOnto 16 = .ok (.if_icmp .ge 30, 3) := by decide +kernel
theorem dX4_countOnto_19 : decode cX4_countOnto 19 = .ok (.iload_n 2, 1) := by decide +kernel
theorem dX4_countOnto_20 : decode cX4_countOnto 20 = .ok (.aload_n 0, 1) := by decide +kernel
theorem dX4_countOnto_21 : decode cX4_countOnto 21 = .ok (.iload_n 3, 1) := by decide +kernel
theorem dX4_countOnto_22 : decode cX4_countOnto 22 = .ok (.aload_n 1, 1) := by decide +kernel
theorem dX4_countOnto_23 : decode cX4_countOnto 23 = .ok (.invokevirtual 55, 3) := by decide +kernel
theorem dX4_countOnto_26 : decode cX4_countOnto 26 = .ok (.invokestatic 59, 3) := by decide +kernel
theorem dX4_countOnto_29 : decode cX4_countOnto 29 = .ok (.imul, 1) := by decide +kernel
theorem dX4_countOnto_30 : decode cX4_countOnto 30 = .ok (.istore_n 2, 1) := by decide +kernel
theorem dX4_countOnto_31 : decode cX4_countOnto 31 = .ok (.aload_n 0, 1) := by decide +kernel
theorem dX4_countOnto_32 : decode cX4_countOnto 32 = .ok (.getfield 18, 3) := by decide +kernel
theorem dX4_countOnto_35 : decode cX4_countOnto 35 = .ok (.iload_n 3, 1) := by decide +kernel
theorem dX4_countOnto_36 : decode cX4_countOnto 36 = .ok (.iconst 1, 1) := by decide +kernel
theorem dX4_countOnto_37 : decode cX4_countOnto 37 = .ok (.iload_n 3, 1) := by decide +kernel
theorem dX4_countOnto_38 : decode cX4_countOnto 38 = .ok (.ishl, 1) := by decide +kernel
theorem dX4_countOnto_39 : decode cX4_countOnto 39 = .ok (.iastore, 1) := by decide +kernel
theorem dX4_countOnto_40 : decode cX4_countOnto 40 = .ok (.iinc 3 1, 3) := by decide +kernel
theorem dX4_countOnto_43 : decode cX4_countOnto 43 = .ok (.goto (-32), 3) := by decide +kernel
theorem dX4_countOnto_46 : decode cX4_countOnto 46 = .ok (.iload_n 2, 1) := by decide +kernel
theorem dX4_countOnto_47 : decode cX4_countOnto 47 = .ok (.ireturn, 1) := by decide +kernel
theorem dX4_imagesOnto_0 : decode cX4_imagesOnto 0 = .ok (.aload_n 0, 1) := by decide +kernel
theorem dX4_imagesOnto_1 : decode cX4_imagesOnto 1 = .ok (.aload_n 1, 1) := by decide +kernel
theorem dX4_imagesOnto_2 : decode cX4_imagesOnto 2 = .ok (.aload_n 1, 1) := by decide +kernel
theorem dX4_imagesOnto_3 : decode cX4_imagesOnto 3 = .ok (.iload_n 2, 1) := by decide +kernel
theorem dX4_imagesOnto_4 : decode cX4_imagesOnto 4 = .ok (.invokevirtual 37, 3) := by decide +kernel
theorem dX4_imagesOnto_7 : decode cX4_imagesOnto 7 = .ok (.aload_n 0, 1) := by decide +kernel
theorem dX4_imagesOnto_8 : decode cX4_imagesOnto 8 = .ok (.iload_n 2, 1) := by decide +kernel
theorem dX4_imagesOnto_9 : decode cX4_imagesOnto 9 = .ok (.aload_n 1, 1) := by decide +kernel
theorem dX4_imagesOnto_10 : decode cX4_imagesOnto 10 = .ok (.invokevirtual 55, 3) := by decide +kernel
theorem dX4_imagesOnto_13 : decode cX4_imagesOnto 13 = .ok (.ireturn, 1) := by decide +kernel
theorem dX4_begin_0 : decode cX4_begin 0 = .ok (.aload_n 1, 1) := by decide +kernel
theorem dX4_begin_1 : decode cX4_begin 1 = .ok (.aload_n 0, 1) := by decide +kernel
theorem dX4_begin_2 : decode cX4_begin 2 = .ok (.getfield 21, 3) := by decide +kernel
theorem dX4_begin_5 : decode cX4_begin 5 = .ok (.invokestatic 65, 3) := by decide +kernel
theorem dX4_begin_8 : decode cX4_begin 8 = .ok (.aload_n 2, 1) := by decide +kernel
theorem dX4_begin_9 : decode cX4_begin 9 = .ok (.aload_n 0, 1) := by decide +kernel
theorem dX4_begin_10 : decode cX4_begin 10 = .ok (.getfield 25, 3) := by decide +kernel
theorem dX4_begin_13 : decode cX4_begin 13 = .ok (.invokestatic 65, 3) := by decide +kernel
theorem dX4_begin_16 : decode cX4_begin 16 = .ok (.iconst 0, 1) := by decide +kernel
theorem dX4_begin_17 : decode cX4_begin 17 = .ok (.istore 4, 2) := by decide +kernel
theorem dX4_begin_19 : decode cX4_begin 19 = .ok (.iload 4, 2) := by decide +kernel
theorem dX4_begin_21 : decode cX4_begin 21 = .ok (.aload_n 1, 1) := by decide +kernel
theorem dX4_begin_22 : decode cX4_begin 22 = .ok (.getfield 41, 3) := by decide +kernel
theorem dX4_begin_25 : decode cX4_begin 25 = .ok (.if_icmp .ge 65, 3) := by decide +kernel
theorem dX4_begin_28 : decode cX4_begin 28 = .ok (.aload_n 0, 1) := by decide +kernel
theorem dX4_begin_29 : decode cX4_begin 29 = .ok (.getfield 15, 3) := by decide +kernel
theorem dX4_begin_32 : decode cX4_begin 32 = .ok (.iload 4, 2) := by decide +kernel
theorem dX4_begin_34 : decode cX4_begin 34 = .ok (.iload 4, 2) := by decide +kernel
theorem dX4_begin_36 : decode cX4_begin 36 = .ok (.ifCond .ne 7, 3) := by decide +kernel
theorem dX4_begin_39 : decode cX4_begin 39 = .ok (.iload_n 3, 1) := by decide +kernel
theorem dX4_begin_40 : decode cX4_begin 40 = .ok (.goto 18, 3) := by decide +kernel
theorem dX4_begin_43 : decode cX4_begin 43 = .ok (.iload 4, 2) := by decide +kernel
theorem dX4_begin_45 : decode cX4_begin 45 = .ok (.iload_n 3, 1) := by decide +kernel
theorem dX4_begin_46 : decode cX4_begin 46 = .ok (.if_icmp .gt 10, 3) := by decide +kernel
theorem dX4_begin_49 : decode cX4_begin 49 = .ok (.iload 4, 2) := by decide +kernel
theorem dX4_begin_51 : decode cX4_begin 51 = .ok (.iconst 1, 1) := by decide +kernel
theorem dX4_begin_52 : decode cX4_begin 52 = .ok (.isub, 1) := by decide +kernel
theorem dX4_begin_53 : decode cX4_begin 53 = .ok (.goto 5, 3) := by decide +kernel
theorem dX4_begin_56 : decode cX4_begin 56 = .ok (.iload 4, 2) := by decide +kernel
theorem dX4_begin_58 : decode cX4_begin 58 = .ok (.iastore, 1) := by decide +kernel
theorem dX4_begin_59 : decode cX4_begin 59 = .ok (.aload_n 0, 1) := by decide +kernel
theorem dX4_begin_60 : decode cX4_begin 60 = .ok (.getfield 18, 3) := by decide +kernel
theorem dX4_begin_63 : decode cX4_begin 63 = .ok (.iload 4, 2) := by decide +kernel
theorem dX4_begin_65 : decode cX4_begin 65 = .ok (.aload_n 0, 1) := by decide +kernel
theorem dX4_begin_66 : decode cX4_begin 66 = .ok (.getfield 21, 3) := by decide +kernel
theorem dX4_begin_69 : decode cX4_begin 69 = .ok (.iload 4, 2) := by decide +kernel
theorem dX4_begin_71 : decode cX4_begin 71 = .ok (.laload, 1) := by decide +kernel
theorem dX4_begin_72 : decode cX4_begin 72 = .ok (.aload_n 0, 1) := by decide +kernel
theorem dX4_begin_73 : decode cX4_begin 73 = .ok (.getfield 25, 3) := by decide +kernel
theorem dX4_begin_76 : decode cX4_begin 76 = .ok (.aload_n 2, 1) := by decide +kernel
theorem dX4_begin_77 : decode cX4_begin 77 = .ok (.getfield 41, 3) := by decide +kernel
theorem dX4_begin_80 : decode cX4_begin 80 = .ok (.invokestatic 69, 3) := by decide +kernel
theorem dX4_begin_83 : decode cX4_begin 83 = .ok (.iastore, 1) := by decide +kernel
theorem dX4_begin_84 : decode cX4_begin 84 = .ok (.iinc 4 1, 3) := by decide +kernel
theorem dX4_begin_87 : decode cX4_begin 87 = .ok (.goto (-68), 3) := by decide +kernel
theorem dX4_begin_90 : decode cX4_begin 90 = .ok (.return_, 1) := by decide +kernel
theorem dX4_sign_0 : decode cX4_sign 0 = .ok (.iconst 0, 1) := by decide +kernel
theorem dX4_sign_1 : decode cX4_sign 1 = .ok (.istore_n 2, 1) := by decide +kernel
theorem dX4_sign_2 : decode cX4_sign 2 = .ok (.iload_n 2, 1) := by decide +kernel
theorem dX4_sign_3 : decode cX4_sign 3 = .ok (.aload_n 0, 1) := by decide +kernel
theorem dX4_sign_4 : decode cX4_sign 4 = .ok (.getfield 41, 3) := by decide +kernel
theorem dX4_sign_7 : decode cX4_sign 7 = .ok (.if_icmp .ge 57, 3) := by decide +kernel
theorem dX4_sign_10 : decode cX4_sign 10 = .ok (.aload_n 1, 1) := by decide +kernel
theorem dX4_sign_11 : decode cX4_sign 11 = .ok (.iload_n 2, 1) := by decide +kernel
theorem dX4_sign_12 : decode cX4_sign 12 = .ok (.lconst 0, 1) := by decide +kernel
theorem dX4_sign_13 : decode cX4_sign 13 = .ok (.lastore, 1) := by decide +kernel
theorem dX4_sign_14 : decode cX4_sign 14 = .ok (.iconst 0, 1) := by decide +kernel
theorem dX4_sign_15 : decode cX4_sign 15 = .ok (.istore_n 3, 1) := by decide +kernel
theorem dX4_sign_16 : decode cX4_sign 16 = .ok (.iload_n 3, 1) := by decide +kernel
theorem dX4_sign_17 : decode cX4_sign 17 = .ok (.aload_n 0, 1) := by decide +kernel
theorem dX4_sign_18 : decode cX4_sign 18 = .ok (.getfield 73, 3) := by decide +kernel
theorem dX4_sign_21 : decode cX4_sign 21 = .ok (.if_icmp .ge 37, 3) := by decide +kernel
theorem dX4_sign_24 : decode cX4_sign 24 = .ok (.aload_n 0, 1) := by decide +kernel
theorem dX4_sign_25 : decode cX4_sign 25 = .ok (.iload_n 3, 1) := by decide +kernel
theorem dX4_sign_26 : decode cX4_sign 26 = .ok (.iload_n 2, 1) := by decide +kernel
theorem dX4_sign_27 : decode cX4_sign 27 = .ok (.invokevirtual 76, 3) := by decide +kernel
theorem dX4_sign_30 : decode cX4_sign 30 = .ok (.ifCond .eq 22, 3) := by decide +kernel
theorem dX4_sign_33 : decode cX4_sign 33 = .ok (.aload_n 1, 1) := by decide +kernel
theorem dX4_sign_34 : decode cX4_sign 34 = .ok (.iload_n 2, 1) := by decide +kernel
theorem dX4_sign_35 : decode cX4_sign 35 = .ok (.dup2, 1) := by decide +kernel
theorem dX4_sign_36 : decode cX4_sign 36 = .ok (.laload, 1) := by decide +kernel
theorem dX4_sign_37 : decode cX4_sign 37 = .ok (.lconst 1, 1) := by decide +kernel
theorem dX4_sign_38 : decode cX4_sign 38 = .ok (.iconst 4, 1) := by decide +kernel
theorem dX4_sign_39 : decode cX4_sign 39 = .ok (.aload_n 0, 1) := by decide +kernel
theorem dX4_sign_40 : decode cX4_sign 40 = .ok (.getfield 80, 3) := by decide +kernel
theorem dX4_sign_43 : decode cX4_sign 43 = .ok (.iload_n 3, 1) := by decide +kernel
theorem dX4_sign_44 : decode cX4_sign 44 = .ok (.iaload, 1) := by decide +kernel
theorem dX4_sign_45 : decode cX4_sign 45 = .ok (.invokestatic 59, 3) := by decide +kernel
theorem dX4_sign_48 : decode cX4_sign 48 = .ok (.imul, 1) := by decide +kernel
theorem dX4_sign_49 : decode cX4_sign 49 = .ok (.lshl, 1) := by decide +kernel
theorem dX4_sign_50 : decode cX4_sign 50 = .ok (.ladd, 1) := by decide +kernel
theorem dX4_sign_51 : decode cX4_sign 51 = .ok (.lastore, 1) := by decide +kernel
theorem dX4_sign_52 : decode cX4_sign 52 = .ok (.iinc 3 1, 3) := by decide +kernel
theorem dX4_sign_55 : decode cX4_sign 55 = .ok (.goto (-39), 3) := by decide +kernel
theorem dX4_sign_58 : decode cX4_sign 58 = .ok (.iinc 2 1, 3) := by decide +kernel
theorem dX4_sign_61 : decode cX4_sign 61 = .ok (.goto (-59), 3) := by decide +kernel
theorem dX4_sign_64 : decode cX4_sign 64 = .ok (.return_, 1) := by decide +kernel
theorem dX4_alike_0 : decode cX4_alike 0 = .ok (.iconst 0, 1) := by decide +kernel
theorem dX4_alike_1 : decode cX4_alike 1 = .ok (.istore 4, 2) := by decide +kernel
theorem dX4_alike_3 : decode cX4_alike 3 = .ok (.iconst 0, 1) := by decide +kernel
theorem dX4_alike_4 : decode cX4_alike 4 = .ok (.istore 5, 2) := by decide +kernel
theorem dX4_alike_6 : decode cX4_alike 6 = .ok (.iload 5, 2) := by decide +kernel
theorem dX4_alike_8 : decode cX4_alike 8 = .ok (.iload_n 3, 1) := by decide +kernel
theorem dX4_alike_9 : decode cX4_alike 9 = .ok (.if_icmp .ge 27, 3) := by decide +kernel
theorem dX4_alike_12 : decode cX4_alike 12 = .ok (.aload_n 2, 1) := by decide +kernel
theorem dX4_alike_13 : decode cX4_alike 13 = .ok (.iload 5, 2) := by decide +kernel
theorem dX4_alike_15 : decode cX4_alike 15 = .ok (.laload, 1) := by decide +kernel
theorem dX4_alike_16 : decode cX4_alike 16 = .ok (.lload_n 0, 1) := by decide +kernel
theorem dX4_alike_17 : decode cX4_alike 17 = .ok (.lcmp, 1) := by decide +kernel
theorem dX4_alike_18 : decode cX4_alike 18 = .ok (.ifCond .ne 12, 3) := by decide +kernel
theorem dX4_alike_21 : decode cX4_alike 21 = .ok (.iload 4, 2) := by decide +kernel
theorem dX4_alike_23 : decode cX4_alike 23 = .ok (.iconst 1, 1) := by decide +kernel
theorem dX4_alike_24 : decode cX4_alike 24 = .ok (.iload 5, 2) := by decide +kernel
theorem dX4_alike_26 : decode cX4_alike 26 = .ok (.ishl, 1) := by decide +kernel
theorem dX4_alike_27 : decode cX4_alike 27 = .ok (.ior, 1) := by decide +kernel
theorem dX4_alike_28 : decode cX4_alike 28 = .ok (.istore 4, 2) := by decide +kernel
theorem dX4_alike_30 : decode cX4_alike 30 = .ok (.iinc 5 1, 3) := by decide +kernel
theorem dX4_alike_33 : decode cX4_alike 33 = .ok (.goto (-27), 3) := by decide +kernel
theorem dX4_alike_36 : decode cX4_alike 36 = .ok (.iload 4, 2) := by decide +kernel
theorem dX4_alike_38 : decode cX4_alike 38 = .ok (.ireturn, 1) := by decide +kernel
theorem dX4_signaturesMatch_0 : decode cX4_signaturesMatch 0 = .ok (.iconst 0, 1) := by decide +kernel
theorem dX4_signaturesMatch_1 : decode cX4_signaturesMatch 1 = .ok (.istore_n 2, 1) := by decide +kernel
theorem dX4_signaturesMatch_2 : decode cX4_signaturesMatch 2 = .ok (.iload_n 2, 1) := by decide +kernel
theorem dX4_signaturesMatch_3 : decode cX4_signaturesMatch 3 = .ok (.iload_n 1, 1) := by decide +kernel
theorem dX4_signaturesMatch_4 : decode cX4_signaturesMatch 4 = .ok (.if_icmp .ge 42, 3) := by decide +kernel
theorem dX4_signaturesMatch_7 : decode cX4_signaturesMatch 7 = .ok (.aload_n 0, 1) := by decide +kernel
theorem dX4_signaturesMatch_8 : decode cX4_signaturesMatch 8 = .ok (.getfield 21, 3) := by decide +kernel
theorem dX4_signaturesMatch_11 : decode cX4_signaturesMatch 11 = .ok (.iload_n 2, 1) := by decide +kernel
theorem dX4_signaturesMatch_12 : decode cX4_signaturesMatch 12 = .ok (.laload, 1) := by decide +kernel
theorem dX4_signaturesMatch_13 : decode cX4_signaturesMatch 13 = .ok (.aload_n 0, 1) := by decide +kernel
theorem dX4_signaturesMatch_14 : decode cX4_signaturesMatch 14 = .ok (.getfield 21, 3) := by decide +kernel
theorem dX4_signaturesMatch_17 : decode cX4_signaturesMatch 17 = .ok (.iload_n 1, 1) := by decide +kernel
theorem dX4_signaturesMatch_18 : decode cX4_signaturesMatch 18 = .ok (.invokestatic 69, 3) := by decide +kernel
theorem dX4_signaturesMatch_21 : decode cX4_signaturesMatch 21 = .ok (.istore_n 3, 1) := by decide +kernel
theorem dX4_signaturesMatch_22 : decode cX4_signaturesMatch 22 = .ok (.iload_n 3, 1) := by decide +kernel
theorem dX4_signaturesMatch_23 : decode cX4_signaturesMatch 23 = .ok (.invokestatic 59, 3) := by decide +kernel
theorem dX4_signaturesMatch_26 : decode cX4_signaturesMatch 26 = .ok (.aload_n 0, 1) := by decide +kernel
theorem dX4_signaturesMatch_27 : decode cX4_signaturesMatch 27 = .ok (.getfield 18, 3) := by decide +kernel
theorem dX4_signaturesMatch_30 : decode cX4_signaturesMatch 30 = .ok (.iload_n 2, 1) := by decide +kernel
theorem dX4_signaturesMatch_31 : decode cX4_signaturesMatch 31 = .ok (.iaload, 1) := by decide +kernel
theorem dX4_signaturesMatch_32 : decode cX4_signaturesMatch 32 = .ok (.invokestatic 59, 3) := by decide +kernel
theorem dX4_signaturesMatch_35 : decode cX4_signaturesMatch 35 = .ok (.if_icmp .eq 5, 3) := by decide +kernel
theorem dX4_signaturesMatch_38 : decode cX4_signaturesMatch 38 = .ok (.iconst 0, 1) := by decide +kernel
theorem dX4_signaturesMatch_39 : decode cX4_signaturesMatch 39 = .ok (.ireturn, 1) := by decide +kernel
theorem dX4_signaturesMatch_40 : decode cX4_signaturesMatch 40 = .ok (.iinc 2 1, 3) := by decide +kernel
theorem dX4_signaturesMatch_43 : decode cX4_signaturesMatch 43 = .ok (.goto (-41), 3) := by decide +kernel
theorem dX4_signaturesMatch_46 : decode cX4_signaturesMatch 46 = .ok (.iconst 1, 1) := by decide +kernel
theorem dX4_signaturesMatch_47 : decode cX4_signaturesMatch 47 = .ok (.ireturn, 1) := by decide +kernel
theorem dX4_imagesOf_0 : decode cX4_imagesOf 0 = .ok (.aload_n 0, 1) := by decide +kernel
theorem dX4_imagesOf_1 : decode cX4_imagesOf 1 = .ok (.getfield 18, 3) := by decide +kernel
theorem dX4_imagesOf_4 : decode cX4_imagesOf 4 = .ok (.iload_n 1, 1) := by decide +kernel
theorem dX4_imagesOf_5 : decode cX4_imagesOf 5 = .ok (.iaload, 1) := by decide +kernel
theorem dX4_imagesOf_6 : decode cX4_imagesOf 6 = .ok (.istore_n 3, 1) := by decide +kernel
theorem dX4_imagesOf_7 : decode cX4_imagesOf 7 = .ok (.iconst 0, 1) := by decide +kernel
theorem dX4_imagesOf_8 : decode cX4_imagesOf 8 = .ok (.istore 4, 2) := by decide +kernel
theorem dX4_imagesOf_10 : decode cX4_imagesOf 10 = .ok (.iconst 0, 1) := by decide +kernel
theorem dX4_imagesOf_11 : decode cX4_imagesOf 11 = .ok (.istore 5, 2) := by decide +kernel
theorem dX4_imagesOf_13 : decode cX4_imagesOf 13 = .ok (.iload 5, 2) := by decide +kernel
theorem dX4_imagesOf_15 : decode cX4_imagesOf 15 = .ok (.aload_n 2, 1) := by decide +kernel
theorem dX4_imagesOf_16 : decode cX4_imagesOf 16 = .ok (.getfield 41, 3) := by decide +kernel
theorem dX4_imagesOf_19 : decode cX4_imagesOf 19 = .ok (.if_icmp .ge 48, 3) := by decide +kernel
theorem dX4_imagesOf_22 : decode cX4_imagesOf 22 = .ok (.aload_n 0, 1) := by decide +kernel
theorem dX4_imagesOf_23 : decode cX4_imagesOf 23 = .ok (.getfield 18, 3) := by decide +kernel
theorem dX4_imagesOf_26 : decode cX4_imagesOf 26 = .ok (.iload_n 1, 1) := by decide +kernel
theorem dX4_imagesOf_27 : decode cX4_imagesOf 27 = .ok (.iload_n 3, 1) := by decide +kernel
theorem dX4_imagesOf_28 : decode cX4_imagesOf 28 = .ok (.iconst 1, 1) := by decide +kernel
theorem dX4_imagesOf_29 : decode cX4_imagesOf 29 = .ok (.iload 5, 2) := by decide +kernel
theorem dX4_imagesOf_31 : decode cX4_imagesOf 31 = .ok (.ishl, 1) := by decide +kernel
theorem dX4_imagesOf_32 : decode cX4_imagesOf 32 = .ok (.iand, 1) := by decide +kernel
theorem dX4_imagesOf_33 : decode cX4_imagesOf 33 = .ok (.iastore, 1) := by decide +kernel
theorem dX4_imagesOf_34 : decode cX4_imagesOf 34 = .ok (.aload_n 0, 1) := by decide +kernel
theorem dX4_imagesOf_35 : decode cX4_imagesOf 35 = .ok (.getfield 18, 3) := by decide +kernel
theorem dX4_imagesOf_38 : decode cX4_imagesOf 38 = .ok (.iload_n 1, 1) := by decide +kernel
theorem dX4_imagesOf_39 : decode cX4_imagesOf 39 = .ok (.iaload, 1) := by decide +kernel
theorem dX4_imagesOf_40 : decode cX4_imagesOf 40 = .ok (.ifCond .eq 21, 3) := by decide +kernel
theorem dX4_imagesOf_43 : decode cX4_imagesOf 43 = .ok (.aload_n 0, 1) := by decide +kernel
theorem dX4_imagesOf_44 : decode cX4_imagesOf 44 = .ok (.aload_n 2, 1) := by decide +kernel
theorem dX4_imagesOf_45 : decode cX4_imagesOf 45 = .ok (.aload_n 2, 1) := by decide +kernel
theorem dX4_imagesOf_46 : decode cX4_imagesOf 46 = .ok (.invokevirtual 51, 3) := by decide +kernel
theorem dX4_imagesOf_49 : decode cX4_imagesOf 49 = .ok (.ifCond .eq 12, 3) := by decide +kernel
theorem dX4_imagesOf_52 : decode cX4_imagesOf 52 = .ok (.iload 4, 2) := by decide +kernel
theorem dX4_imagesOf_54 : decode cX4_imagesOf 54 = .ok (.iconst 1, 1) := by decide +kernel
theorem dX4_imagesOf_55 : decode cX4_imagesOf 55 = .ok (.iload 5, 2) := by decide +kernel
theorem dX4_imagesOf_57 : decode cX4_imagesOf 57 = .ok (.ishl, 1) := by decide +kernel
theorem dX4_imagesOf_58 : decode cX4_imagesOf 58 = .ok (.ior, 1) := by decide +kernel
theorem dX4_imagesOf_59 : decode cX4_imagesOf 59 = .ok (.istore 4, 2) := by decide +kernel
theorem dX4_imagesOf_61 : decode cX4_imagesOf 61 = .ok (.iinc 5 1, 3) := by decide +kernel
theorem dX4_imagesOf_64 : decode cX4_imagesOf 64 = .ok (.goto (-51), 3) := by decide +kernel
theorem dX4_imagesOf_67 : decode cX4_imagesOf 67 = .ok (.iload 4, 2) := by decide +kernel
theorem dX4_imagesOf_69 : decode cX4_imagesOf 69 = .ok (.ireturn, 1) := by decide +kernel
theorem dX4_search_0 : decode cX4_search 0 = .ok (.aload_n 1, 1) := by decide +kernel
theorem dX4_search_1 : decode cX4_search 1 = .ok (.getfield 41, 3) := by decide +kernel
theorem dX4_search_4 : decode cX4_search 4 = .ok (.aload_n 2, 1) := by decide +kernel
theorem dX4_search_5 : decode cX4_search 5 = .ok (.getfield 41, 3) := by decide +kernel
theorem dX4_search_8 : decode cX4_search 8 = .ok (.if_icmp .ne 29, 3) := by decide +kernel
theorem dX4_search_11 : decode cX4_search 11 = .ok (.aload_n 1, 1) := by decide +kernel
theorem dX4_search_12 : decode cX4_search 12 = .ok (.getfield 73, 3) := by decide +kernel
theorem dX4_search_15 : decode cX4_search 15 = .ok (.aload_n 2, 1) := by decide +kernel
theorem dX4_search_16 : decode cX4_search 16 = .ok (.getfield 73, 3) := by decide +kernel
theorem dX4_search_19 : decode cX4_search 19 = .ok (.if_icmp .ne 18, 3) := by decide +kernel
theorem dX4_search_22 : decode cX4_search 22 = .ok (.aload_n 0, 1) := by decide +kernel
theorem dX4_search_23 : decode cX4_search 23 = .ok (.aload_n 1, 1) := by decide +kernel
theorem dX4_search_24 : decode cX4_search 24 = .ok (.aload_n 2, 1) := by decide +kernel
theorem dX4_search_25 : decode cX4_search 25 = .ok (.iconst 0, 1) := by decide +kernel
theorem dX4_search_26 : decode cX4_search 26 = .ok (.iconst 0, 1) := by decide +kernel
theorem dX4_search_27 : decode cX4_search 27 = .ok (.invokevirtual 83, 3) := by decide +kernel
theorem dX4_search_30 : decode cX4_search 30 = .ok (.ifCond .eq 7, 3) := by decide +kernel
theorem dX4_search_33 : decode cX4_search 33 = .ok (.iconst 1, 1) := by decide +kernel
theorem dX4_search_34 : decode cX4_search 34 = .ok (.goto 4, 3) := by decide +kernel
theorem dX4_search_37 : decode cX4_search 37 = .ok (.iconst 0, 1) := by decide +kernel
theorem dX4_search_38 : decode cX4_search 38 = .ok (.ireturn, 1) := by decide +kernel
theorem dX4_extend_0 : decode cX4_extend 0 = .ok (.iload_n 3, 1) := by decide +kernel
theorem dX4_extend_1 : decode cX4_extend 1 = .ok (.aload_n 1, 1) := by decide +kernel
theorem dX4_extend_2 : decode cX4_extend 2 = .ok (.getfield 41, 3) := by decide +kernel
theorem dX4_extend_5 : decode cX4_extend 5 = .ok (.if_icmp .lt 5, 3) := by decide +kernel
theorem dX4_extend_8 : decode cX4_extend 8 = .ok (.iconst 1, 1) := by decide +kernel
theorem dX4_extend_9 : decode cX4_extend 9 = .ok (.ireturn, 1) := by decide +kernel
theorem dX4_extend_10 : decode cX4_extend 10 = .ok (.iconst 0, 1) := by decide +kernel
theorem dX4_extend_11 : decode cX4_extend 11 = .ok (.istore 5, 2) := by decide +kernel
theorem dX4_extend_13 : decode cX4_extend 13 = .ok (.iload 5, 2) := by decide +kernel
theorem dX4_extend_15 : decode cX4_extend 15 = .ok (.aload_n 2, 1) := by decide +kernel
theorem dX4_extend_16 : decode cX4_extend 16 = .ok (.getfield 41, 3) := by decide +kernel
theorem dX4_extend_19 : decode cX4_extend 19 = .ok (.if_icmp .ge 25, 3) := by decide +kernel
theorem dX4_extend_22 : decode cX4_extend 22 = .ok (.aload_n 0, 1) := by decide +kernel
theorem dX4_extend_23 : decode cX4_extend 23 = .ok (.iload 5, 2) := by decide +kernel
theorem dX4_extend_25 : decode cX4_extend 25 = .ok (.aload_n 1, 1) := by decide +kernel
theorem dX4_extend_26 : decode cX4_extend 26 = .ok (.aload_n 2, 1) := by decide +kernel
theorem dX4_extend_27 : decode cX4_extend 27 = .ok (.iload_n 3, 1) := by decide +kernel
theorem dX4_extend_28 : decode cX4_extend 28 = .ok (.iload 4, 2) := by decide +kernel
theorem dX4_extend_30 : decode cX4_extend 30 = .ok (.invokevirtual 87, 3) := by decide +kernel
theorem dX4_extend_33 : decode cX4_extend 33 = .ok (.ifCond .eq 5, 3) := by decide +kernel
theorem dX4_extend_36 : decode cX4_extend 36 = .ok (.iconst 1, 1) := by decide +kernel
theorem dX4_extend_37 : decode cX4_extend 37 = .ok (.ireturn, 1) := by decide +kernel
theorem dX4_extend_38 : decode cX4_extend 38 = .ok (.iinc 5 1, 3) := by decide +kernel
theorem dX4_extend_41 : decode cX4_extend 41 = .ok (.goto (-28), 3) := by decide +kernel
theorem dX4_extend_44 : decode cX4_extend 44 = .ok (.iconst 0, 1) := by decide +kernel
theorem dX4_extend_45 : decode cX4_extend 45 = .ok (.ireturn, 1) := by decide +kernel
theorem dX4_goesTo_0 : decode cX4_goesTo 0 = .ok (.iconst 1, 1) := by decide +kernel
theorem dX4_goesTo_1 : decode cX4_goesTo 1 = .ok (.iload_n 1, 1) := by decide +kernel
theorem dX4_goesTo_2 : decode cX4_goesTo 2 = .ok (.ishl, 1) := by decide +kernel
theorem dX4_goesTo_3 : decode cX4_goesTo 3 = .ok (.istore 6, 2) := by decide +kernel
theorem dX4_goesTo_5 : decode cX4_goesTo 5 = .ok (.aload_n 0, 1) := by decide +kernel
theorem dX4_goesTo_6 : decode cX4_goesTo 6 = .ok (.getfield 18, 3) := by decide +kernel
theorem dX4_goesTo_9 : decode cX4_goesTo 9 = .ok (.aload_n 0, 1) := by decide +kernel
theorem dX4_goesTo_10 : decode cX4_goesTo 10 = .ok (.getfield 15, 3) := by decide +kernel
theorem dX4_goesTo_13 : decode cX4_goesTo 13 = .ok (.iload 4, 2) := by decide +kernel
theorem dX4_goesTo_15 : decode cX4_goesTo 15 = .ok (.iaload, 1) := by decide +kernel
theorem dX4_goesTo_16 : decode cX4_goesTo 16 = .ok (.iaload, 1) := by decide +kernel
theorem dX4_goesTo_17 : decode cX4_goesTo 17 = .ok (.iload 5, 2) := by decide +kernel
theorem dX4_goesTo_19 : decode cX4_goesTo 19 = .ok (.iconst (-1), 1) := by decide +kernel
theorem dX4_goesTo_20 : decode cX4_goesTo 20 = .ok (.ixor, 1) := by decide +kernel
theorem dX4_goesTo_21 : decode cX4_goesTo 21 = .ok (.iand, 1) := by decide +kernel
theorem dX4_goesTo_22 : decode cX4_goesTo 22 = .ok (.iload 6, 2) := by decide +kernel
theorem dX4_goesTo_24 : decode cX4_goesTo 24 = .ok (.iand, 1) := by decide +kernel
theorem dX4_goesTo_25 : decode cX4_goesTo 25 = .ok (.ifCond .ne 5, 3) := by decide +kernel
theorem dX4_goesTo_28 : decode cX4_goesTo 28 = .ok (.iconst 0, 1) := by decide +kernel
theorem dX4_goesTo_29 : decode cX4_goesTo 29 = .ok (.ireturn, 1) := by decide +kernel
theorem dX4_goesTo_30 : decode cX4_goesTo 30 = .ok (.aload_n 0, 1) := by decide +kernel
theorem dX4_goesTo_31 : decode cX4_goesTo 31 = .ok (.getfield 9, 3) := by decide +kernel
theorem dX4_goesTo_34 : decode cX4_goesTo 34 = .ok (.iload 4, 2) := by decide +kernel
theorem dX4_goesTo_36 : decode cX4_goesTo 36 = .ok (.iload_n 1, 1) := by decide +kernel
theorem dX4_goesTo_37 : decode cX4_goesTo 37 = .ok (.iastore, 1) := by decide +kernel
theorem dX4_goesTo_38 : decode cX4_goesTo 38 = .ok (.aload_n 0, 1) := by decide +kernel
theorem dX4_goesTo_39 : decode cX4_goesTo 39 = .ok (.aload_n 2, 1) := by decide +kernel
theorem dX4_goesTo_40 : decode cX4_goesTo 40 = .ok (.aload_n 3, 1) := by decide +kernel
theorem dX4_goesTo_41 : decode cX4_goesTo 41 = .ok (.iload 4, 2) := by decide +kernel
theorem dX4_goesTo_43 : decode cX4_goesTo 43 = .ok (.iconst 1, 1) := by decide +kernel
theorem dX4_goesTo_44 : decode cX4_goesTo 44 = .ok (.iadd, 1) := by decide +kernel
theorem dX4_goesTo_45 : decode cX4_goesTo 45 = .ok (.invokevirtual 91, 3) := by decide +kernel
theorem dX4_goesTo_48 : decode cX4_goesTo 48 = .ok (.ifCond .eq 25, 3) := by decide +kernel
theorem dX4_goesTo_51 : decode cX4_goesTo 51 = .ok (.aload_n 0, 1) := by decide +kernel
theorem dX4_goesTo_52 : decode cX4_goesTo 52 = .ok (.aload_n 2, 1) := by decide +kernel
theorem dX4_goesTo_53 : decode cX4_goesTo 53 = .ok (.aload_n 3, 1) := by decide +kernel
theorem dX4_goesTo_54 : decode cX4_goesTo 54 = .ok (.iload 4, 2) := by decide +kernel
theorem dX4_goesTo_56 : decode cX4_goesTo 56 = .ok (.iconst 1, 1) := by decide +kernel
theorem dX4_goesTo_57 : decode cX4_goesTo 57 = .ok (.iadd, 1) := by decide +kernel
theorem dX4_goesTo_58 : decode cX4_goesTo 58 = .ok (.iload 5, 2) := by decide +kernel
theorem dX4_goesTo_60 : decode cX4_goesTo 60 = .ok (.iload 6, 2) := by decide +kernel
theorem dX4_goesTo_62 : decode cX4_goesTo 62 = .ok (.ior, 1) := by decide +kernel
theorem dX4_goesTo_63 : decode cX4_goesTo 63 = .ok (.invokevirtual 83, 3) := by decide +kernel
theorem dX4_goesTo_66 : decode cX4_goesTo 66 = .ok (.ifCond .eq 7, 3) := by decide +kernel
theorem dX4_goesTo_69 : decode cX4_goesTo 69 = .ok (.iconst 1, 1) := by decide +kernel
theorem dX4_goesTo_70 : decode cX4_goesTo 70 = .ok (.goto 4, 3) := by decide +kernel
theorem dX4_goesTo_73 : decode cX4_goesTo 73 = .ok (.iconst 0, 1) := by decide +kernel
theorem dX4_goesTo_74 : decode cX4_goesTo 74 = .ok (.ireturn, 1) := by decide +kernel
theorem dX4_agrees_0 : decode cX4_agrees 0 = .ok (.iconst 0, 1) := by decide +kernel
theorem dX4_agrees_1 : decode cX4_agrees 1 = .ok (.istore 4, 2) := by decide +kernel
theorem dX4_agrees_3 : decode cX4_agrees 3 = .ok (.iload 4, 2) := by decide +kernel
theorem dX4_agrees_5 : decode cX4_agrees 5 = .ok (.aload_n 1, 1) := by decide +kernel
theorem dX4_agrees_6 : decode cX4_agrees 6 = .ok (.getfield 73, 3) := by decide +kernel
theorem dX4_agrees_9 : decode cX4_agrees 9 = .ok (.if_icmp .ge 79, 3) := by decide +kernel
theorem dX4_agrees_12 : decode cX4_agrees 12 = .ok (.aload_n 0, 1) := by decide +kernel
theorem dX4_agrees_13 : decode cX4_agrees 13 = .ok (.getfield 28, 3) := by decide +kernel
theorem dX4_agrees_16 : decode cX4_agrees 16 = .ok (.iload 4, 2) := by decide +kernel
theorem dX4_agrees_18 : decode cX4_agrees 18 = .ok (.aload_n 1, 1) := by decide +kernel
theorem dX4_agrees_19 : decode cX4_agrees 19 = .ok (.getfield 80, 3) := by decide +kernel
theorem dX4_agrees_22 : decode cX4_agrees 22 = .ok (.iload 4, 2) := by decide +kernel
theorem dX4_agrees_24 : decode cX4_agrees 24 = .ok (.iaload, 1) := by decide +kernel
theorem dX4_agrees_25 : decode cX4_agrees 25 = .ok (.aload_n 0, 1) := by decide +kernel
theorem dX4_agrees_26 : decode cX4_agrees 26 = .ok (.getfield 15, 3) := by decide +kernel
theorem dX4_agrees_29 : decode cX4_agrees 29 = .ok (.iload_n 3, 1) := by decide +kernel
theorem dX4_agrees_30 : decode cX4_agrees 30 = .ok (.invokestatic 95, 3) := by decide +kernel
theorem dX4_agrees_33 : decode cX4_agrees 33 = .ok (.iastore, 1) := by decide +kernel
theorem dX4_agrees_34 : decode cX4_agrees 34 = .ok (.aload_n 0, 1) := by decide +kernel
theorem dX4_agrees_35 : decode cX4_agrees 35 = .ok (.getfield 31, 3) := by decide +kernel
theorem dX4_agrees_38 : decode cX4_agrees 38 = .ok (.iload 4, 2) := by decide +kernel
theorem dX4_agrees_40 : decode cX4_agrees 40 = .ok (.aload_n 2, 1) := by decide +kernel
theorem dX4_agrees_41 : decode cX4_agrees 41 = .ok (.getfield 80, 3) := by decide +kernel
theorem dX4_agrees_44 : decode cX4_agrees 44 = .ok (.iload 4, 2) := by decide +kernel
theorem dX4_agrees_46 : decode cX4_agrees 46 = .ok (.iaload, 1) := by decide +kernel
theorem dX4_agrees_47 : decode cX4_agrees 47 = .ok (.aload_n 0, 1) := by decide +kernel
theorem dX4_agrees_48 : decode cX4_agrees 48 = .ok (.getfield 9, 3) := by decide +kernel
theorem dX4_agrees_51 : decode cX4_agrees 51 = .ok (.iload_n 3, 1) := by decide +kernel
theorem dX4_agrees_52 : decode cX4_agrees 52 = .ok (.invokestatic 95, 3) := by decide +kernel
theorem dX4_agrees_55 : decode cX4_agrees 55 = .ok (.iastore, 1) := by decide +kernel
theorem dX4_agrees_56 : decode cX4_agrees 56 = .ok (.aload_n 0, 1) := by decide +kernel
theorem dX4_agrees_57 : decode cX4_agrees 57 = .ok (.getfield 34, 3) := by decide +kernel
theorem dX4_agrees_60 : decode cX4_agrees 60 = .ok (.aload_n 0, 1) := by decide +kernel
theorem dX4_agrees_61 : decode cX4_agrees 61 = .ok (.getfield 28, 3) := by decide +kernel
theorem dX4_agrees_64 : decode cX4_agrees 64 = .ok (.iload 4, 2) := by decide +kernel
theorem dX4_agrees_66 : decode cX4_agrees 66 = .ok (.iaload, 1) := by decide +kernel
theorem dX4_agrees_67 : decode cX4_agrees 67 = .ok (.iconst 0, 1) := by decide +kernel
theorem dX4_agrees_68 : decode cX4_agrees 68 = .ok (.iastore, 1) := by decide +kernel
theorem dX4_agrees_69 : decode cX4_agrees 69 = .ok (.aload_n 0, 1) := by decide +kernel
theorem dX4_agrees_70 : decode cX4_agrees 70 = .ok (.getfield 34, 3) := by decide +kernel
theorem dX4_agrees_73 : decode cX4_agrees 73 = .ok (.aload_n 0, 1) := by decide +kernel
theorem dX4_agrees_74 : decode cX4_agrees 74 = .ok (.getfield 31, 3) := by decide +kernel
theorem dX4_agrees_77 : decode cX4_agrees 77 = .ok (.iload 4, 2) := by decide +kernel
theorem dX4_agrees_79 : decode cX4_agrees 79 = .ok (.iaload, 1) := by decide +kernel
theorem dX4_agrees_80 : decode cX4_agrees 80 = .ok (.iconst 0, 1) := by decide +kernel
theorem dX4_agrees_81 : decode cX4_agrees 81 = .ok (.iastore, 1) := by decide +kernel
theorem dX4_agrees_82 : decode cX4_agrees 82 = .ok (.iinc 4 1, 3) := by decide +kernel
theorem dX4_agrees_85 : decode cX4_agrees 85 = .ok (.goto (-82), 3) := by decide +kernel
theorem dX4_agrees_88 : decode cX4_agrees 88 = .ok (.iconst 0, 1) := by decide +kernel
theorem dX4_agrees_89 : decode cX4_agrees 89 = .ok (.istore 4, 2) := by decide +kernel
theorem dX4_agrees_91 : decode cX4_agrees 91 = .ok (.iload 4, 2) := by decide +kernel
theorem dX4_agrees_93 : decode cX4_agrees 93 = .ok (.aload_n 1, 1) := by decide +kernel
theorem dX4_agrees_94 : decode cX4_agrees 94 = .ok (.getfield 73, 3) := by decide +kernel
theorem dX4_agrees_97 : decode cX4_agrees 97 = .ok (.if_icmp .ge 41, 3) := by decide +kernel
theorem dX4_agrees_100 : decode cX4_agrees 100 = .ok (.aload_n 0, 1) := by decide +kernel
theorem dX4_agrees_101 : decode cX4_agrees 101 = .ok (.getfield 34, 3) := by decide +kernel
theorem dX4_agrees_104 : decode cX4_agrees 104 = .ok (.aload_n 0, 1) := by decide +kernel
theorem dX4_agrees_105 : decode cX4_agrees 105 = .ok (.getfield 28, 3) := by decide +kernel
theorem dX4_agrees_108 : decode cX4_agrees 108 = .ok (.iload 4, 2) := by decide +kernel
theorem dX4_agrees_110 : decode cX4_agrees 110 = .ok (.iaload, 1) := by decide +kernel
theorem dX4_agrees_111 : decode cX4_agrees 111 = .ok (.dup2, 1) := by decide +kernel
theorem dX4_agrees_112 : decode cX4_agrees 112 = .ok (.iaload, 1) := by decide +kernel
theorem dX4_agrees_113 : decode cX4_agrees 113 = .ok (.iconst 1, 1) := by decide +kernel
theorem dX4_agrees_114 : decode cX4_agrees 114 = .ok (.iadd, 1) := by decide +kernel
theorem dX4_agrees_115 : decode cX4_agrees 115 = .ok (.iastore, 1) := by decide +kernel
theorem dX4_agrees_116 : decode cX4_agrees 116 = .ok (.aload_n 0, 1) := by decide +kernel
theorem dX4_agrees_117 : decode cX4_agrees 117 = .ok (.getfield 34, 3) := by decide +kernel
theorem dX4_agrees_120 : decode cX4_agrees 120 = .ok (.aload_n 0, 1) := by decide +kernel
theorem dX4_agrees_121 : decode cX4_agrees 121 = .ok (.getfield 31, 3) := by decide +kernel
theorem dX4_agrees_124 : decode cX4_agrees 124 = .ok (.iload 4, 2) := by decide +kernel
theorem dX4_agrees_126 : decode cX4_agrees 126 = .ok (.iaload, 1) := by decide +kernel
theorem dX4_agrees_127 : decode cX4_agrees 127 = .ok (.dup2, 1) := by decide +kernel
theorem dX4_agrees_128 : decode cX4_agrees 128 = .ok (.iaload, 1) := by decide +kernel
theorem dX4_agrees_129 : decode cX4_agrees 129 = .ok (.iconst 1, 1) := by decide +kernel
theorem dX4_agrees_130 : decode cX4_agrees 130 = .ok (.isub, 1) := by decide +kernel
theorem dX4_agrees_131 : decode cX4_agrees 131 = .ok (.iastore, 1) := by decide +kernel
theorem dX4_agrees_132 : decode cX4_agrees 132 = .ok (.iinc 4 1, 3) := by decide +kernel
theorem dX4_agrees_135 : decode cX4_agrees 135 = .ok (.goto (-44), 3) := by decide +kernel
theorem dX4_agrees_138 : decode cX4_agrees 138 = .ok (.iconst 0, 1) := by decide +kernel
theorem dX4_agrees_139 : decode cX4_agrees 139 = .ok (.istore 4, 2) := by decide +kernel
theorem dX4_agrees_141 : decode cX4_agrees 141 = .ok (.iload 4, 2) := by decide +kernel
theorem dX4_agrees_143 : decode cX4_agrees 143 = .ok (.aload_n 1, 1) := by decide +kernel
theorem dX4_agrees_144 : decode cX4_agrees 144 = .ok (.getfield 73, 3) := by decide +kernel
theorem dX4_agrees_147 : decode cX4_agrees 147 = .ok (.if_icmp .ge 26, 3) := by decide +kernel
theorem dX4_agrees_150 : decode cX4_agrees 150 = .ok (.aload_n 0, 1) := by decide +kernel
theorem dX4_agrees_151 : decode cX4_agrees 151 = .ok (.getfield 34, 3) := by decide +kernel
theorem dX4_agrees_154 : decode cX4_agrees 154 = .ok (.aload_n 0, 1) := by decide +kernel
theorem dX4_agrees_155 : decode cX4_agrees 155 = .ok (.getfield 28, 3) := by decide +kernel
theorem dX4_agrees_158 : decode cX4_agrees 158 = .ok (.iload 4, 2) := by decide +kernel
theorem dX4_agrees_160 : decode cX4_agrees 160 = .ok (.iaload, 1) := by decide +kernel
theorem dX4_agrees_161 : decode cX4_agrees 161 = .ok (.iaload, 1) := by decide +kernel
theorem dX4_agrees_162 : decode cX4_agrees 162 = .ok (.ifCond .eq 5, 3) := by decide +kernel
theorem dX4_agrees_165 : decode cX4_agrees 165 = .ok (.iconst 0, 1) := by decide +kernel
theorem dX4_agrees_166 : decode cX4_agrees 166 = .ok (.ireturn, 1) := by decide +kernel
theorem dX4_agrees_167 : decode cX4_agrees 167 = .ok (.iinc 4 1, 3) := by decide +kernel
theorem dX4_agrees_170 : decode cX4_agrees 170 = .ok (.goto (-29), 3) := by decide +kernel
theorem dX4_agrees_173 : decode cX4_agrees 173 = .ok (.iconst 1, 1) := by decide +kernel
theorem dX4_agrees_174 : decode cX4_agrees 174 = .ok (.ireturn, 1) := by decide +kernel
theorem dX4_trace_0 : decode cX4_trace 0 = .ok (.iconst 0, 1) := by decide +kernel
theorem dX4_trace_1 : decode cX4_trace 1 = .ok (.istore_n 3, 1) := by decide +kernel
theorem dX4_trace_2 : decode cX4_trace 2 = .ok (.iconst 0, 1) := by decide +kernel
theorem dX4_trace_3 : decode cX4_trace 3 = .ok (.istore 4, 2) := by decide +kernel
theorem dX4_trace_5 : decode cX4_trace 5 = .ok (.iload 4, 2) := by decide +kernel
theorem dX4_trace_7 : decode cX4_trace 7 = .ok (.iload_n 2, 1) := by decide +kernel
theorem dX4_trace_8 : decode cX4_trace 8 = .ok (.if_icmp .ge 23, 3) := by decide +kernel
theorem dX4_trace_11 : decode cX4_trace 11 = .ok (.iload_n 3, 1) := by decide +kernel
theorem dX4_trace_12 : decode cX4_trace 12 = .ok (.iload_n 0, 1) := by decide +kernel
theorem dX4_trace_13 : decode cX4_trace 13 = .ok (.aload_n 1, 1) := by decide +kernel
theorem dX4_trace_14 : decode cX4_trace 14 = .ok (.iload 4, 2) := by decide +kernel
theorem dX4_trace_16 : decode cX4_trace 16 = .ok (.iaload, 1) := by decide +kernel
theorem dX4_trace_17 : decode cX4_trace 17 = .ok (.ishr, 1) := by decide +kernel
theorem dX4_trace_18 : decode cX4_trace 18 = .ok (.iconst 1, 1) := by decide +kernel
theorem dX4_trace_19 : decode cX4_trace 19 = .ok (.iand, 1) := by decide +kernel
theorem dX4_trace_20 : decode cX4_trace 20 = .ok (.iload 4, 2) := by decide +kernel
theorem dX4_trace_22 : decode cX4_trace 22 = .ok (.ishl, 1) := by decide +kernel
theorem dX4_trace_23 : decode cX4_trace 23 = .ok (.ior, 1) := by decide +kernel
theorem dX4_trace_24 : decode cX4_trace 24 = .ok (.istore_n 3, 1) := by decide +kernel
theorem dX4_trace_25 : decode cX4_trace 25 = .ok (.iinc 4 1, 3) := by decide +kernel
theorem dX4_trace_28 : decode cX4_trace 28 = .ok (.goto (-23), 3) := by decide +kernel
theorem dX4_trace_31 : decode cX4_trace 31 = .ok (.iload_n 3, 1) := by decide +kernel
theorem dX4_trace_32 : decode cX4_trace 32 = .ok (.ireturn, 1) := by decide +kernel
theorem dX5_init_0 : decode cX5_init 0 = .ok (.aload_n 0, 1) := by decide +kernel
theorem dX5_init_1 : decode cX5_init 1 = .ok (.invokespecial 3, 3) := by decide +kernel
theorem dX5_init_4 : decode cX5_init 4 = .ok (.aload_n 0, 1) := by decide +kernel
theorem dX5_init_5 : decode cX5_init 5 = .ok (.sipush 300, 3) := by decide +kernel
theorem dX5_init_8 : decode cX5_init 8 = .ok (.newarray .int, 2) := by decide +kernel
theorem dX5_init_10 : decode cX5_init 10 = .ok (.putfield 9, 3) := by decide +kernel
theorem dX5_init_13 : decode cX5_init 13 = .ok (.aload_n 0, 1) := by decide +kernel
theorem dX5_init_14 : decode cX5_init 14 = .ok (.iconst 0, 1) := by decide +kernel
theorem dX5_init_15 : decode cX5_init 15 = .ok (.putfield 15, 3) := by decide +kernel
theorem dX5_init_18 : decode cX5_init 18 = .ok (.aload_n 0, 1) := by decide +kernel
theorem dX5_init_19 : decode cX5_init 19 = .ok (.iconst 0, 1) := by decide +kernel
theorem dX5_init_20 : decode cX5_init 20 = .ok (.putfield 19, 3) := by decide +kernel
theorem dX5_init_23 : decode cX5_init 23 = .ok (.aload_n 0, 1) := by decide +kernel
theorem dX5_init_24 : decode cX5_init 24 = .ok (.iconst 0, 1) := by decide +kernel
theorem dX5_init_25 : decode cX5_init 25 = .ok (.putfield 22, 3) := by decide +kernel
theorem dX5_init_28 : decode cX5_init 28 = .ok (.aload_n 0, 1) := by decide +kernel
theorem dX5_init_29 : decode cX5_init 29 = .ok (.iconst 0, 1) := by decide +kernel
theorem dX5_init_30 : decode cX5_init 30 = .ok (.putfield 25, 3) := by decide +kernel
theorem dX5_init_33 : decode cX5_init 33 = .ok (.return_, 1) := by decide +kernel
theorem dX5_bytesIn_0 : decode cX5_bytesIn 0 = .ok (.iconst 0, 1) := by decide +kernel
theorem dX5_bytesIn_1 : decode cX5_bytesIn 1 = .ok (.istore_n 1, 1) := by decide +kernel
theorem dX5_bytesIn_2 : decode cX5_bytesIn 2 = .ok (.bipush 24, 2) := by decide +kernel
theorem dX5_bytesIn_4 : decode cX5_bytesIn 4 = .ok (.istore_n 2, 1) := by decide +kernel
theorem dX5_bytesIn_5 : decode cX5_bytesIn 5 = .ok (.iload_n 2, 1) := by decide +kernel
theorem dX5_bytesIn_6 : decode cX5_bytesIn 6 = .ok (.ifCond .lt 22, 3) := by decide +kernel
theorem dX5_bytesIn_9 : decode cX5_bytesIn 9 = .ok (.iload_n 0, 1) := by decide +kernel
theorem dX5_bytesIn_10 : decode cX5_bytesIn 10 = .ok (.iload_n 2, 1) := by decide +kernel
theorem dX5_bytesIn_11 : decode cX5_bytesIn 11 = .ok (.iushr, 1) := by decide +kernel
theorem dX5_bytesIn_12 : decode cX5_bytesIn 12 = .ok (.sipush 255, 3) := by decide +kernel
theorem dX5_bytesIn_15 : decode cX5_bytesIn 15 = .ok (.iand, 1) := by decide +kernel
theorem dX5_bytesIn_16 : decode cX5_bytesIn 16 = .ok (.ifCond .eq 6, 3) := by decide +kernel
theorem dX5_bytesIn_19 : decode cX5_bytesIn 19 = .ok (.iinc 1 1, 3) := by decide +kernel
theorem dX5_bytesIn_22 : decode cX5_bytesIn 22 = .ok (.iinc 2 (-8), 3) := by decide +kernel
theorem dX5_bytesIn_25 : decode cX5_bytesIn 25 = .ok (.goto (-20), 3) := by decide +kernel
theorem dX5_bytesIn_28 : decode cX5_bytesIn 28 = .ok (.iload_n 1, 1) := by decide +kernel
theorem dX5_bytesIn_29 : decode cX5_bytesIn 29 = .ok (.ireturn, 1) := by decide +kernel
theorem dX5_put_0 : decode cX5_put 0 = .ok (.bipush 24, 2) := by decide +kernel
theorem dX5_put_2 : decode cX5_put 2 = .ok (.istore_n 2, 1) := by decide +kernel
theorem dX5_put_3 : decode cX5_put 3 = .ok (.iload_n 2, 1) := by decide +kernel
theorem dX5_put_4 : decode cX5_put 4 = .ok (.ifCond .lt 51, 3) := by decide +kernel
theorem dX5_put_7 : decode cX5_put 7 = .ok (.iload_n 1, 1) := by decide +kernel
theorem dX5_put_8 : decode cX5_put 8 = .ok (.iload_n 2, 1) := by decide +kernel
theorem dX5_put_9 : decode cX5_put 9 = .ok (.iushr, 1) := by decide +kernel
theorem dX5_put_10 : decode cX5_put 10 = .ok (.sipush 255, 3) := by decide +kernel
theorem dX5_put_13 : decode cX5_put 13 = .ok (.iand, 1) := by decide +kernel
theorem dX5_put_14 : decode cX5_put 14 = .ok (.istore_n 3, 1) := by decide +kernel
theorem dX5_put_15 : decode cX5_put 15 = .ok (.iload_n 3, 1) := by decide +kernel
theorem dX5_put_16 : decode cX5_put 16 = .ok (.ifCond .eq 33, 3) := by decide +kernel
theorem dX5_put_19 : decode cX5_put 19 = .ok (.aload_n 0, 1) := by decide +kernel
theorem dX5_put_20 : decode cX5_put 20 = .ok (.getfield 15, 3) := by decide +kernel
theorem dX5_put_23 : decode cX5_put 23 = .ok (.sipush 300, 3) := by decide +kernel
theorem dX5_put_26 : decode cX5_put 26 = .ok (.if_icmp .ge 23, 3) := by decide +kernel
theorem dX5_put_29 : decode cX5_put 29 = .ok (.aload_n 0, 1) := by decide +kernel
theorem dX5_put_30 : decode cX5_put 30 = .ok (.getfield 9, 3) := by decide +kernel
theorem dX5_put_33 : decode cX5_put 33 = .ok (.aload_n 0, 1) := by decide +kernel
theorem dX5_put_34 : decode cX5_put 34 = .ok (.getfield 15, 3) := by decide +kernel
theorem dX5_put_37 : decode cX5_put 37 = .ok (.iload_n 3, 1) := by decide +kernel
theorem dX5_put_38 : decode cX5_put 38 = .ok (.iastore, 1) := by decide +kernel
theorem dX5_put_39 : decode cX5_put 39 = .ok (.aload_n 0, 1) := by decide +kernel
theorem dX5_put_40 : decode cX5_put 40 = .ok (.dup, 1) := by decide +kernel
theorem dX5_put_41 : decode cX5_put 41 = .ok (.getfield 15, 3) := by decide +kernel
theorem dX5_put_44 : decode cX5_put 44 = .ok (.iconst 1, 1) := by decide +kernel
theorem dX5_put_45 : decode cX5_put 45 = .ok (.iadd, 1) := by decide +kernel
theorem dX5_put_46 : decode cX5_put 46 = .ok (.putfield 15, 3) := by decide +kernel
theorem dX5_put_49 : decode cX5_put 49 = .ok (.iinc 2 (-8), 3) := by decide +kernel
theorem dX5_put_52 : decode cX5_put 52 = .ok (.goto (-49), 3) := by decide +kernel
theorem dX5_put_55 : decode cX5_put 55 = .ok (.return_, 1) := by decide +kernel
theorem dX5_read_0 : decode cX5_read 0 = .ok (.aload_n 0, 1) := by decide +kernel
theorem dX5_read_1 : decode cX5_read 1 = .ok (.iconst 0, 1) := by decide +kernel
theorem dX5_read_2 : decode cX5_read 2 = .ok (.putfield 25, 3) := by decide +kernel
theorem dX5_read_5 : decode cX5_read 5 = .ok (.aload_n 0, 1) := by decide +kernel
theorem dX5_read_6 : decode cX5_read 6 = .ok (.invokevirtual 28, 3) := by decide +kernel
theorem dX5_read_9 : decode cX5_read 9 = .ok (.aload_n 0, 1) := by decide +kernel
theorem dX5_read_10 : decode cX5_read 10 = .ok (.aload_n 1, 1) := by decide +kernel
theorem dX5_read_11 : decode cX5_read 11 = .ok (.invokevirtual 31, 3) := by decide +kernel
theorem dX5_read_14 : decode cX5_read 14 = .ok (.ifCond .ne 8, 3) := by decide +kernel
theorem dX5_read_17 : decode cX5_read 17 = .ok (.aload_n 0, 1) := by decide +kernel
theorem dX5_read_18 : decode cX5_read 18 = .ok (.getfield 22, 3) := by decide +kernel
theorem dX5_read_21 : decode cX5_read 21 = .ok (.ireturn, 1) := by decide +kernel
theorem dX5_read_22 : decode cX5_read 22 = .ok (.iconst 0, 1) := by decide +kernel
theorem dX5_read_23 : decode cX5_read 23 = .ok (.istore_n 2, 1) := by decide +kernel
theorem dX5_read_24 : decode cX5_read 24 = .ok (.iload_n 2, 1) := by decide +kernel
theorem dX5_read_25 : decode cX5_read 25 = .ok (.sipush 300, 3) := by decide +kernel
theorem dX5_read_28 : decode cX5_read 28 = .ok (.if_icmp .ge 34, 3) := by decide +kernel
theorem dX5_read_31 : decode cX5_read 31 = .ok (.aload_n 0, 1) := by decide +kernel
theorem dX5_read_32 : decode cX5_read 32 = .ok (.getfield 19, 3) := by decide +kernel
theorem dX5_read_35 : decode cX5_read 35 = .ok (.iconst 3, 1) := by decide +kernel
theorem dX5_read_36 : decode cX5_read 36 = .ok (.if_icmp .ne 26, 3) := by decide +kernel
theorem dX5_read_39 : decode cX5_read 39 = .ok (.aload_n 0, 1) := by decide +kernel
theorem dX5_read_40 : decode cX5_read 40 = .ok (.invokevirtual 28, 3) := by decide +kernel
theorem dX5_read_43 : decode cX5_read 43 = .ok (.aload_n 0, 1) := by decide +kernel
theorem dX5_read_44 : decode cX5_read 44 = .ok (.aload_n 1, 1) := by decide +kernel
theorem dX5_read_45 : decode cX5_read 45 = .ok (.invokevirtual 35, 3) := by decide +kernel
theorem dX5_read_48 : decode cX5_read 48 = .ok (.ifCond .ne 8, 3) := by decide +kernel
theorem dX5_read_51 : decode cX5_read 51 = .ok (.aload_n 0, 1) := by decide +kernel
theorem dX5_read_52 : decode cX5_read 52 = .ok (.getfield 22, 3) := by decide +kernel
theorem dX5_read_55 : decode cX5_read 55 = .ok (.ireturn, 1) := by decide +kernel
theorem dX5_read_56 : decode cX5_read 56 = .ok (.iinc 2 1, 3) := by decide +kernel
theorem dX5_read_59 : decode cX5_read 59 = .ok (.goto (-35), 3) := by decide +kernel
theorem dX5_read_62 : decode cX5_read 62 = .ok (.aload_n 0, 1) := by decide +kernel
theorem dX5_read_63 : decode cX5_read 63 = .ok (.getfield 19, 3) := by decide +kernel
theorem dX5_read_66 : decode cX5_read 66 = .ok (.ifCond .ne 7, 3) := by decide +kernel
theorem dX5_read_69 : decode cX5_read 69 = .ok (.iconst (-1), 1) := by decide +kernel
theorem dX5_read_70 : decode cX5_read 70 = .ok (.goto 7, 3) := by decide +kernel
theorem dX5_read_73 : decode cX5_read 73 = .ok (.aload_n 0, 1) := by decide +kernel
theorem dX5_read_74 : decode cX5_read 74 = .ok (.getfield 22, 3) := by decide +kernel
theorem dX5_read_77 : decode cX5_read 77 = .ok (.ireturn, 1) := by decide +kernel
theorem dX5_readShape_0 : decode cX5_readShape 0 = .ok (.aload_n 0, 1) := by decide +kernel
theorem dX5_readShape_1 : decode cX5_readShape 1 = .ok (.invokevirtual 38, 3) := by decide +kernel
theorem dX5_readShape_4 : decode cX5_readShape 4 = .ok (.istore_n 2, 1) := by decide +kernel
theorem dX5_readShape_5 : decode cX5_readShape 5 = .ok (.iload_n 2, 1) := by decide +kernel
theorem dX5_readShape_6 : decode cX5_readShape 6 = .ok (.iconst (-1), 1) := by decide +kernel
theorem dX5_readShape_7 : decode cX5_readShape 7 = .ok (.if_icmp .ne 5, 3) := by decide +kernel
theorem dX5_readShape_10 : decode cX5_readShape 10 = .ok (.iconst 0, 1) := by decide +kernel
theorem dX5_readShape_11 : decode cX5_readShape 11 = .ok (.ireturn, 1) := by decide +kernel
theorem dX5_readShape_12 : decode cX5_readShape 12 = .ok (.aload_n 0, 1) := by decide +kernel
theorem dX5_readShape_13 : decode cX5_readShape 13 = .ok (.invokevirtual 28, 3) := by decide +kernel
theorem dX5_readShape_16 : decode cX5_readShape 16 = .ok (.aload_n 0, 1) := by decide +kernel
theorem dX5_readShape_17 : decode cX5_readShape 17 = .ok (.invokevirtual 42, 3) := by decide +kernel
theorem dX5_readShape_20 : decode cX5_readShape 20 = .ok (.istore_n 3, 1) := by decide +kernel
theorem dX5_readShape_21 : decode cX5_readShape 21 = .ok (.iload_n 3, 1) := by decide +kernel
theorem dX5_readShape_22 : decode cX5_readShape 22 = .ok (.getstatic 45, 3) := by decide +kernel
theorem dX5_readShape_25 : decode cX5_readShape 25 = .ok (.iload_n 2, 1) := by decide +kernel
theorem dX5_readShape_26 : decode cX5_readShape 26 = .ok (.iaload, 1) := by decide +kernel
theorem dX5_readShape_27 : decode cX5_readShape 27 = .ok (.if_icmp .lt 12, 3) := by decide +kernel
theorem dX5_readShape_30 : decode cX5_readShape 30 = .ok (.iload_n 3, 1) := by decide +kernel
theorem dX5_readShape_31 : decode cX5_readShape 31 = .ok (.getstatic 48, 3) := by decide +kernel
theorem dX5_readShape_34 : decode cX5_readShape 34 = .ok (.iload_n 2, 1) := by decide +kernel
theorem dX5_readShape_35 : decode cX5_readShape 35 = .ok (.iaload, 1) := by decide +kernel
theorem dX5_readShape_36 : decode cX5_readShape 36 = .ok (.if_icmp .le 5, 3) := by decide +kernel
theorem dX5_readShape_39 : decode cX5_readShape 39 = .ok (.iconst 0, 1) := by decide +kernel
theorem dX5_readShape_40 : decode cX5_readShape 40 = .ok (.ireturn, 1) := by decide +kernel
theorem dX5_readShape_41 : decode cX5_readShape 41 = .ok (.iload_n 2, 1) := by decide +kernel
theorem dX5_readShape_42 : decode cX5_readShape 42 = .ok (.iload_n 3, 1) := by decide +kernel
theorem dX5_readShape_43 : decode cX5_readShape 43 = .ok (.aload_n 1, 1) := by decide +kernel
theorem dX5_readShape_44 : decode cX5_readShape 44 = .ok (.invokestatic 51, 3) := by decide +kernel
theorem dX5_readShape_47 : decode cX5_readShape 47 = .ok (.aload_n 0, 1) := by decide +kernel
theorem dX5_readShape_48 : decode cX5_readShape 48 = .ok (.invokevirtual 28, 3) := by decide +kernel
theorem dX5_readShape_51 : decode cX5_readShape 51 = .ok (.iconst 1, 1) := by decide +kernel
theorem dX5_readShape_52 : decode cX5_readShape 52 = .ok (.ireturn, 1) := by decide +kernel
theorem dX5_readFacet_0 : decode cX5_readFacet 0 = .ok (.aload_n 0, 1) := by decide +kernel
theorem dX5_readFacet_1 : decode cX5_readFacet 1 = .ok (.ldc 55, 2) := by decide +kernel
theorem dX5_readFacet_3 : decode cX5_readFacet 3 = .ok (.invokevirtual 57, 3) := by decide +kernel
theorem dX5_readFacet_6 : decode cX5_readFacet 6 = .ok (.ifCond .eq 12, 3) := by decide +kernel
theorem dX5_readFacet_9 : decode cX5_readFacet 9 = .ok (.aload_n 1, 1) := by decide +kernel
theorem dX5_readFacet_10 : decode cX5_readFacet 10 = .ok (.getfield 61, 3) := by decide +kernel
theorem dX5_readFacet_13 : decode cX5_readFacet 13 = .ok (.bipush 10, 2) := by decide +kernel
theorem dX5_readFacet_15 : decode cX5_readFacet 15 = .ok (.if_icmp .lt 5, 3) := by decide +kernel
theorem dX5_readFacet_18 : decode cX5_readFacet 18 = .ok (.iconst 0, 1) := by decide +kernel
theorem dX5_readFacet_19 : decode cX5_readFacet 19 = .ok (.ireturn, 1) := by decide +kernel
theorem dX5_readFacet_20 : decode cX5_readFacet 20 = .ok (.aload_n 0, 1) := by decide +kernel
theorem dX5_readFacet_21 : decode cX5_readFacet 21 = .ok (.invokevirtual 28, 3) := by decide +kernel
theorem dX5_readFacet_24 : decode cX5_readFacet 24 = .ok (.iconst 0, 1) := by decide +kernel
theorem dX5_readFacet_25 : decode cX5_readFacet 25 = .ok (.istore_n 2, 1) := by decide +kernel
theorem dX5_readFacet_26 : decode cX5_readFacet 26 = .ok (.iconst 0, 1) := by decide +kernel
theorem dX5_readFacet_27 : decode cX5_readFacet 27 = .ok (.istore_n 3, 1) := by decide +kernel
theorem dX5_readFacet_28 : decode cX5_readFacet 28 = .ok (.iload_n 3, 1) := by decide +kernel
theorem dX5_readFacet_29 : decode cX5_readFacet 29 = .ok (.bipush 8, 2) := by decide +kernel
theorem dX5_readFacet_31 : decode cX5_readFacet 31 = .ok (.if_icmp .gt 64, 3) := by decide +kernel
theorem dX5_readFacet_34 : decode cX5_readFacet 34 = .ok (.iload_n 2, 1) := by decide +kernel
theorem dX5_readFacet_35 : decode cX5_readFacet 35 = .ok (.ifCond .eq 11, 3) := by decide +kernel
theorem dX5_readFacet_38 : decode cX5_readFacet 38 = .ok (.aload_n 0, 1) := by decide +kernel
theorem dX5_readFacet_39 : decode cX5_readFacet 39 = .ok (.getfield 19, 3) := by decide +kernel
theorem dX5_readFacet_42 : decode cX5_readFacet 42 = .ok (.iconst 2, 1) := by decide +kernel
theorem dX5_readFacet_43 : decode cX5_readFacet 43 = .ok (.if_icmp .ne 52, 3) := by decide +kernel
theorem dX5_readFacet_46 : decode cX5_readFacet 46 = .ok (.aload_n 0, 1) := by decide +kernel
theorem dX5_readFacet_47 : decode cX5_readFacet 47 = .ok (.invokevirtual 42, 3) := by decide +kernel
theorem dX5_readFacet_50 : decode cX5_readFacet 50 = .ok (.istore 4, 2) := by decide +kernel
theorem dX5_readFacet_52 : decode cX5_readFacet 52 = .ok (.iload 4, 2) := by decide +kernel
theorem dX5_readFacet_54 : decode cX5_readFacet 54 = .ok (.ifCond .lt 22, 3) := by decide +kernel
theorem dX5_readFacet_57 : decode cX5_readFacet 57 = .ok (.iload 4, 2) := by decide +kernel
theorem dX5_readFacet_59 : decode cX5_readFacet 59 = .ok (.aload_n 1, 1) := by decide +kernel
theorem dX5_readFacet_60 : decode cX5_readFacet 60 = .ok (.getfield 66, 3) := by decide +kernel
theorem dX5_readFacet_63 : decode cX5_readFacet 63 = .ok (.if_icmp .ge 13, 3) := by decide +kernel
theorem dX5_readFacet_66 : decode cX5_readFacet 66 = .ok (.iload_n 2, 1) := by decide +kernel
theorem dX5_readFacet_67 : decode cX5_readFacet 67 = .ok (.iload 4, 2) := by decide +kernel
theorem dX5_readFacet_69 : decode cX5_readFacet 69 = .ok (.ishr, 1) := by decide +kernel
theorem dX5_readFacet_70 : decode cX5_readFacet 70 = .ok (.iconst 1, 1) := by decide +kernel
theorem dX5_readFacet_71 : decode cX5_readFacet 71 = .ok (.iand, 1) := by decide +kernel
theorem dX5_readFacet_72 : decode cX5_readFacet 72 = .ok (.iconst 1, 1) := by decide +kernel
theorem dX5_readFacet_73 : decode cX5_readFacet 73 = .ok (.if_icmp .ne 5, 3) := by decide +kernel
theorem dX5_readFacet_76 : decode cX5_readFacet 76 = .ok (.iconst 0, 1) := by decide +kernel
theorem dX5_readFacet_77 : decode cX5_readFacet 77 = .ok (.ireturn, 1) := by decide +kernel
theorem dX5_readFacet_78 : decode cX5_readFacet 78 = .ok (.iload_n 2, 1) := by decide +kernel
theorem dX5_readFacet_79 : decode cX5_readFacet 79 = .ok (.iconst 1, 1) := by decide +kernel
theorem dX5_readFacet_80 : decode cX5_readFacet 80 = .ok (.iload 4, 2) := by decide +kernel
theorem dX5_readFacet_82 : decode cX5_readFacet 82 = .ok (.ishl, 1) := by decide +kernel
theorem dX5_readFacet_83 : decode cX5_readFacet 83 = .ok (.ior, 1) := by decide +kernel
theorem dX5_readFacet_84 : decode cX5_readFacet 84 = .ok (.istore_n 2, 1) := by decide +kernel
theorem dX5_readFacet_85 : decode cX5_readFacet 85 = .ok (.aload_n 0, 1) := by decide +kernel
theorem dX5_readFacet_86 : decode cX5_readFacet 86 = .ok (.invokevirtual 28, 3) := by decide +kernel
theorem dX5_readFacet_89 : decode cX5_readFacet 89 = .ok (.iinc 3 1, 3) := by decide +kernel
theorem dX5_readFacet_92 : decode cX5_readFacet 92 = .ok (.goto (-64), 3) := by decide +kernel
theorem dX5_readFacet_95 : decode cX5_readFacet 95 = .ok (.aload_n 1, 1) := by decide +kernel
theorem dX5_readFacet_96 : decode cX5_readFacet 96 = .ok (.iload_n 2, 1) := by decide +kernel
theorem dX5_readFacet_97 : decode cX5_readFacet 97 = .ok (.invokevirtual 69, 3) := by decide +kernel
theorem dX5_readFacet_100 : decode cX5_readFacet 100 = .ok (.iconst 1, 1) := by decide +kernel
theorem dX5_readFacet_101 : decode cX5_readFacet 101 = .ok (.ireturn, 1) := by decide +kernel
theorem dX5_shapeHere_0 : decode cX5_shapeHere 0 = .ok (.aload_n 0, 1) := by decide +kernel
theorem dX5_shapeHere_1 : decode cX5_shapeHere 1 = .ok (.ldc 73, 2) := by decide +kernel
theorem dX5_shapeHere_3 : decode cX5_shapeHere 3 = .ok (.invokevirtual 57, 3) := by decide +kernel
theorem dX5_shapeHere_6 : decode cX5_shapeHere 6 = .ok (.ifCond .eq 5, 3) := by decide +kernel
theorem dX5_shapeHere_9 : decode cX5_shapeHere 9 = .ok (.iconst 0, 1) := by decide +kernel
theorem dX5_shapeHere_10 : decode cX5_shapeHere 10 = .ok (.ireturn, 1) := by decide +kernel
theorem dX5_shapeHere_11 : decode cX5_shapeHere 11 = .ok (.aload_n 0, 1) := by decide +kernel
theorem dX5_shapeHere_12 : decode cX5_shapeHere 12 = .ok (.ldc 74, 2) := by decide +kernel
theorem dX5_shapeHere_14 : decode cX5_shapeHere 14 = .ok (.invokevirtual 57, 3) := by decide +kernel
theorem dX5_shapeHere_17 : decode cX5_shapeHere 17 = .ok (.ifCond .eq 5, 3) := by decide +kernel
theorem dX5_shapeHere_20 : decode cX5_shapeHere 20 = .ok (.iconst 1, 1) := by decide +kernel
theorem dX5_shapeHere_21 : decode cX5_shapeHere 21 = .ok (.ireturn, 1) := by decide +kernel
theorem dX5_shapeHere_22 : decode cX5_shapeHere 22 = .ok (.aload_n 0, 1) := by decide +kernel
theorem dX5_shapeHere_23 : decode cX5_shapeHere 23 = .ok (.ldc 76, 2) := by decide +kernel
theorem dX5_shapeHere_25 : decode cX5_shapeHere 25 = .ok (.invokevirtual 57, 3) := by decide +kernel
theorem dX5_shapeHere_28 : decode cX5_shapeHere 28 = .ok (.ifCond .eq 5, 3) := by decide +kernel
theorem dX5_shapeHere_31 : decode cX5_shapeHere 31 = .ok (.iconst 2, 1) := by decide +kernel
theorem dX5_shapeHere_32 : decode cX5_shapeHere 32 = .ok (.ireturn, 1) := by decide +kernel
theorem dX5_shapeHere_33 : decode cX5_shapeHere 33 = .ok (.aload_n 0, 1) := by decide +kernel
theorem dX5_shapeHere_34 : decode cX5_shapeHere 34 = .ok (.ldc 78, 2) := by decide +kernel
theorem dX5_shapeHere_36 : decode cX5_shapeHere 36 = .ok (.invokevirtual 57, 3) := by decide +kernel
theorem dX5_shapeHere_39 : decode cX5_shapeHere 39 = .ok (.ifCond .eq 5, 3) := by decide +kernel
theorem dX5_shapeHere_42 : decode cX5_shapeHere 42 = .ok (.iconst 3, 1) := by decide +kernel
theorem dX5_shapeHere_43 : decode cX5_shapeHere 43 = .ok (.ireturn, 1) := by decide +kernel
theorem dX5_shapeHere_44 : decode cX5_shapeHere 44 = .ok (.aload_n 0, 1) := by decide +kernel
theorem dX5_shapeHere_45 : decode cX5_shapeHere 45 = .ok (.ldc 80, 2) := by decide +kernel
theorem dX5_shapeHere_47 : decode cX5_shapeHere 47 = .ok (.invokevirtual 57, 3) := by decide +kernel
theorem dX5_shapeHere_50 : decode cX5_shapeHere 50 = .ok (.ifCond .eq 7, 3) := by decide +kernel
theorem dX5_shapeHere_53 : decode cX5_shapeHere 53 = .ok (.iconst 4, 1) := by decide +kernel
theorem dX5_shapeHere_54 : decode cX5_shapeHere 54 = .ok (.goto 4, 3) := by decide +kernel
theorem dX5_shapeHere_57 : decode cX5_shapeHere 57 = .ok (.iconst (-1), 1) := by decide +kernel
theorem dX5_shapeHere_58 : decode cX5_shapeHere 58 = .ok (.ireturn, 1) := by decide +kernel
theorem dX5_isHere_0 : decode cX5_isHere 0 = .ok (.aload_n 0, 1) := by decide +kernel
theorem dX5_isHere_1 : decode cX5_isHere 1 = .ok (.getfield 19, 3) := by decide +kernel
theorem dX5_isHere_4 : decode cX5_isHere 4 = .ok (.iconst 1, 1) := by decide +kernel
theorem dX5_isHere_5 : decode cX5_isHere 5 = .ok (.if_icmp .ne 19, 3) := by decide +kernel
theorem dX5_isHere_8 : decode cX5_isHere 8 = .ok (.aload_n 0, 1) := by decide +kernel
theorem dX5_isHere_9 : decode cX5_isHere 9 = .ok (.getfield 25, 3) := by decide +kernel
theorem dX5_isHere_12 : decode cX5_isHere 12 = .ok (.aload_n 0, 1) := by decide +kernel
theorem dX5_isHere_13 : decode cX5_isHere 13 = .ok (.getfield 22, 3) := by decide +kernel
theorem dX5_isHere_16 : decode cX5_isHere 16 = .ok (.isub, 1) := by decide +kernel
theorem dX5_isHere_17 : decode cX5_isHere 17 = .ok (.aload_n 1, 1) := by decide +kernel
theorem dX5_isHere_18 : decode cX5_isHere 18 = .ok (.invokevirtual 82, 3) := by decide +kernel
theorem dX5_isHere_21 : decode cX5_isHere 21 = .ok (.if_icmp .eq 5, 3) := by decide +kernel
theorem dX5_isHere_24 : decode cX5_isHere 24 = .ok (.iconst 0, 1) := by decide +kernel
theorem dX5_isHere_25 : decode cX5_isHere 25 = .ok (.ireturn, 1) := by decide +kernel
theorem dX5_isHere_26 : decode cX5_isHere 26 = .ok (.iconst 0, 1) := by decide +kernel
theorem dX5_isHere_27 : decode cX5_isHere 27 = .ok (.istore_n 2, 1) := by decide +kernel
theorem dX5_isHere_28 : decode cX5_isHere 28 = .ok (.iload_n 2, 1) := by decide +kernel
theorem dX5_isHere_29 : decode cX5_isHere 29 = .ok (.aload_n 1, 1) := by decide +kernel
theorem dX5_isHere_30 : decode cX5_isHere 30 = .ok (.invokevirtual 82, 3) := by decide +kernel
theorem dX5_isHere_33 : decode cX5_isHere 33 = .ok (.if_icmp .ge 30, 3) := by decide +kernel
theorem dX5_isHere_36 : decode cX5_isHere 36 = .ok (.aload_n 0, 1) := by decide +kernel
theorem dX5_isHere_37 : decode cX5_isHere 37 = .ok (.getfield 9, 3) := by decide +kernel
theorem dX5_isHere_40 : decode cX5_isHere 40 = .ok (.aload_n 0, 1) := by decide +kernel
theorem dX5_isHere_41 : decode cX5_isHere 41 = .ok (.getfield 22, 3) := by decide +kernel
theorem dX5_isHere_44 : decode cX5_isHere 44 = .ok (.iload_n 2, 1) := by decide +kernel
theorem dX5_isHere_45 : decode cX5_isHere 45 = .ok (.iadd, 1) := by decide +kernel
theorem dX5_isHere_46 : decode cX5_isHere 46 = .ok (.iaload, 1) := by decide +kernel
theorem dX5_isHere_47 : decode cX5_isHere 47 = .ok (.aload_n 1, 1) := by decide +kernel
theorem dX5_isHere_48 : decode cX5_isHere 48 = .ok (.iload_n 2, 1) := by decide +kernel
theorem dX5_isHere_49 : decode cX5_isHere 49 = .ok (.invokevirtual 86, 3) := by decide +kernel
theorem dX5_isHere_52 : decode cX5_isHere 52 = .ok (.if_icmp .eq 5, 3) := by decide +kernel
theorem dX5_isHere_55 : decode cX5_isHere 55 = .ok (.iconst 0, 1) := by decide +kernel
theorem dX5_isHere_56 : decode cX5_isHere 56 = .ok (.ireturn, 1) := by decide +kernel
theorem dX5_isHere_57 : decode cX5_isHere 57 = .ok (.iinc 2 1, 3) := by decide +kernel
theorem dX5_isHere_60 : decode cX5_isHere 60 = .ok (.goto (-32), 3) := by decide +kernel
theorem dX5_isHere_63 : decode cX5_isHere 63 = .ok (.iconst 1, 1) := by decide +kernel
theorem dX5_isHere_64 : decode cX5_isHere 64 = .ok (.ireturn, 1) := by decide +kernel
theorem dX5_numberHere_0 : decode cX5_numberHere 0 = .ok (.aload_n 0, 1) := by decide +kernel
theorem dX5_numberHere_1 : decode cX5_numberHere 1 = .ok (.getfield 19, 3) := by decide +kernel
theorem dX5_numberHere_4 : decode cX5_numberHere 4 = .ok (.iconst 2, 1) := by decide +kernel
theorem dX5_numberHere_5 : decode cX5_numberHere 5 = .ok (.if_icmp .ne 16, 3) := by decide +kernel
theorem dX5_numberHere_8 : decode cX5_numberHere 8 = .ok (.aload_n 0, 1) := by decide +kernel
theorem dX5_numberHere_9 : decode cX5_numberHere 9 = .ok (.getfield 25, 3) := by decide +kernel
theorem dX5_numberHere_12 : decode cX5_numberHere 12 = .ok (.aload_n 0, 1) := by decide +kernel
theorem dX5_numberHere_13 : decode cX5_numberHere 13 = .ok (.getfield 22, 3) := by decide +kernel
theorem dX5_numberHere_16 : decode cX5_numberHere 16 = .ok (.isub, 1) := by decide +kernel
theorem dX5_numberHere_17 : decode cX5_numberHere 17 = .ok (.iconst 4, 1) := by decide +kernel
theorem dX5_numberHere_18 : decode cX5_numberHere 18 = .ok (.if_icmp .le 5, 3) := by decide +kernel
theorem dX5_numberHere_21 : decode cX5_numberHere 21 = .ok (.iconst (-1), 1) := by decide +kernel
theorem dX5_numberHere_22 : decode cX5_numberHere 22 = .ok (.ireturn, 1) := by decide +kernel
theorem dX5_numberHere_23 : decode cX5_numberHere 23 = .ok (.iconst 0, 1) := by decide +kernel
theorem dX5_numberHere_24 : decode cX5_numberHere 24 = .ok (.istore_n 1, 1) := by decide +kernel
theorem dX5_numberHere_25 : decode cX5_numberHere 25 = .ok (.aload_n 0, 1) := by decide +kernel
theorem dX5_numberHere_26 : decode cX5_numberHere 26 = .ok (.getfield 22, 3) := by decide +kernel
theorem dX5_numberHere_29 : decode cX5_numberHere 29 = .ok (.istore_n 2, 1) := by decide +kernel
theorem dX5_numberHere_30 : decode cX5_numberHere 30 = .ok (.iload_n 2, 1) := by decide +kernel
theorem dX5_numberHere_31 : decode cX5_numberHere 31 = .ok (.aload_n 0, 1) := by decide +kernel
theorem dX5_numberHere_32 : decode cX5_numberHere 32 = .ok (.getfield 25, 3) := by decide +kernel
theorem dX5_numberHere_35 : decode cX5_numberHere 35 = .ok (.if_icmp .ge 24, 3) := by decide +kernel
theorem dX5_numberHere_38 : decode cX5_numberHere 38 = .ok (.bipush 10, 2) := by decide +kernel
theorem dX5_numberHere_40 : decode cX5_numberHere 40 = .ok (.iload_n 1, 1) := by decide +kernel
theorem dX5_numberHere_41 : decode cX5_numberHere 41 = .ok (.imul, 1) := by decide +kernel
theorem dX5_numberHere_42 : decode cX5_numberHere 42 = .ok (.aload_n 0, 1) := by decide +kernel
theorem dX5_numberHere_43 : decode cX5_numberHere 43 = .ok (.getfield 9, 3) := by decide +kernel
theorem dX5_numberHere_46 : decode cX5_numberHere 46 = .ok (.iload_n 2, 1) := by decide +kernel
theorem dX5_numberHere_47 : decode cX5_numberHere 47 = .ok (.iaload, 1) := by decide +kernel
theorem dX5_numberHere_48 : decode cX5_numberHere 48 = .ok (.iadd, 1) := by decide +kernel
theorem dX5_numberHere_49 : decode cX5_numberHere 49 = .ok (.bipush 48, 2) := by decide +kernel
theorem dX5_numberHere_51 : decode cX5_numberHere 51 = .ok (.isub, 1) := by decide +kernel
theorem dX5_numberHere_52 : decode cX5_numberHere 52 = .ok (.istore_n 1, 1) := by decide +kernel
theorem dX5_numberHere_53 : decode cX5_numberHere 53 = .ok (.iinc 2 1, 3) := by decide +kernel
theorem dX5_numberHere_56 : decode cX5_numberHere 56 = .ok (.goto (-26), 3) := by decide +kernel
theorem dX5_numberHere_59 : decode cX5_numberHere 59 = .ok (.iload_n 1, 1) := by decide +kernel
theorem dX5_numberHere_60 : decode cX5_numberHere 60 = .ok (.ireturn, 1) := by decide +kernel
theorem dX5_advance_0 : decode cX5_advance 0 = .ok (.aload_n 0, 1) := by decide +kernel
theorem dX5_advance_1 : decode cX5_advance 1 = .ok (.aload_n 0, 1) := by decide +kernel
theorem dX5_advance_2 : decode cX5_advance 2 = .ok (.getfield 25, 3) := by decide +kernel
theorem dX5_advance_5 : decode cX5_advance 5 = .ok (.putfield 22, 3) := by decide +kernel
theorem dX5_advance_8 : decode cX5_advance 8 = .ok (.aload_n 0, 1) := by decide +kernel
theorem dX5_advance_9 : decode cX5_advance 9 = .ok (.getfield 22, 3) := by decide +kernel
theorem dX5_advance_12 : decode cX5_advance 12 = .ok (.aload_n 0, 1) := by decide +kernel
theorem dX5_advance_13 : decode cX5_advance 13 = .ok (.getfield 15, 3) := by decide +kernel
theorem dX5_advance_16 : decode cX5_advance 16 = .ok (.if_icmp .ge 30, 3) := by decide +kernel
theorem dX5_advance_19 : decode cX5_advance 19 = .ok (.aload_n 0, 1) := by decide +kernel
theorem dX5_advance_20 : decode cX5_advance 20 = .ok (.getfield 9, 3) := by decide +kernel
theorem dX5_advance_23 : decode cX5_advance 23 = .ok (.aload_n 0, 1) := by decide +kernel
theorem dX5_advance_24 : decode cX5_advance 24 = .ok (.getfield 22, 3) := by decide +kernel
theorem dX5_advance_27 : decode cX5_advance 27 = .ok (.iaload, 1) := by decide +kernel
theorem dX5_advance_28 : decode cX5_advance 28 = .ok (.bipush 32, 2) := by decide +kernel
theorem dX5_advance_30 : decode cX5_advance 30 = .ok (.if_icmp .ne 16, 3) := by decide +kernel
theorem dX5_advance_33 : decode cX5_advance 33 = .ok (.aload_n 0, 1) := by decide +kernel
theorem dX5_advance_34 : decode cX5_advance 34 = .ok (.dup, 1) := by decide +kernel
theorem dX5_advance_35 : decode cX5_advance 35 = .ok (.getfield 22, 3) := by decide +kernel
theorem dX5_advance_38 : decode cX5_advance 38 = .ok (.iconst 1, 1) := by decide +kernel
theorem dX5_advance_39 : decode cX5_advance 39 = .ok (.iadd, 1) := by decide +kernel
theorem dX5_advance_40 : decode cX5_advance 40 = .ok (.putfield 22, 3) := by decide +kernel
theorem dX5_advance_43 : decode cX5_advance 43 = .ok (.goto (-35), 3) := by decide +kernel
theorem dX5_advance_46 : decode cX5_advance 46 = .ok (.aload_n 0, 1) := by decide +kernel
theorem dX5_advance_47 : decode cX5_advance 47 = .ok (.aload_n 0, 1) := by decide +kernel
theorem dX5_advance_48 : decode cX5_advance 48 = .ok (.getfield 22, 3) := by decide +kernel
theorem dX5_advance_51 : decode cX5_advance 51 = .ok (.putfield 25, 3) := by decide +kernel
theorem dX5_advance_54 : decode cX5_advance 54 = .ok (.aload_n 0, 1) := by decide +kernel
theorem dX5_advance_55 : decode cX5_advance 55 = .ok (.getfield 22, 3) := by decide +kernel
theorem dX5_advance_58 : decode cX5_advance 58 = .ok (.aload_n 0, 1) := by decide +kernel
theorem dX5_advance_59 : decode cX5_advance 59 = .ok (.getfield 15, 3) := by decide +kernel
theorem dX5_advance_62 : decode cX5_advance 62 = .ok (.if_icmp .lt 9, 3) := by decide +kernel
theorem dX5_advance_65 : decode cX5_advance 65 = .ok (.aload_n 0, 1) := by decide +kernel
theorem dX5_advance_66 : decode cX5_advance 66 = .ok (.iconst 0, 1) := by decide +kernel
theorem dX5_advance_67 : decode cX5_advance 67 = .ok (.putfield 19, 3) := by decide +kernel
theorem dX5_advance_70 : decode cX5_advance 70 = .ok (.return_, 1) := by decide +kernel
theorem dX5_advance_71 : decode cX5_advance 71 = .ok (.aload_n 0, 1) := by decide +kernel
theorem dX5_advance_72 : decode cX5_advance 72 = .ok (.aload_n 0, 1) := by decide +kernel
theorem dX5_advance_73 : decode cX5_advance 73 = .ok (.getfield 9, 3) := by decide +kernel
theorem dX5_advance_76 : decode cX5_advance 76 = .ok (.aload_n 0, 1) := by decide +kernel
theorem dX5_advance_77 : decode cX5_advance 77 = .ok (.getfield 22, 3) := by decide +kernel
theorem dX5_advance_80 : decode cX5_advance 80 = .ok (.iaload, 1) := by decide +kernel
theorem dX5_advance_81 : decode cX5_advance 81 = .ok (.invokestatic 90, 3) := by decide +kernel
theorem dX5_advance_84 : decode cX5_advance 84 = .ok (.putfield 19, 3) := by decide +kernel
theorem dX5_advance_87 : decode cX5_advance 87 = .ok (.aload_n 0, 1) := by decide +kernel
theorem dX5_advance_88 : decode cX5_advance 88 = .ok (.dup, 1) := by decide +kernel
theorem dX5_advance_89 : decode cX5_advance 89 = .ok (.getfield 25, 3) := by decide +kernel
theorem dX5_advance_92 : decode cX5_advance 92 = .ok (.iconst 1, 1) := by decide +kernel
theorem dX5_advance_93 : decode cX5_advance 93 = .ok (.iadd, 1) := by decide +kernel
theorem dX5_advance_94 : decode cX5_advance 94 = .ok (.putfield 25, 3) := by decide +kernel
theorem dX5_advance_97 : decode cX5_advance 97 = .ok (.aload_n 0, 1) := by decide +kernel
theorem dX5_advance_98 : decode cX5_advance 98 = .ok (.getfield 19, 3) := by decide +kernel
theorem dX5_advance_101 : decode cX5_advance 101 = .ok (.iconst 1, 1) := by decide +kernel
theorem dX5_advance_102 : decode cX5_advance 102 = .ok (.if_icmp .eq 11, 3) := by decide +kernel
theorem dX5_advance_105 : decode cX5_advance 105 = .ok (.aload_n 0, 1) := by decide +kernel
theorem dX5_advance_106 : decode cX5_advance 106 = .ok (.getfield 19, 3) := by decide +kernel
theorem dX5_advance_109 : decode cX5_advance 109 = .ok (.iconst 2, 1) := by decide +kernel
theorem dX5_advance_110 : decode cX5_advance 110 = .ok (.if_icmp .ne 46, 3) := by decide +kernel
theorem dX5_advance_113 : decode cX5_advance 113 = .ok (.aload_n 0, 1) := by decide +kernel
theorem dX5_advance_114 : decode cX5_advance 114 = .ok (.getfield 25, 3) := by decide +kernel
theorem dX5_advance_117 : decode cX5_advance 117 = .ok (.aload_n 0, 1) := by decide +kernel
theorem dX5_advance_118 : decode cX5_advance 118 = .ok (.getfield 15, 3) := by decide +kernel
theorem dX5_advance_121 : decode cX5_advance 121 = .ok (.if_icmp .ge 35, 3) := by decide +kernel
theorem dX5_advance_124 : decode cX5_advance 124 = .ok (.aload_n 0, 1) := by decide +kernel
theorem dX5_advance_125 : decode cX5_advance 125 = .ok (.getfield 9, 3) := by decide +kernel
theorem dX5_advance_128 : decode cX5_advance 128 = .ok (.aload_n 0, 1) := by decide +kernel
theorem dX5_advance_129 : decode cX5_advance 129 = .ok (.getfield 25, 3) := by decide +kernel
theorem dX5_advance_132 : decode cX5_advance 132 = .ok (.iaload, 1) := by decide +kernel
theorem dX5_advance_133 : decode cX5_advance 133 = .ok (.invokestatic 90, 3) := by decide +kernel
theorem dX5_advance_136 : decode cX5_advance 136 = .ok (.aload_n 0, 1) := by decide +kernel
theorem dX5_advance_137 : decode cX5_advance 137 = .ok (.getfield 19, 3) := by decide +kernel
theorem dX5_advance_140 : decode cX5_advance 140 = .ok (.if_icmp .ne 16, 3) := by decide +kernel
theorem dX5_advance_143 : decode cX5_advance 143 = .ok (.aload_n 0, 1) := by decide +kernel
theorem dX5_advance_144 : decode cX5_advance 144 = .ok (.dup, 1) := by decide +kernel
theorem dX5_advance_145 : decode cX5_advance 145 = .ok (.getfield 25, 3) := by decide +kernel
theorem dX5_advance_148 : decode cX5_advance 148 = .ok (.iconst 1, 1) := by decide +kernel
theorem dX5_advance_149 : decode cX5_advance 149 = .ok (.iadd, 1) := by decide +kernel
theorem dX5_advance_150 : decode cX5_advance 150 = .ok (.putfield 25, 3) := by decide +kernel
theorem dX5_advance_153 : decode cX5_advance 153 = .ok (.goto (-40), 3) := by decide +kernel
theorem dX5_advance_156 : decode cX5_advance 156 = .ok (.return_, 1) := by decide +kernel
theorem dX5_kindOf_0 : decode cX5_kindOf 0 = .ok (.iload_n 0, 1) := by decide +kernel
theorem dX5_kindOf_1 : decode cX5_kindOf 1 = .ok (.bipush 97, 2) := by decide +kernel
theorem dX5_kindOf_3 : decode cX5_kindOf 3 = .ok (.if_icmp .lt 11, 3) := by decide +kernel
theorem dX5_kindOf_6 : decode cX5_kindOf 6 = .ok (.iload_n 0, 1) := by decide +kernel
theorem dX5_kindOf_7 : decode cX5_kindOf 7 = .ok (.bipush 122, 2) := by decide +kernel
theorem dX5_kindOf_9 : decode cX5_kindOf 9 = .ok (.if_icmp .gt 5, 3) := by decide +kernel
theorem dX5_kindOf_12 : decode cX5_kindOf 12 = .ok (.iconst 1, 1) := by decide +kernel
theorem dX5_kindOf_13 : decode cX5_kindOf 13 = .ok (.ireturn, 1) := by decide +kernel
theorem dX5_kindOf_14 : decode cX5_kindOf 14 = .ok (.iload_n 0, 1) := by decide +kernel
theorem dX5_kindOf_15 : decode cX5_kindOf 15 = .ok (.bipush 48, 2) := by decide +kernel
theorem dX5_kindOf_17 : decode cX5_kindOf 17 = .ok (.if_icmp .lt 11, 3) := by decide +kernel
theorem dX5_kindOf_20 : decode cX5_kindOf 20 = .ok (.iload_n 0, 1) := by decide +kernel
theorem dX5_kindOf_21 : decode cX5_kindOf 21 = .ok (.bipush 57, 2) := by decide +kernel
theorem dX5_kindOf_23 : decode cX5_kindOf 23 = .ok (.if_icmp .gt 5, 3) := by decide +kernel
theorem dX5_kindOf_26 : decode cX5_kindOf 26 = .ok (.iconst 2, 1) := by decide +kernel
theorem dX5_kindOf_27 : decode cX5_kindOf 27 = .ok (.ireturn, 1) := by decide +kernel
theorem dX5_kindOf_28 : decode cX5_kindOf 28 = .ok (.iload_n 0, 1) := by decide +kernel
theorem dX5_kindOf_29 : decode cX5_kindOf 29 = .ok (.bipush 59, 2) := by decide +kernel
theorem dX5_kindOf_31 : decode cX5_kindOf 31 = .ok (.if_icmp .ne 7, 3) := by decide +kernel
theorem dX5_kindOf_34 : decode cX5_kindOf 34 = .ok (.iconst 3, 1) := by decide +kernel
theorem dX5_kindOf_35 : decode cX5_kindOf 35 = .ok (.goto 4, 3) := by decide +kernel
theorem dX5_kindOf_38 : decode cX5_kindOf 38 = .ok (.iconst 4, 1) := by decide +kernel
theorem dX5_kindOf_39 : decode cX5_kindOf 39 = .ok (.ireturn, 1) := by decide +kernel
theorem dX5_lay_0 : decode cX5_lay 0 = .ok (.iload_n 0, 1) := by decide +kernel
theorem dX5_lay_1 : decode cX5_lay 1 = .ok (.tableswitch 63 1 4 #[31, 39, 47, 55], 31) := by decide +kernel
theorem dX5_lay_32 : decode cX5_lay 32 = .ok (.iload_n 1, 1) := by decide +kernel
theorem dX5_lay_33 : decode cX5_lay 33 = .ok (.aload_n 2, 1) := by decide +kernel
theorem dX5_lay_34 : decode cX5_lay 34 = .ok (.invokestatic 94, 3) := by decide +kernel
theorem dX5_lay_37 : decode cX5_lay 37 = .ok (.goto 32, 3) := by decide +kernel
theorem dX5_lay_40 : decode cX5_lay 40 = .ok (.iload_n 1, 1) := by decide +kernel
theorem dX5_lay_41 : decode cX5_lay 41 = .ok (.aload_n 2, 1) := by decide +kernel
theorem dX5_lay_42 : decode cX5_lay 42 = .ok (.invokestatic 98, 3) := by decide +kernel
theorem dX5_lay_45 : decode cX5_lay 45 = .ok (.goto 24, 3) := by decide +kernel
theorem dX5_lay_48 : decode cX5_lay 48 = .ok (.iload_n 1, 1) := by decide +kernel
theorem dX5_lay_49 : decode cX5_lay 49 = .ok (.aload_n 2, 1) := by decide +kernel
theorem dX5_lay_50 : decode cX5_lay 50 = .ok (.invokestatic 101, 3) := by decide +kernel
theorem dX5_lay_53 : decode cX5_lay 53 = .ok (.goto 16, 3) := by decide +kernel
theorem dX5_lay_56 : decode cX5_lay 56 = .ok (.iload_n 1, 1) := by decide +kernel
theorem dX5_lay_57 : decode cX5_lay 57 = .ok (.aload_n 2, 1) := by decide +kernel
theorem dX5_lay_58 : decode cX5_lay 58 = .ok (.invokestatic 104, 3) := by decide +kernel
theorem dX5_lay_61 : decode cX5_lay 61 = .ok (.goto 8, 3) := by decide +kernel
theorem dX5_lay_64 : decode cX5_lay 64 = .ok (.aload_n 2, 1) := by decide +kernel
theorem dX5_lay_65 : decode cX5_lay 65 = .ok (.iload_n 1, 1) := by decide +kernel
theorem dX5_lay_66 : decode cX5_lay 66 = .ok (.invokevirtual 107, 3) := by decide +kernel
theorem dX5_lay_69 : decode cX5_lay 69 = .ok (.return_, 1) := by decide +kernel
theorem dX5_laySimplex_0 : decode cX5_laySimplex 0 = .ok (.aload_n 1, 1) := by decide +kernel
theorem dX5_laySimplex_1 : decode cX5_laySimplex 1 = .ok (.iload_n 0, 1) := by decide +kernel
theorem dX5_laySimplex_2 : decode cX5_laySimplex 2 = .ok (.invokevirtual 107, 3) := by decide +kernel
theorem dX5_laySimplex_5 : decode cX5_laySimplex 5 = .ok (.iconst 0, 1) := by decide +kernel
theorem dX5_laySimplex_6 : decode cX5_laySimplex 6 = .ok (.istore_n 2, 1) := by decide +kernel
theorem dX5_laySimplex_7 : decode cX5_laySimplex 7 = .ok (.iload_n 2, 1) := by decide +kernel
theorem dX5_laySimplex_8 : decode cX5_laySimplex 8 = .ok (.iload_n 0, 1) := by decide +kernel
theorem dX5_laySimplex_9 : decode cX5_laySimplex 9 = .ok (.if_icmp .ge 23, 3) := by decide +kernel
theorem dX5_laySimplex_12 : decode cX5_laySimplex 12 = .ok (.aload_n 1, 1) := by decide +kernel
theorem dX5_laySimplex_13 : decode cX5_laySimplex 13 = .ok (.aload_n 1, 1) := by decide +kernel
theorem dX5_laySimplex_14 : decode cX5_laySimplex 14 = .ok (.invokevirtual 110, 3) := by decide +kernel
theorem dX5_laySimplex_17 : decode cX5_laySimplex 17 = .ok (.iconst 1, 1) := by decide +kernel
theorem dX5_laySimplex_18 : decode cX5_laySimplex 18 = .ok (.iload_n 2, 1) := by decide +kernel
theorem dX5_laySimplex_19 : decode cX5_laySimplex 19 = .ok (.ishl, 1) := by decide +kernel
theorem dX5_laySimplex_20 : decode cX5_laySimplex 20 = .ok (.iconst (-1), 1) := by decide +kernel
theorem dX5_laySimplex_21 : decode cX5_laySimplex 21 = .ok (.ixor, 1) := by decide +kernel
theorem dX5_laySimplex_22 : decode cX5_laySimplex 22 = .ok (.iand, 1) := by decide +kernel
theorem dX5_laySimplex_23 : decode cX5_laySimplex 23 = .ok (.invokevirtual 69, 3) := by decide +kernel
theorem dX5_laySimplex_26 : decode cX5_laySimplex 26 = .ok (.iinc 2 1, 3) := by decide +kernel
theorem dX5_laySimplex_29 : decode cX5_laySimplex 29 = .ok (.goto (-22), 3) := by decide +kernel
theorem dX5_laySimplex_32 : decode cX5_laySimplex 32 = .ok (.return_, 1) := by decide +kernel
theorem dX5_layCycle_0 : decode cX5_layCycle 0 = .ok (.aload_n 1, 1) := by decide +kernel
theorem dX5_layCycle_1 : decode cX5_layCycle 1 = .ok (.iload_n 0, 1) := by decide +kernel
theorem dX5_layCycle_2 : decode cX5_layCycle 2 = .ok (.invokevirtual 107, 3) := by decide +kernel
theorem dX5_layCycle_5 : decode cX5_layCycle 5 = .ok (.iconst 0, 1) := by decide +kernel
theorem dX5_layCycle_6 : decode cX5_layCycle 6 = .ok (.istore_n 2, 1) := by decide +kernel
theorem dX5_layCycle_7 : decode cX5_layCycle 7 = .ok (.iload_n 2, 1) := by decide +kernel
theorem dX5_layCycle_8 : decode cX5_layCycle 8 = .ok (.iload_n 0, 1) := by decide +kernel
theorem dX5_layCycle_9 : decode cX5_layCycle 9 = .ok (.if_icmp .ge 35, 3) := by decide +kernel
theorem dX5_layCycle_12 : decode cX5_layCycle 12 = .ok (.iload_n 2, 1) := by decide +kernel
theorem dX5_layCycle_13 : decode cX5_layCycle 13 = .ok (.iconst 1, 1) := by decide +kernel
theorem dX5_layCycle_14 : decode cX5_layCycle 14 = .ok (.iadd, 1) := by decide +kernel
theorem dX5_layCycle_15 : decode cX5_layCycle 15 = .ok (.iload_n 0, 1) := by decide +kernel
theorem dX5_layCycle_16 : decode cX5_layCycle 16 = .ok (.if_icmp .ge 9, 3) := by decide +kernel
theorem dX5_layCycle_19 : decode cX5_layCycle 19 = .ok (.iload_n 2, 1) := by decide +kernel
theorem dX5_layCycle_20 : decode cX5_layCycle 20 = .ok (.iconst 1, 1) := by decide +kernel
theorem dX5_layCycle_21 : decode cX5_layCycle 21 = .ok (.iadd, 1) := by decide +kernel
theorem dX5_layCycle_22 : decode cX5_layCycle 22 = .ok (.goto 4, 3) := by decide +kernel
theorem dX5_layCycle_25 : decode cX5_layCycle 25 = .ok (.iconst 0, 1) := by decide +kernel
theorem dX5_layCycle_26 : decode cX5_layCycle 26 = .ok (.istore_n 3, 1) := by decide +kernel
theorem dX5_layCycle_27 : decode cX5_layCycle 27 = .ok (.aload_n 1, 1) := by decide +kernel
theorem dX5_layCycle_28 : decode cX5_layCycle 28 = .ok (.iconst 1, 1) := by decide +kernel
theorem dX5_layCycle_29 : decode cX5_layCycle 29 = .ok (.iload_n 2, 1) := by decide +kernel
theorem dX5_layCycle_30 : decode cX5_layCycle 30 = .ok (.ishl, 1) := by decide +kernel
theorem dX5_layCycle_31 : decode cX5_layCycle 31 = .ok (.iconst 1, 1) := by decide +kernel
theorem dX5_layCycle_32 : decode cX5_layCycle 32 = .ok (.iload_n 3, 1) := by decide +kernel
theorem dX5_layCycle_33 : decode cX5_layCycle 33 = .ok (.ishl, 1) := by decide +kernel
theorem dX5_layCycle_34 : decode cX5_layCycle 34 = .ok (.ior, 1) := by decide +kernel
theorem dX5_layCycle_35 : decode cX5_layCycle 35 = .ok (.invokevirtual 69, 3) := by decide +kernel
theorem dX5_layCycle_38 : decode cX5_layCycle 38 = .ok (.iinc 2 1, 3) := by decide +kernel
theorem dX5_layCycle_41 : decode cX5_layCycle 41 = .ok (.goto (-34), 3) := by decide +kernel
theorem dX5_layCycle_44 : decode cX5_layCycle 44 = .ok (.return_, 1) := by decide +kernel
theorem dX5_layCube_0 : decode cX5_layCube 0 = .ok (.aload_n 1, 1) := by decide +kernel
theorem dX5_layCube_1 : decode cX5_layCube 1 = .ok (.iconst 1, 1) := by decide +kernel
theorem dX5_layCube_2 : decode cX5_layCube 2 = .ok (.iload_n 0, 1) := by decide +kernel
theorem dX5_layCube_3 : decode cX5_layCube 3 = .ok (.ishl, 1) := by decide +kernel
theorem dX5_layCube_4 : decode cX5_layCube 4 = .ok (.invokevirtual 107, 3) := by decide +kernel
theorem dX5_layCube_7 : decode cX5_layCube 7 = .ok (.iconst 0, 1) := by decide +kernel
theorem dX5_layCube_8 : decode cX5_layCube 8 = .ok (.istore_n 2, 1) := by decide +kernel
theorem dX5_layCube_9 : decode cX5_layCube 9 = .ok (.iload_n 2, 1) := by decide +kernel
theorem dX5_layCube_10 : decode cX5_layCube 10 = .ok (.iload_n 0, 1) := by decide +kernel
theorem dX5_layCube_11 : decode cX5_layCube 11 = .ok (.if_icmp .ge 58, 3) := by decide +kernel
theorem dX5_layCube_14 : decode cX5_layCube 14 = .ok (.iconst 0, 1) := by decide +kernel
theorem dX5_layCube_15 : decode cX5_layCube 15 = .ok (.istore_n 3, 1) := by decide +kernel
theorem dX5_layCube_16 : decode cX5_layCube 16 = .ok (.iconst 0, 1) := by decide +kernel
theorem dX5_layCube_17 : decode cX5_layCube 17 = .ok (.istore 4, 2) := by decide +kernel
theorem dX5_layCube_19 : decode cX5_layCube 19 = .ok (.iload 4, 2) := by decide +kernel
theorem dX5_layCube_21 : decode cX5_layCube 21 = .ok (.aload_n 1, 1) := by decide +kernel
theorem dX5_layCube_22 : decode cX5_layCube 22 = .ok (.getfield 66, 3) := by decide +kernel
theorem dX5_layCube_25 : decode cX5_layCube 25 = .ok (.if_icmp .ge 21, 3) := by decide +kernel
theorem dX5_layCube_28 : decode cX5_layCube 28 = .ok (.iload_n 3, 1) := by decide +kernel
theorem dX5_layCube_29 : decode cX5_layCube 29 = .ok (.iload 4, 2) := by decide +kernel
theorem dX5_layCube_31 : decode cX5_layCube 31 = .ok (.iload_n 2, 1) := by decide +kernel
theorem dX5_layCube_32 : decode cX5_layCube 32 = .ok (.ishr, 1) := by decide +kernel
theorem dX5_layCube_33 : decode cX5_layCube 33 = .ok (.iconst 1, 1) := by decide +kernel
theorem dX5_layCube_34 : decode cX5_layCube 34 = .ok (.iand, 1) := by decide +kernel
theorem dX5_layCube_35 : decode cX5_layCube 35 = .ok (.iload 4, 2) := by decide +kernel
theorem dX5_layCube_37 : decode cX5_layCube 37 = .ok (.ishl, 1) := by decide +kernel
theorem dX5_layCube_38 : decode cX5_layCube 38 = .ok (.ior, 1) := by decide +kernel
theorem dX5_layCube_39 : decode cX5_layCube 39 = .ok (.istore_n 3, 1) := by decide +kernel
theorem dX5_layCube_40 : decode cX5_layCube 40 = .ok (.iinc 4 1, 3) := by decide +kernel
theorem dX5_layCube_43 : decode cX5_layCube 43 = .ok (.goto (-24), 3) := by decide +kernel
theorem dX5_layCube_46 : decode cX5_layCube 46 = .ok (.aload_n 1, 1) := by decide +kernel
theorem dX5_layCube_47 : decode cX5_layCube 47 = .ok (.aload_n 1, 1) := by decide +kernel
theorem dX5_layCube_48 : decode cX5_layCube 48 = .ok (.invokevirtual 110, 3) := by decide +kernel
theorem dX5_layCube_51 : decode cX5_layCube 51 = .ok (.iload_n 3, 1) := by decide +kernel
theorem dX5_layCube_52 : decode cX5_layCube 52 = .ok (.iconst (-1), 1) := by decide +kernel
theorem dX5_layCube_53 : decode cX5_layCube 53 = .ok (.ixor, 1) := by decide +kernel
theorem dX5_layCube_54 : decode cX5_layCube 54 = .ok (.iand, 1) := by decide +kernel
theorem dX5_layCube_55 : decode cX5_layCube 55 = .ok (.invokevirtual 69, 3) := by decide +kernel
theorem dX5_layCube_58 : decode cX5_layCube 58 = .ok (.aload_n 1, 1) := by decide +kernel
theorem dX5_layCube_59 : decode cX5_layCube 59 = .ok (.iload_n 3, 1) := by decide +kernel
theorem dX5_layCube_60 : decode cX5_layCube 60 = .ok (.invokevirtual 69, 3) := by decide +kernel
theorem dX5_layCube_63 : decode cX5_layCube 63 = .ok (.iinc 2 1, 3) := by decide +kernel
theorem dX5_layCube_66 : decode cX5_layCube 66 = .ok (.goto (-57), 3) := by decide +kernel
theorem dX5_layCube_69 : decode cX5_layCube 69 = .ok (.return_, 1) := by decide +kernel
theorem dX5_layCross_0 : decode cX5_layCross 0 = .ok (.aload_n 1, 1) := by decide +kernel
theorem dX5_layCross_1 : decode cX5_layCross 1 = .ok (.iconst 2, 1) := by decide +kernel
theorem dX5_layCross_2 : decode cX5_layCross 2 = .ok (.iload_n 0, 1) := by decide +kernel
theorem dX5_layCross_3 : decode cX5_layCross 3 = .ok (.imul, 1) := by decide +kernel
theorem dX5_layCross_4 : decode cX5_layCross 4 = .ok (.invokevirtual 107, 3) := by decide +kernel
theorem dX5_layCross_7 : decode cX5_layCross 7 = .ok (.iconst 0, 1) := by decide +kernel
theorem dX5_layCross_8 : decode cX5_layCross 8 = .ok (.istore_n 2, 1) := by decide +kernel
theorem dX5_layCross_9 : decode cX5_layCross 9 = .ok (.iload_n 2, 1) := by decide +kernel
theorem dX5_layCross_10 : decode cX5_layCross 10 = .ok (.iconst 1, 1) := by decide +kernel
theorem dX5_layCross_11 : decode cX5_layCross 11 = .ok (.iload_n 0, 1) := by decide +kernel
theorem dX5_layCross_12 : decode cX5_layCross 12 = .ok (.ishl, 1) := by decide +kernel
theorem dX5_layCross_13 : decode cX5_layCross 13 = .ok (.if_icmp .ge 47, 3) := by decide +kernel
theorem dX5_layCross_16 : decode cX5_layCross 16 = .ok (.iconst 0, 1) := by decide +kernel
theorem dX5_layCross_17 : decode cX5_layCross 17 = .ok (.istore_n 3, 1) := by decide +kernel
theorem dX5_layCross_18 : decode cX5_layCross 18 = .ok (.iconst 0, 1) := by decide +kernel
theorem dX5_layCross_19 : decode cX5_layCross 19 = .ok (.istore 4, 2) := by decide +kernel
theorem dX5_layCross_21 : decode cX5_layCross 21 = .ok (.iload 4, 2) := by decide +kernel
theorem dX5_layCross_23 : decode cX5_layCross 23 = .ok (.iload_n 0, 1) := by decide +kernel
theorem dX5_layCross_24 : decode cX5_layCross 24 = .ok (.if_icmp .ge 25, 3) := by decide +kernel
theorem dX5_layCross_27 : decode cX5_layCross 27 = .ok (.iload_n 3, 1) := by decide +kernel
theorem dX5_layCross_28 : decode cX5_layCross 28 = .ok (.iconst 1, 1) := by decide +kernel
theorem dX5_layCross_29 : decode cX5_layCross 29 = .ok (.iconst 2, 1) := by decide +kernel
theorem dX5_layCross_30 : decode cX5_layCross 30 = .ok (.iload 4, 2) := by decide +kernel
theorem dX5_layCross_32 : decode cX5_layCross 32 = .ok (.imul, 1) := by decide +kernel
theorem dX5_layCross_33 : decode cX5_layCross 33 = .ok (.iload_n 2, 1) := by decide +kernel
theorem dX5_layCross_34 : decode cX5_layCross 34 = .ok (.iload 4, 2) := by decide +kernel
theorem dX5_layCross_36 : decode cX5_layCross 36 = .ok (.ishr, 1) := by decide +kernel
theorem dX5_layCross_37 : decode cX5_layCross 37 = .ok (.iconst 1, 1) := by decide +kernel
theorem dX5_layCross_38 : decode cX5_layCross 38 = .ok (.iand, 1) := by decide +kernel
theorem dX5_layCross_39 : decode cX5_layCross 39 = .ok (.iadd, 1) := by decide +kernel
theorem dX5_layCross_40 : decode cX5_layCross 40 = .ok (.ishl, 1) := by decide +kernel
theorem dX5_layCross_41 : decode cX5_layCross 41 = .ok (.ior, 1) := by decide +kernel
theorem dX5_layCross_42 : decode cX5_layCross 42 = .ok (.istore_n 3, 1) := by decide +kernel
theorem dX5_layCross_43 : decode cX5_layCross 43 = .ok (.iinc 4 1, 3) := by decide +kernel
theorem dX5_layCross_46 : decode cX5_layCross 46 = .ok (.goto (-25), 3) := by decide +kernel
theorem dX5_layCross_49 : decode cX5_layCross 49 = .ok (.aload_n 1, 1) := by decide +kernel
theorem dX5_layCross_50 : decode cX5_layCross 50 = .ok (.iload_n 3, 1) := by decide +kernel
theorem dX5_layCross_51 : decode cX5_layCross 51 = .ok (.invokevirtual 69, 3) := by decide +kernel
theorem dX5_layCross_54 : decode cX5_layCross 54 = .ok (.iinc 2 1, 3) := by decide +kernel
theorem dX5_layCross_57 : decode cX5_layCross 57 = .ok (.goto (-48), 3) := by decide +kernel
theorem dX5_layCross_60 : decode cX5_layCross 60 = .ok (.return_, 1) := by decide +kernel
theorem dX6_init_0 : decode cX6_init 0 = .ok (.aload_n 0, 1) := by decide +kernel
theorem dX6_init_1 : decode cX6_init 1 = .ok (.invokespecial 1, 3) := by decide +kernel
theorem dX6_init_4 : decode cX6_init 4 = .ok (.aload_n 0, 1) := by decide +kernel
theorem dX6_init_5 : decode cX6_init 5 = .ok (.new 7, 3) := by decide +kernel
theorem dX6_init_8 : decode cX6_init 8 = .ok (.dup, 1) := by decide +kernel
theorem dX6_init_9 : decode cX6_init 9 = .ok (.invokespecial 9, 3) := by decide +kernel
theorem dX6_init_12 : decode cX6_init 12 = .ok (.putfield 10, 3) := by decide +kernel
theorem dX6_init_15 : decode cX6_init 15 = .ok (.aload_n 0, 1) := by decide +kernel
theorem dX6_init_16 : decode cX6_init 16 = .ok (.new 16, 3) := by decide +kernel
theorem dX6_init_19 : decode cX6_init 19 = .ok (.dup, 1) := by decide +kernel
theorem dX6_init_20 : decode cX6_init 20 = .ok (.invokespecial 18, 3) := by decide +kernel
theorem dX6_init_23 : decode cX6_init 23 = .ok (.putfield 19, 3) := by decide +kernel
theorem dX6_init_26 : decode cX6_init 26 = .ok (.aload_n 0, 1) := by decide +kernel
theorem dX6_init_27 : decode cX6_init 27 = .ok (.new 23, 3) := by decide +kernel
theorem dX6_init_30 : decode cX6_init 30 = .ok (.dup, 1) := by decide +kernel
theorem dX6_init_31 : decode cX6_init 31 = .ok (.invokespecial 25, 3) := by decide +kernel
theorem dX6_init_34 : decode cX6_init 34 = .ok (.putfield 26, 3) := by decide +kernel
theorem dX6_init_37 : decode cX6_init 37 = .ok (.aload_n 0, 1) := by decide +kernel
theorem dX6_init_38 : decode cX6_init 38 = .ok (.new 30, 3) := by decide +kernel
theorem dX6_init_41 : decode cX6_init 41 = .ok (.dup, 1) := by decide +kernel
theorem dX6_init_42 : decode cX6_init 42 = .ok (.invokespecial 32, 3) := by decide +kernel
theorem dX6_init_45 : decode cX6_init 45 = .ok (.putfield 33, 3) := by decide +kernel
theorem dX6_init_48 : decode cX6_init 48 = .ok (.aload_n 0, 1) := by decide +kernel
theorem dX6_init_49 : decode cX6_init 49 = .ok (.new 37, 3) := by decide +kernel
theorem dX6_init_52 : decode cX6_init 52 = .ok (.dup, 1) := by decide +kernel
theorem dX6_init_53 : decode cX6_init 53 = .ok (.invokespecial 39, 3) := by decide +kernel
theorem dX6_init_56 : decode cX6_init 56 = .ok (.putfield 40, 3) := by decide +kernel
theorem dX6_init_59 : decode cX6_init 59 = .ok (.aload_n 0, 1) := by decide +kernel
theorem dX6_init_60 : decode cX6_init 60 = .ok (.new 44, 3) := by decide +kernel
theorem dX6_init_63 : decode cX6_init 63 = .ok (.dup, 1) := by decide +kernel
theorem dX6_init_64 : decode cX6_init 64 = .ok (.invokespecial 46, 3) := by decide +kernel
theorem dX6_init_67 : decode cX6_init 67 = .ok (.putfield 47, 3) := by decide +kernel
theorem dX6_init_70 : decode cX6_init 70 = .ok (.aload_n 0, 1) := by decide +kernel
theorem dX6_init_71 : decode cX6_init 71 = .ok (.new 44, 3) := by decide +kernel
theorem dX6_init_74 : decode cX6_init 74 = .ok (.dup, 1) := by decide +kernel
theorem dX6_init_75 : decode cX6_init 75 = .ok (.invokespecial 46, 3) := by decide +kernel
theorem dX6_init_78 : decode cX6_init 78 = .ok (.putfield 51, 3) := by decide +kernel
theorem dX6_init_81 : decode cX6_init 81 = .ok (.aload_n 0, 1) := by decide +kernel
theorem dX6_init_82 : decode cX6_init 82 = .ok (.new 44, 3) := by decide +kernel
theorem dX6_init_85 : decode cX6_init 85 = .ok (.dup, 1) := by decide +kernel
theorem dX6_init_86 : decode cX6_init 86 = .ok (.invokespecial 46, 3) := by decide +kernel
theorem dX6_init_89 : decode cX6_init 89 = .ok (.putfield 54, 3) := by decide +kernel
theorem dX6_init_92 : decode cX6_init 92 = .ok (.aload_n 0, 1) := by decide +kernel
theorem dX6_init_93 : decode cX6_init 93 = .ok (.iconst 0, 1) := by decide +kernel
theorem dX6_init_94 : decode cX6_init 94 = .ok (.putfield 57, 3) := by decide +kernel
theorem dX6_init_97 : decode cX6_init 97 = .ok (.aload_n 0, 1) := by decide +kernel
theorem dX6_init_98 : decode cX6_init 98 = .ok (.getfield 26, 3) := by decide +kernel
theorem dX6_init_101 : decode cX6_init 101 = .ok (.aload_n 0, 1) := by decide +kernel
theorem dX6_init_102 : decode cX6_init 102 = .ok (.getfield 47, 3) := by decide +kernel
theorem dX6_init_105 : decode cX6_init 105 = .ok (.invokevirtual 61, 3) := by decide +kernel
theorem dX6_init_108 : decode cX6_init 108 = .ok (.return_, 1) := by decide +kernel
theorem dX6_append_0 : decode cX6_append 0 = .ok (.iload_n 1, 1) := by decide +kernel
theorem dX6_append_1 : decode cX6_append 1 = .ok (.invokestatic 65, 3) := by decide +kernel
theorem dX6_append_4 : decode cX6_append 4 = .ok (.iload_n 2, 1) := by decide +kernel
theorem dX6_append_5 : decode cX6_append 5 = .ok (.invokestatic 65, 3) := by decide +kernel
theorem dX6_append_8 : decode cX6_append 8 = .ok (.iadd, 1) := by decide +kernel
theorem dX6_append_9 : decode cX6_append 9 = .ok (.iload_n 3, 1) := by decide +kernel
theorem dX6_append_10 : decode cX6_append 10 = .ok (.invokestatic 65, 3) := by decide +kernel
theorem dX6_append_13 : decode cX6_append 13 = .ok (.iadd, 1) := by decide +kernel
theorem dX6_append_14 : decode cX6_append 14 = .ok (.iload 4, 2) := by decide +kernel
theorem dX6_append_16 : decode cX6_append 16 = .ok (.invokestatic 65, 3) := by decide +kernel
theorem dX6_append_19 : decode cX6_append 19 = .ok (.iadd, 1) := by decide +kernel
theorem dX6_append_20 : decode cX6_append 20 = .ok (.iload 5, 2) := by decide +kernel
theorem dX6_append_22 : decode cX6_append 22 = .ok (.invokestatic 65, 3) := by decide +kernel
theorem dX6_append_25 : decode cX6_append 25 = .ok (.iadd, 1) := by decide +kernel
theorem dX6_append_26 : decode cX6_append 26 = .ok (.istore 6, 2) := by decide +kernel
theorem dX6_append_28 : decode cX6_append 28 = .ok (.aload_n 0, 1) := by decide +kernel
theorem dX6_append_29 : decode cX6_append 29 = .ok (.getfield 10, 3) := by decide +kernel
theorem dX6_append_32 : decode cX6_append 32 = .ok (.getfield 69, 3) := by decide +kernel
theorem dX6_append_35 : decode cX6_append 35 = .ok (.iload 6, 2) := by decide +kernel
theorem dX6_append_37 : decode cX6_append 37 = .ok (.iadd, 1) := by decide +kernel
theorem dX6_append_38 : decode cX6_append 38 = .ok (.sipush 300, 3) := by decide +kernel
theorem dX6_append_41 : decode cX6_append 41 = .ok (.if_icmp .le 11, 3) := by decide +kernel
theorem dX6_append_44 : decode cX6_append 44 = .ok (.new 73, 3) := by decide +kernel
theorem dX6_append_47 : decode cX6_append 47 = .ok (.dup, 1) := by decide +kernel
theorem dX6_append_48 : decode cX6_append 48 = .ok (.invokespecial 75, 3) := by decide +kernel
theorem dX6_append_51 : decode cX6_append 51 = .ok (.athrow, 1) := by decide +kernel
theorem dX6_append_52 : decode cX6_append 52 = .ok (.aload_n 0, 1) := by decide +kernel
theorem dX6_append_53 : decode cX6_append 53 = .ok (.getfield 10, 3) := by decide +kernel
theorem dX6_append_56 : decode cX6_append 56 = .ok (.iload_n 1, 1) := by decide +kernel
theorem dX6_append_57 : decode cX6_append 57 = .ok (.invokevirtual 76, 3) := by decide +kernel
theorem dX6_append_60 : decode cX6_append 60 = .ok (.aload_n 0, 1) := by decide +kernel
theorem dX6_append_61 : decode cX6_append 61 = .ok (.getfield 10, 3) := by decide +kernel
theorem dX6_append_64 : decode cX6_append 64 = .ok (.iload_n 2, 1) := by decide +kernel
theorem dX6_append_65 : decode cX6_append 65 = .ok (.invokevirtual 76, 3) := by decide +kernel
theorem dX6_append_68 : decode cX6_append 68 = .ok (.aload_n 0, 1) := by decide +kernel
theorem dX6_append_69 : decode cX6_append 69 = .ok (.getfield 10, 3) := by decide +kernel
theorem dX6_append_72 : decode cX6_append 72 = .ok (.iload_n 3, 1) := by decide +kernel
theorem dX6_append_73 : decode cX6_append 73 = .ok (.invokevirtual 76, 3) := by decide +kernel
theorem dX6_append_76 : decode cX6_append 76 = .ok (.aload_n 0, 1) := by decide +kernel
theorem dX6_append_77 : decode cX6_append 77 = .ok (.getfield 10, 3) := by decide +kernel
theorem dX6_append_80 : decode cX6_append 80 = .ok (.iload 4, 2) := by decide +kernel
theorem dX6_append_82 : decode cX6_append 82 = .ok (.invokevirtual 76, 3) := by decide +kernel
theorem dX6_append_85 : decode cX6_append 85 = .ok (.aload_n 0, 1) := by decide +kernel
theorem dX6_append_86 : decode cX6_append 86 = .ok (.getfield 10, 3) := by decide +kernel
theorem dX6_append_89 : decode cX6_append 89 = .ok (.iload 5, 2) := by decide +kernel
theorem dX6_append_91 : decode cX6_append 91 = .ok (.invokevirtual 76, 3) := by decide +kernel
theorem dX6_append_94 : decode cX6_append 94 = .ok (.aload_n 0, 1) := by decide +kernel
theorem dX6_append_95 : decode cX6_append 95 = .ok (.getfield 10, 3) := by decide +kernel
theorem dX6_append_98 : decode cX6_append 98 = .ok (.getfield 69, 3) := by decide +kernel
theorem dX6_append_101 : decode cX6_append 101 = .ok (.ireturn, 1) := by decide +kernel
theorem dX6_truncate_0 : decode cX6_truncate 0 = .ok (.iload_n 1, 1) := by decide +kernel
theorem dX6_truncate_1 : decode cX6_truncate 1 = .ok (.ifCond .lt 14, 3) := by decide +kernel
theorem dX6_truncate_4 : decode cX6_truncate 4 = .ok (.iload_n 1, 1) := by decide +kernel
theorem dX6_truncate_5 : decode cX6_truncate 5 = .ok (.aload_n 0, 1) := by decide +kernel
theorem dX6_truncate_6 : decode cX6_truncate 6 = .ok (.getfield 10, 3) := by decide +kernel
theorem dX6_truncate_9 : decode cX6_truncate 9 = .ok (.getfield 69, 3) := by decide +kernel
theorem dX6_truncate_12 : decode cX6_truncate 12 = .ok (.if_icmp .le 11, 3) := by decide +kernel
theorem dX6_truncate_15 : decode cX6_truncate 15 = .ok (.new 80, 3) := by decide +kernel
theorem dX6_truncate_18 : decode cX6_truncate 18 = .ok (.dup, 1) := by decide +kernel
theorem dX6_truncate_19 : decode cX6_truncate 19 = .ok (.invokespecial 82, 3) := by decide +kernel
theorem dX6_truncate_22 : decode cX6_truncate 22 = .ok (.athrow, 1) := by decide +kernel
theorem dX6_truncate_23 : decode cX6_truncate 23 = .ok (.aload_n 0, 1) := by decide +kernel
theorem dX6_truncate_24 : decode cX6_truncate 24 = .ok (.getfield 10, 3) := by decide +kernel
theorem dX6_truncate_27 : decode cX6_truncate 27 = .ok (.iload_n 1, 1) := by decide +kernel
theorem dX6_truncate_28 : decode cX6_truncate 28 = .ok (.putfield 69, 3) := by decide +kernel
theorem dX6_truncate_31 : decode cX6_truncate 31 = .ok (.iload_n 1, 1) := by decide +kernel
theorem dX6_truncate_32 : decode cX6_truncate 32 = .ok (.ireturn, 1) := by decide +kernel
theorem dX6_errorPosition_0 : decode cX6_errorPosition 0 = .ok (.aload_n 0, 1) := by decide +kernel
theorem dX6_errorPosition_1 : decode cX6_errorPosition 1 = .ok (.getfield 10, 3) := by decide +kernel
theorem dX6_errorPosition_4 : decode cX6_errorPosition 4 = .ok (.aload_n 0, 1) := by decide +kernel
theorem dX6_errorPosition_5 : decode cX6_errorPosition 5 = .ok (.getfield 54, 3) := by decide +kernel
theorem dX6_errorPosition_8 : decode cX6_errorPosition 8 = .ok (.invokevirtual 83, 3) := by decide +kernel
theorem dX6_errorPosition_11 : decode cX6_errorPosition 11 = .ok (.ireturn, 1) := by decide +kernel
theorem dX6_load_0 : decode cX6_load 0 = .ok (.aload_n 0, 1) := by decide +kernel
theorem dX6_load_1 : decode cX6_load 1 = .ok (.getfield 10, 3) := by decide +kernel
theorem dX6_load_4 : decode cX6_load 4 = .ok (.aload_n 0, 1) := by decide +kernel
theorem dX6_load_5 : decode cX6_load 5 = .ok (.getfield 54, 3) := by decide +kernel
theorem dX6_load_8 : decode cX6_load 8 = .ok (.invokevirtual 83, 3) := by decide +kernel
theorem dX6_load_11 : decode cX6_load 11 = .ok (.iconst (-1), 1) := by decide +kernel
theorem dX6_load_12 : decode cX6_load 12 = .ok (.if_icmp .eq 11, 3) := by decide +kernel
theorem dX6_load_15 : decode cX6_load 15 = .ok (.new 80, 3) := by decide +kernel
theorem dX6_load_18 : decode cX6_load 18 = .ok (.dup, 1) := by decide +kernel
theorem dX6_load_19 : decode cX6_load 19 = .ok (.invokespecial 82, 3) := by decide +kernel
theorem dX6_load_22 : decode cX6_load 22 = .ok (.athrow, 1) := by decide +kernel
theorem dX6_load_23 : decode cX6_load 23 = .ok (.aload_n 0, 1) := by decide +kernel
theorem dX6_load_24 : decode cX6_load 24 = .ok (.getfield 10, 3) := by decide +kernel
theorem dX6_load_27 : decode cX6_load 27 = .ok (.iconst 0, 1) := by decide +kernel
theorem dX6_load_28 : decode cX6_load 28 = .ok (.putfield 69, 3) := by decide +kernel
theorem dX6_load_31 : decode cX6_load 31 = .ok (.aload_n 0, 1) := by decide +kernel
theorem dX6_load_32 : decode cX6_load 32 = .ok (.getfield 19, 3) := by decide +kernel
theorem dX6_load_35 : decode cX6_load 35 = .ok (.iconst 0, 1) := by decide +kernel
theorem dX6_load_36 : decode cX6_load 36 = .ok (.putfield 87, 3) := by decide +kernel
theorem dX6_load_39 : decode cX6_load 39 = .ok (.aload_n 0, 1) := by decide +kernel
theorem dX6_load_40 : decode cX6_load 40 = .ok (.iconst 0, 1) := by decide +kernel
theorem dX6_load_41 : decode cX6_load 41 = .ok (.putfield 57, 3) := by decide +kernel
theorem dX6_load_44 : decode cX6_load 44 = .ok (.aload_n 0, 1) := by decide +kernel
theorem dX6_load_45 : decode cX6_load 45 = .ok (.aload_n 0, 1) := by decide +kernel
theorem dX6_load_46 : decode cX6_load 46 = .ok (.getfield 54, 3) := by decide +kernel
theorem dX6_load_49 : decode cX6_load 49 = .ok (.invokevirtual 90, 3) := by decide +kernel
theorem dX6_load_52 : decode cX6_load 52 = .ok (.aload_n 0, 1) := by decide +kernel
theorem dX6_load_53 : decode cX6_load 53 = .ok (.getfield 47, 3) := by decide +kernel
theorem dX6_load_56 : decode cX6_load 56 = .ok (.getfield 93, 3) := by decide +kernel
theorem dX6_load_59 : decode cX6_load 59 = .ok (.ireturn, 1) := by decide +kernel
theorem dX6_setIncident_0 : decode cX6_setIncident 0 = .ok (.aload_n 0, 1) := by decide +kernel
theorem dX6_setIncident_1 : decode cX6_setIncident 1 = .ok (.iload_n 1, 1) := by decide +kernel
theorem dX6_setIncident_2 : decode cX6_setIncident 2 = .ok (.invokevirtual 96, 3) := by decide +kernel
theorem dX6_setIncident_5 : decode cX6_setIncident 5 = .ok (.aload_n 0, 1) := by decide +kernel
theorem dX6_setIncident_6 : decode cX6_setIncident 6 = .ok (.iload_n 2, 1) := by decide +kernel
theorem dX6_setIncident_7 : decode cX6_setIncident 7 = .ok (.invokevirtual 99, 3) := by decide +kernel
theorem dX6_setIncident_10 : decode cX6_setIncident 10 = .ok (.aload_n 0, 1) := by decide +kernel
theorem dX6_setIncident_11 : decode cX6_setIncident 11 = .ok (.getfield 47, 3) := by decide +kernel
theorem dX6_setIncident_14 : decode cX6_setIncident 14 = .ok (.iload_n 2, 1) := by decide +kernel
theorem dX6_setIncident_15 : decode cX6_setIncident 15 = .ok (.iload_n 1, 1) := by decide +kernel
theorem dX6_setIncident_16 : decode cX6_setIncident 16 = .ok (.invokevirtual 102, 3) := by decide +kernel
theorem dX6_setIncident_19 : decode cX6_setIncident 19 = .ok (.istore 4, 2) := by decide +kernel
theorem dX6_setIncident_21 : decode cX6_setIncident 21 = .ok (.aload_n 0, 1) := by decide +kernel
theorem dX6_setIncident_22 : decode cX6_setIncident 22 = .ok (.getfield 54, 3) := by decide +kernel
theorem dX6_setIncident_25 : decode cX6_setIncident 25 = .ok (.aload_n 0, 1) := by decide +kernel
theorem dX6_setIncident_26 : decode cX6_setIncident 26 = .ok (.getfield 47, 3) := by decide +kernel
theorem dX6_setIncident_29 : decode cX6_setIncident 29 = .ok (.invokevirtual 106, 3) := by decide +kernel
theorem dX6_setIncident_32 : decode cX6_setIncident 32 = .ok (.aload_n 0, 1) := by decide +kernel
theorem dX6_setIncident_33 : decode cX6_setIncident 33 = .ok (.getfield 54, 3) := by decide +kernel
theorem dX6_setIncident_36 : decode cX6_setIncident 36 = .ok (.iload_n 2, 1) := by decide +kernel
theorem dX6_setIncident_37 : decode cX6_setIncident 37 = .ok (.iload_n 1, 1) := by decide +kernel
theorem dX6_setIncident_38 : decode cX6_setIncident 38 = .ok (.iload_n 3, 1) := by decide +kernel
theorem dX6_setIncident_39 : decode cX6_setIncident 39 = .ok (.invokevirtual 109, 3) := by decide +kernel
theorem dX6_setIncident_42 : decode cX6_setIncident 42 = .ok (.aload_n 0, 1) := by decide +kernel
theorem dX6_setIncident_43 : decode cX6_setIncident 43 = .ok (.invokevirtual 112, 3) := by decide +kernel
theorem dX6_setIncident_46 : decode cX6_setIncident 46 = .ok (.iload 4, 2) := by decide +kernel
theorem dX6_setIncident_48 : decode cX6_setIncident 48 = .ok (.ireturn, 1) := by decide +kernel
theorem dX6_addFacet_0 : decode cX6_addFacet 0 = .ok (.aload_n 0, 1) := by decide +kernel
theorem dX6_addFacet_1 : decode cX6_addFacet 1 = .ok (.iload_n 1, 1) := by decide +kernel
theorem dX6_addFacet_2 : decode cX6_addFacet 2 = .ok (.invokevirtual 115, 3) := by decide +kernel
theorem dX6_addFacet_5 : decode cX6_addFacet 5 = .ok (.aload_n 0, 1) := by decide +kernel
theorem dX6_addFacet_6 : decode cX6_addFacet 6 = .ok (.getfield 47, 3) := by decide +kernel
theorem dX6_addFacet_9 : decode cX6_addFacet 9 = .ok (.getfield 93, 3) := by decide +kernel
theorem dX6_addFacet_12 : decode cX6_addFacet 12 = .ok (.bipush 10, 2) := by decide +kernel
theorem dX6_addFacet_14 : decode cX6_addFacet 14 = .ok (.if_icmp .lt 11, 3) := by decide +kernel
theorem dX6_addFacet_17 : decode cX6_addFacet 17 = .ok (.new 73, 3) := by decide +kernel
theorem dX6_addFacet_20 : decode cX6_addFacet 20 = .ok (.dup, 1) := by decide +kernel
theorem dX6_addFacet_21 : decode cX6_addFacet 21 = .ok (.invokespecial 75, 3) := by decide +kernel
theorem dX6_addFacet_24 : decode cX6_addFacet 24 = .ok (.athrow, 1) := by decide +kernel
theorem dX6_addFacet_25 : decode cX6_addFacet 25 = .ok (.aload_n 0, 1) := by decide +kernel
theorem dX6_addFacet_26 : decode cX6_addFacet 26 = .ok (.getfield 54, 3) := by decide +kernel
theorem dX6_addFacet_29 : decode cX6_addFacet 29 = .ok (.aload_n 0, 1) := by decide +kernel
theorem dX6_addFacet_30 : decode cX6_addFacet 30 = .ok (.getfield 47, 3) := by decide +kernel
theorem dX6_addFacet_33 : decode cX6_addFacet 33 = .ok (.invokevirtual 106, 3) := by decide +kernel
theorem dX6_addFacet_36 : decode cX6_addFacet 36 = .ok (.aload_n 0, 1) := by decide +kernel
theorem dX6_addFacet_37 : decode cX6_addFacet 37 = .ok (.getfield 54, 3) := by decide +kernel
theorem dX6_addFacet_40 : decode cX6_addFacet 40 = .ok (.iload_n 1, 1) := by decide +kernel
theorem dX6_addFacet_41 : decode cX6_addFacet 41 = .ok (.invokevirtual 118, 3) := by decide +kernel
theorem dX6_addFacet_44 : decode cX6_addFacet 44 = .ok (.aload_n 0, 1) := by decide +kernel
theorem dX6_addFacet_45 : decode cX6_addFacet 45 = .ok (.invokevirtual 112, 3) := by decide +kernel
theorem dX6_addFacet_48 : decode cX6_addFacet 48 = .ok (.aload_n 0, 1) := by decide +kernel
theorem dX6_addFacet_49 : decode cX6_addFacet 49 = .ok (.getfield 47, 3) := by decide +kernel
theorem dX6_addFacet_52 : decode cX6_addFacet 52 = .ok (.getfield 93, 3) := by decide +kernel
theorem dX6_addFacet_55 : decode cX6_addFacet 55 = .ok (.iconst 1, 1) := by decide +kernel
theorem dX6_addFacet_56 : decode cX6_addFacet 56 = .ok (.isub, 1) := by decide +kernel
theorem dX6_addFacet_57 : decode cX6_addFacet 57 = .ok (.ireturn, 1) := by decide +kernel
theorem dX6_removeFacet_0 : decode cX6_removeFacet 0 = .ok (.aload_n 0, 1) := by decide +kernel
theorem dX6_removeFacet_1 : decode cX6_removeFacet 1 = .ok (.iload_n 1, 1) := by decide +kernel
theorem dX6_removeFacet_2 : decode cX6_removeFacet 2 = .ok (.invokevirtual 99, 3) := by decide +kernel
theorem dX6_removeFacet_5 : decode cX6_removeFacet 5 = .ok (.aload_n 0, 1) := by decide +kernel
theorem dX6_removeFacet_6 : decode cX6_removeFacet 6 = .ok (.getfield 47, 3) := by decide +kernel
theorem dX6_removeFacet_9 : decode cX6_removeFacet 9 = .ok (.getfield 121, 3) := by decide +kernel
theorem dX6_removeFacet_12 : decode cX6_removeFacet 12 = .ok (.iload_n 1, 1) := by decide +kernel
theorem dX6_removeFacet_13 : decode cX6_removeFacet 13 = .ok (.iaload, 1) := by decide +kernel
theorem dX6_removeFacet_14 : decode cX6_removeFacet 14 = .ok (.istore_n 2, 1) := by decide +kernel
theorem dX6_removeFacet_15 : decode cX6_removeFacet 15 = .ok (.aload_n 0, 1) := by decide +kernel
theorem dX6_removeFacet_16 : decode cX6_removeFacet 16 = .ok (.getfield 54, 3) := by decide +kernel
theorem dX6_removeFacet_19 : decode cX6_removeFacet 19 = .ok (.aload_n 0, 1) := by decide +kernel
theorem dX6_removeFacet_20 : decode cX6_removeFacet 20 = .ok (.getfield 47, 3) := by decide +kernel
theorem dX6_removeFacet_23 : decode cX6_removeFacet 23 = .ok (.invokevirtual 106, 3) := by decide +kernel
theorem dX6_removeFacet_26 : decode cX6_removeFacet 26 = .ok (.aload_n 0, 1) := by decide +kernel
theorem dX6_removeFacet_27 : decode cX6_removeFacet 27 = .ok (.getfield 54, 3) := by decide +kernel
theorem dX6_removeFacet_30 : decode cX6_removeFacet 30 = .ok (.iload_n 1, 1) := by decide +kernel
theorem dX6_removeFacet_31 : decode cX6_removeFacet 31 = .ok (.invokevirtual 125, 3) := by decide +kernel
theorem dX6_removeFacet_34 : decode cX6_removeFacet 34 = .ok (.aload_n 0, 1) := by decide +kernel
theorem dX6_removeFacet_35 : decode cX6_removeFacet 35 = .ok (.invokevirtual 112, 3) := by decide +kernel
theorem dX6_removeFacet_38 : decode cX6_removeFacet 38 = .ok (.iload_n 2, 1) := by decide +kernel
theorem dX6_removeFacet_39 : decode cX6_removeFacet 39 = .ok (.ireturn, 1) := by decide +kernel
theorem dX6_dual_0 : decode cX6_dual 0 = .ok (.aload_n 0, 1) := by decide +kernel
theorem dX6_dual_1 : decode cX6_dual 1 = .ok (.getfield 47, 3) := by decide +kernel
theorem dX6_dual_4 : decode cX6_dual 4 = .ok (.getfield 93, 3) := by decide +kernel
theorem dX6_dual_7 : decode cX6_dual 7 = .ok (.iconst 1, 1) := by decide +kernel
theorem dX6_dual_8 : decode cX6_dual 8 = .ok (.if_icmp .lt 15, 3) := by decide +kernel
theorem dX6_dual_11 : decode cX6_dual 11 = .ok (.aload_n 0, 1) := by decide +kernel
theorem dX6_dual_12 : decode cX6_dual 12 = .ok (.getfield 47, 3) := by decide +kernel
theorem dX6_dual_15 : decode cX6_dual 15 = .ok (.getfield 93, 3) := by decide +kernel
theorem dX6_dual_18 : decode cX6_dual 18 = .ok (.bipush 8, 2) := by decide +kernel
theorem dX6_dual_20 : decode cX6_dual 20 = .ok (.if_icmp .le 11, 3) := by decide +kernel
theorem dX6_dual_23 : decode cX6_dual 23 = .ok (.new 73, 3) := by decide +kernel
theorem dX6_dual_26 : decode cX6_dual 26 = .ok (.dup, 1) := by decide +kernel
theorem dX6_dual_27 : decode cX6_dual 27 = .ok (.invokespecial 75, 3) := by decide +kernel
theorem dX6_dual_30 : decode cX6_dual 30 = .ok (.athrow, 1) := by decide +kernel
theorem dX6_dual_31 : decode cX6_dual 31 = .ok (.aload_n 0, 1) := by decide +kernel
theorem dX6_dual_32 : decode cX6_dual 32 = .ok (.getfield 54, 3) := by decide +kernel
theorem dX6_dual_35 : decode cX6_dual 35 = .ok (.aload_n 0, 1) := by decide +kernel
theorem dX6_dual_36 : decode cX6_dual 36 = .ok (.getfield 47, 3) := by decide +kernel
theorem dX6_dual_39 : decode cX6_dual 39 = .ok (.getfield 93, 3) := by decide +kernel
theorem dX6_dual_42 : decode cX6_dual 42 = .ok (.invokevirtual 128, 3) := by decide +kernel
theorem dX6_dual_45 : decode cX6_dual 45 = .ok (.iconst 0, 1) := by decide +kernel
theorem dX6_dual_46 : decode cX6_dual 46 = .ok (.istore_n 1, 1) := by decide +kernel
theorem dX6_dual_47 : decode cX6_dual 47 = .ok (.iload_n 1, 1) := by decide +kernel
theorem dX6_dual_48 : decode cX6_dual 48 = .ok (.aload_n 0, 1) := by decide +kernel
theorem dX6_dual_49 : decode cX6_dual 49 = .ok (.getfield 47, 3) := by decide +kernel
theorem dX6_dual_52 : decode cX6_dual 52 = .ok (.getfield 131, 3) := by decide +kernel
theorem dX6_dual_55 : decode cX6_dual 55 = .ok (.if_icmp .ge 24, 3) := by decide +kernel
theorem dX6_dual_58 : decode cX6_dual 58 = .ok (.aload_n 0, 1) := by decide +kernel
theorem dX6_dual_59 : decode cX6_dual 59 = .ok (.getfield 54, 3) := by decide +kernel
theorem dX6_dual_62 : decode cX6_dual 62 = .ok (.aload_n 0, 1) := by decide +kernel
theorem dX6_dual_63 : decode cX6_dual 63 = .ok (.getfield 47, 3) := by decide +kernel
theorem dX6_dual_66 : decode cX6_dual 66 = .ok (.iload_n 1, 1) := by decide +kernel
theorem dX6_dual_67 : decode cX6_dual 67 = .ok (.invokevirtual 134, 3) := by decide +kernel
theorem dX6_dual_70 : decode cX6_dual 70 = .ok (.invokevirtual 118, 3) := by decide +kernel
theorem dX6_dual_73 : decode cX6_dual 73 = .ok (.iinc 1 1, 3) := by decide +kernel
theorem dX6_dual_76 : decode cX6_dual 76 = .ok (.goto (-29), 3) := by decide +kernel
theorem dX6_dual_79 : decode cX6_dual 79 = .ok (.aload_n 0, 1) := by decide +kernel
theorem dX6_dual_80 : decode cX6_dual 80 = .ok (.invokevirtual 112, 3) := by decide +kernel
theorem dX6_dual_83 : decode cX6_dual 83 = .ok (.aload_n 0, 1) := by decide +kernel
theorem dX6_dual_84 : decode cX6_dual 84 = .ok (.getfield 26, 3) := by decide +kernel
theorem dX6_dual_87 : decode cX6_dual 87 = .ok (.getfield 137, 3) := by decide +kernel
theorem dX6_dual_90 : decode cX6_dual 90 = .ok (.ireturn, 1) := by decide +kernel
theorem dX6_pyramid_0 : decode cX6_pyramid 0 = .ok (.aload_n 0, 1) := by decide +kernel
theorem dX6_pyramid_1 : decode cX6_pyramid 1 = .ok (.getfield 47, 3) := by decide +kernel
theorem dX6_pyramid_4 : decode cX6_pyramid 4 = .ok (.getfield 131, 3) := by decide +kernel
theorem dX6_pyramid_7 : decode cX6_pyramid 7 = .ok (.bipush 8, 2) := by decide +kernel
theorem dX6_pyramid_9 : decode cX6_pyramid 9 = .ok (.if_icmp .ge 15, 3) := by decide +kernel
theorem dX6_pyramid_12 : decode cX6_pyramid 12 = .ok (.aload_n 0, 1) := by decide +kernel
theorem dX6_pyramid_13 : decode cX6_pyramid 13 = .ok (.getfield 47, 3) := by decide +kernel
theorem dX6_pyramid_16 : decode cX6_pyramid 16 = .ok (.getfield 93, 3) := by decide +kernel
theorem dX6_pyramid_19 : decode cX6_pyramid 19 = .ok (.bipush 10, 2) := by decide +kernel
theorem dX6_pyramid_21 : decode cX6_pyramid 21 = .ok (.if_icmp .lt 11, 3) := by decide +kernel
theorem dX6_pyramid_24 : decode cX6_pyramid 24 = .ok (.new 73, 3) := by decide +kernel
theorem dX6_pyramid_27 : decode cX6_pyramid 27 = .ok (.dup, 1) := by decide +kernel
theorem dX6_pyramid_28 : decode cX6_pyramid 28 = .ok (.invokespecial 75, 3) := by decide +kernel
theorem dX6_pyramid_31 : decode cX6_pyramid 31 = .ok (.athrow, 1) := by decide +kernel
theorem dX6_pyramid_32 : decode cX6_pyramid 32 = .ok (.iconst 1, 1) := by decide +kernel
theorem dX6_pyramid_33 : decode cX6_pyramid 33 = .ok (.aload_n 0, 1) := by decide +kernel
theorem dX6_pyramid_34 : decode cX6_pyramid 34 = .ok (.getfield 47, 3) := by decide +kernel
theorem dX6_pyramid_37 : decode cX6_pyramid 37 = .ok (.getfield 131, 3) := by decide +kernel
theorem dX6_pyramid_40 : decode cX6_pyramid 40 = .ok (.ishl, 1) := by decide +kernel
theorem dX6_pyramid_41 : decode cX6_pyramid 41 = .ok (.istore_n 1, 1) := by decide +kernel
theorem dX6_pyramid_42 : decode cX6_pyramid 42 = .ok (.aload_n 0, 1) := by decide +kernel
theorem dX6_pyramid_43 : decode cX6_pyramid 43 = .ok (.getfield 54, 3) := by decide +kernel
theorem dX6_pyramid_46 : decode cX6_pyramid 46 = .ok (.aload_n 0, 1) := by decide +kernel
theorem dX6_pyramid_47 : decode cX6_pyramid 47 = .ok (.getfield 47, 3) := by decide +kernel
theorem dX6_pyramid_50 : decode cX6_pyramid 50 = .ok (.getfield 131, 3) := by decide +kernel
theorem dX6_pyramid_53 : decode cX6_pyramid 53 = .ok (.iconst 1, 1) := by decide +kernel
theorem dX6_pyramid_54 : decode cX6_pyramid 54 = .ok (.iadd, 1) := by decide +kernel
theorem dX6_pyramid_55 : decode cX6_pyramid 55 = .ok (.invokevirtual 128, 3) := by decide +kernel
theorem dX6_pyramid_58 : decode cX6_pyramid 58 = .ok (.iconst 0, 1) := by decide +kernel
theorem dX6_pyramid_59 : decode cX6_pyramid 59 = .ok (.istore_n 2, 1) := by decide +kernel
theorem dX6_pyramid_60 : decode cX6_pyramid 60 = .ok (.iload_n 2, 1) := by decide +kernel
theorem dX6_pyramid_61 : decode cX6_pyramid 61 = .ok (.aload_n 0, 1) := by decide +kernel
theorem dX6_pyramid_62 : decode cX6_pyramid 62 = .ok (.getfield 47, 3) := by decide +kernel
theorem dX6_pyramid_65 : decode cX6_pyramid 65 = .ok (.getfield 93, 3) := by decide +kernel
theorem dX6_pyramid_68 : decode cX6_pyramid 68 = .ok (.if_icmp .ge 27, 3) := by decide +kernel
theorem dX6_pyramid_71 : decode cX6_pyramid 71 = .ok (.aload_n 0, 1) := by decide +kernel
theorem dX6_pyramid_72 : decode cX6_pyramid 72 = .ok (.getfield 54, 3) := by decide +kernel
theorem dX6_pyramid_75 : decode cX6_pyramid 75 = .ok (.aload_n 0, 1) := by decide +kernel
theorem dX6_pyramid_76 : decode cX6_pyramid 76 = .ok (.getfield 47, 3) := by decide +kernel
theorem dX6_pyramid_79 : decode cX6_pyramid 79 = .ok (.getfield 121, 3) := by decide +kernel
theorem dX6_pyramid_82 : decode cX6_pyramid 82 = .ok (.iload_n 2, 1) := by decide +kernel
theorem dX6_pyramid_83 : decode cX6_pyramid 83 = .ok (.iaload, 1) := by decide +kernel
theorem dX6_pyramid_84 : decode cX6_pyramid 84 = .ok (.iload_n 1, 1) := by decide +kernel
theorem dX6_pyramid_85 : decode cX6_pyramid 85 = .ok (.ior, 1) := by decide +kernel
theorem dX6_pyramid_86 : decode cX6_pyramid 86 = .ok (.invokevirtual 118, 3) := by decide +kernel
theorem dX6_pyramid_89 : decode cX6_pyramid 89 = .ok (.iinc 2 1, 3) := by decide +kernel
theorem dX6_pyramid_92 : decode cX6_pyramid 92 = .ok (.goto (-32), 3) := by decide +kernel
theorem dX6_pyramid_95 : decode cX6_pyramid 95 = .ok (.aload_n 0, 1) := by decide +kernel
theorem dX6_pyramid_96 : decode cX6_pyramid 96 = .ok (.getfield 54, 3) := by decide +kernel
theorem dX6_pyramid_99 : decode cX6_pyramid 99 = .ok (.aload_n 0, 1) := by decide +kernel
theorem dX6_pyramid_100 : decode cX6_pyramid 100 = .ok (.getfield 47, 3) := by decide +kernel
theorem dX6_pyramid_103 : decode cX6_pyramid 103 = .ok (.invokevirtual 140, 3) := by decide +kernel
theorem dX6_pyramid_106 : decode cX6_pyramid 106 = .ok (.invokevirtual 118, 3) := by decide +kernel
theorem dX6_pyramid_109 : decode cX6_pyramid 109 = .ok (.aload_n 0, 1) := by decide +kernel
theorem dX6_pyramid_110 : decode cX6_pyramid 110 = .ok (.invokevirtual 112, 3) := by decide +kernel
theorem dX6_pyramid_113 : decode cX6_pyramid 113 = .ok (.aload_n 0, 1) := by decide +kernel
theorem dX6_pyramid_114 : decode cX6_pyramid 114 = .ok (.getfield 26, 3) := by decide +kernel
theorem dX6_pyramid_117 : decode cX6_pyramid 117 = .ok (.getfield 137, 3) := by decide +kernel
theorem dX6_pyramid_120 : decode cX6_pyramid 120 = .ok (.ireturn, 1) := by decide +kernel
theorem dX6_stack_0 : decode cX6_stack 0 = .ok (.aload_n 0, 1) := by decide +kernel
theorem dX6_stack_1 : decode cX6_stack 1 = .ok (.iload_n 1, 1) := by decide +kernel
theorem dX6_stack_2 : decode cX6_stack 2 = .ok (.invokevirtual 99, 3) := by decide +kernel
theorem dX6_stack_5 : decode cX6_stack 5 = .ok (.aload_n 0, 1) := by decide +kernel
theorem dX6_stack_6 : decode cX6_stack 6 = .ok (.getfield 47, 3) := by decide +kernel
theorem dX6_stack_9 : decode cX6_stack 9 = .ok (.getfield 121, 3) := by decide +kernel
theorem dX6_stack_12 : decode cX6_stack 12 = .ok (.iload_n 1, 1) := by decide +kernel
theorem dX6_stack_13 : decode cX6_stack 13 = .ok (.iaload, 1) := by decide +kernel
theorem dX6_stack_14 : decode cX6_stack 14 = .ok (.istore_n 2, 1) := by decide +kernel
theorem dX6_stack_15 : decode cX6_stack 15 = .ok (.aload_n 0, 1) := by decide +kernel
theorem dX6_stack_16 : decode cX6_stack 16 = .ok (.getfield 26, 3) := by decide +kernel
theorem dX6_stack_19 : decode cX6_stack 19 = .ok (.iload_n 2, 1) := by decide +kernel
theorem dX6_stack_20 : decode cX6_stack 20 = .ok (.iconst 0, 1) := by decide +kernel
theorem dX6_stack_21 : decode cX6_stack 21 = .ok (.invokevirtual 144, 3) := by decide +kernel
theorem dX6_stack_24 : decode cX6_stack 24 = .ok (.istore_n 3, 1) := by decide +kernel
theorem dX6_stack_25 : decode cX6_stack 25 = .ok (.iload_n 3, 1) := by decide +kernel
theorem dX6_stack_26 : decode cX6_stack 26 = .ok (.ifCond .eq 31, 3) := by decide +kernel
theorem dX6_stack_29 : decode cX6_stack 29 = .ok (.aload_n 0, 1) := by decide +kernel
theorem dX6_stack_30 : decode cX6_stack 30 = .ok (.getfield 47, 3) := by decide +kernel
theorem dX6_stack_33 : decode cX6_stack 33 = .ok (.getfield 131, 3) := by decide +kernel
theorem dX6_stack_36 : decode cX6_stack 36 = .ok (.bipush 8, 2) := by decide +kernel
theorem dX6_stack_38 : decode cX6_stack 38 = .ok (.if_icmp .ge 19, 3) := by decide +kernel
theorem dX6_stack_41 : decode cX6_stack 41 = .ok (.aload_n 0, 1) := by decide +kernel
theorem dX6_stack_42 : decode cX6_stack 42 = .ok (.getfield 47, 3) := by decide +kernel
theorem dX6_stack_45 : decode cX6_stack 45 = .ok (.getfield 93, 3) := by decide +kernel
theorem dX6_stack_48 : decode cX6_stack 48 = .ok (.iconst 1, 1) := by decide +kernel
theorem dX6_stack_49 : decode cX6_stack 49 = .ok (.isub, 1) := by decide +kernel
theorem dX6_stack_50 : decode cX6_stack 50 = .ok (.iload_n 3, 1) := by decide +kernel
theorem dX6_stack_51 : decode cX6_stack 51 = .ok (.iadd, 1) := by decide +kernel
theorem dX6_stack_52 : decode cX6_stack 52 = .ok (.bipush 10, 2) := by decide +kernel
theorem dX6_stack_54 : decode cX6_stack 54 = .ok (.if_icmp .le 11, 3) := by decide +kernel
theorem dX6_stack_57 : decode cX6_stack 57 = .ok (.new 73, 3) := by decide +kernel
theorem dX6_stack_60 : decode cX6_stack 60 = .ok (.dup, 1) := by decide +kernel
theorem dX6_stack_61 : decode cX6_stack 61 = .ok (.invokespecial 75, 3) := by decide +kernel
theorem dX6_stack_64 : decode cX6_stack 64 = .ok (.athrow, 1) := by decide +kernel
theorem dX6_stack_65 : decode cX6_stack 65 = .ok (.iconst 1, 1) := by decide +kernel
theorem dX6_stack_66 : decode cX6_stack 66 = .ok (.aload_n 0, 1) := by decide +kernel
theorem dX6_stack_67 : decode cX6_stack 67 = .ok (.getfield 47, 3) := by decide +kernel
theorem dX6_stack_70 : decode cX6_stack 70 = .ok (.getfield 131, 3) := by decide +kernel
theorem dX6_stack_73 : decode cX6_stack 73 = .ok (.ishl, 1) := by decide +kernel
theorem dX6_stack_74 : decode cX6_stack 74 = .ok (.istore 4, 2) := by decide +kernel
theorem dX6_stack_76 : decode cX6_stack 76 = .ok (.aload_n 0, 1) := by decide +kernel
theorem dX6_stack_77 : decode cX6_stack 77 = .ok (.getfield 54, 3) := by decide +kernel
theorem dX6_stack_80 : decode cX6_stack 80 = .ok (.aload_n 0, 1) := by decide +kernel
theorem dX6_stack_81 : decode cX6_stack 81 = .ok (.getfield 47, 3) := by decide +kernel
theorem dX6_stack_84 : decode cX6_stack 84 = .ok (.getfield 131, 3) := by decide +kernel
theorem dX6_stack_87 : decode cX6_stack 87 = .ok (.iconst 1, 1) := by decide +kernel
theorem dX6_stack_88 : decode cX6_stack 88 = .ok (.iadd, 1) := by decide +kernel
theorem dX6_stack_89 : decode cX6_stack 89 = .ok (.invokevirtual 128, 3) := by decide +kernel
theorem dX6_stack_92 : decode cX6_stack 92 = .ok (.iconst 0, 1) := by decide +kernel
theorem dX6_stack_93 : decode cX6_stack 93 = .ok (.istore 5, 2) := by decide +kernel
theorem dX6_stack_95 : decode cX6_stack 95 = .ok (.iload 5, 2) := by decide +kernel
theorem dX6_stack_97 : decode cX6_stack 97 = .ok (.aload_n 0, 1) := by decide +kernel
theorem dX6_stack_98 : decode cX6_stack 98 = .ok (.getfield 47, 3) := by decide +kernel
theorem dX6_stack_101 : decode cX6_stack 101 = .ok (.getfield 93, 3) := by decide +kernel
theorem dX6_stack_104 : decode cX6_stack 104 = .ok (.if_icmp .ge 32, 3) := by decide +kernel
theorem dX6_stack_107 : decode cX6_stack 107 = .ok (.iload 5, 2) := by decide +kernel
theorem dX6_stack_109 : decode cX6_stack 109 = .ok (.iload_n 1, 1) := by decide +kernel
theorem dX6_stack_110 : decode cX6_stack 110 = .ok (.if_icmp .eq 20, 3) := by decide +kernel
theorem dX6_stack_113 : decode cX6_stack 113 = .ok (.aload_n 0, 1) := by decide +kernel
theorem dX6_stack_114 : decode cX6_stack 114 = .ok (.getfield 54, 3) := by decide +kernel
theorem dX6_stack_117 : decode cX6_stack 117 = .ok (.aload_n 0, 1) := by decide +kernel
theorem dX6_stack_118 : decode cX6_stack 118 = .ok (.getfield 47, 3) := by decide +kernel
theorem dX6_stack_121 : decode cX6_stack 121 = .ok (.getfield 121, 3) := by decide +kernel
theorem dX6_stack_124 : decode cX6_stack 124 = .ok (.iload 5, 2) := by decide +kernel
theorem dX6_stack_126 : decode cX6_stack 126 = .ok (.iaload, 1) := by decide +kernel
theorem dX6_stack_127 : decode cX6_stack 127 = .ok (.invokevirtual 118, 3) := by decide +kernel
theorem dX6_stack_130 : decode cX6_stack 130 = .ok (.iinc 5 1, 3) := by decide +kernel
theorem dX6_stack_133 : decode cX6_stack 133 = .ok (.goto (-38), 3) := by decide +kernel
theorem dX6_stack_136 : decode cX6_stack 136 = .ok (.iconst 0, 1) := by decide +kernel
theorem dX6_stack_137 : decode cX6_stack 137 = .ok (.istore 5, 2) := by decide +kernel
theorem dX6_stack_139 : decode cX6_stack 139 = .ok (.iload 5, 2) := by decide +kernel
theorem dX6_stack_141 : decode cX6_stack 141 = .ok (.aload_n 0, 1) := by decide +kernel
theorem dX6_stack_142 : decode cX6_stack 142 = .ok (.getfield 26, 3) := by decide +kernel
theorem dX6_stack_145 : decode cX6_stack 145 = .ok (.getfield 137, 3) := by decide +kernel
theorem dX6_stack_148 : decode cX6_stack 148 = .ok (.if_icmp .ge 50, 3) := by decide +kernel
theorem dX6_stack_151 : decode cX6_stack 151 = .ok (.aload_n 0, 1) := by decide +kernel
theorem dX6_stack_152 : decode cX6_stack 152 = .ok (.getfield 26, 3) := by decide +kernel
theorem dX6_stack_155 : decode cX6_stack 155 = .ok (.aload_n 0, 1) := by decide +kernel
theorem dX6_stack_156 : decode cX6_stack 156 = .ok (.getfield 26, 3) := by decide +kernel
theorem dX6_stack_159 : decode cX6_stack 159 = .ok (.getfield 148, 3) := by decide +kernel
theorem dX6_stack_162 : decode cX6_stack 162 = .ok (.iload 5, 2) := by decide +kernel
theorem dX6_stack_164 : decode cX6_stack 164 = .ok (.iaload, 1) := by decide +kernel
theorem dX6_stack_165 : decode cX6_stack 165 = .ok (.iload_n 2, 1) := by decide +kernel
theorem dX6_stack_166 : decode cX6_stack 166 = .ok (.invokevirtual 149, 3) := by decide +kernel
theorem dX6_stack_169 : decode cX6_stack 169 = .ok (.ifCond .eq 23, 3) := by decide +kernel
theorem dX6_stack_172 : decode cX6_stack 172 = .ok (.aload_n 0, 1) := by decide +kernel
theorem dX6_stack_173 : decode cX6_stack 173 = .ok (.getfield 54, 3) := by decide +kernel
theorem dX6_stack_176 : decode cX6_stack 176 = .ok (.aload_n 0, 1) := by decide +kernel
theorem dX6_stack_177 : decode cX6_stack 177 = .ok (.getfield 26, 3) := by decide +kernel
theorem dX6_stack_180 : decode cX6_stack 180 = .ok (.getfield 148, 3) := by decide +kernel
theorem dX6_stack_183 : decode cX6_stack 183 = .ok (.iload 5, 2) := by decide +kernel
theorem dX6_stack_185 : decode cX6_stack 185 = .ok (.iaload, 1) := by decide +kernel
theorem dX6_stack_186 : decode cX6_stack 186 = .ok (.iload 4, 2) := by decide +kernel
theorem dX6_stack_188 : decode cX6_stack 188 = .ok (.ior, 1) := by decide +kernel
theorem dX6_stack_189 : decode cX6_stack 189 = .ok (.invokevirtual 118, 3) := by decide +kernel
theorem dX6_stack_192 : decode cX6_stack 192 = .ok (.iinc 5 1, 3) := by decide +kernel
theorem dX6_stack_195 : decode cX6_stack 195 = .ok (.goto (-56), 3) := by decide +kernel
theorem dX6_stack_198 : decode cX6_stack 198 = .ok (.aload_n 0, 1) := by decide +kernel
theorem dX6_stack_199 : decode cX6_stack 199 = .ok (.invokevirtual 112, 3) := by decide +kernel
theorem dX6_stack_202 : decode cX6_stack 202 = .ok (.aload_n 0, 1) := by decide +kernel
theorem dX6_stack_203 : decode cX6_stack 203 = .ok (.getfield 47, 3) := by decide +kernel
theorem dX6_stack_206 : decode cX6_stack 206 = .ok (.getfield 93, 3) := by decide +kernel
theorem dX6_stack_209 : decode cX6_stack 209 = .ok (.ireturn, 1) := by decide +kernel
theorem dX6_cutOff_0 : decode cX6_cutOff 0 = .ok (.aload_n 0, 1) := by decide +kernel
theorem dX6_cutOff_1 : decode cX6_cutOff 1 = .ok (.iload_n 1, 1) := by decide +kernel
theorem dX6_cutOff_2 : decode cX6_cutOff 2 = .ok (.invokevirtual 96, 3) := by decide +kernel
theorem dX6_cutOff_5 : decode cX6_cutOff 5 = .ok (.aload_n 0, 1) := by decide +kernel
theorem dX6_cutOff_6 : decode cX6_cutOff 6 = .ok (.getfield 33, 3) := by decide +kernel
theorem dX6_cutOff_9 : decode cX6_cutOff 9 = .ok (.aload_n 0, 1) := by decide +kernel
theorem dX6_cutOff_10 : decode cX6_cutOff 10 = .ok (.getfield 47, 3) := by decide +kernel
theorem dX6_cutOff_13 : decode cX6_cutOff 13 = .ok (.aload_n 0, 1) := by decide +kernel
theorem dX6_cutOff_14 : decode cX6_cutOff 14 = .ok (.getfield 26, 3) := by decide +kernel
theorem dX6_cutOff_17 : decode cX6_cutOff 17 = .ok (.invokevirtual 152, 3) := by decide +kernel
theorem dX6_cutOff_20 : decode cX6_cutOff 20 = .ok (.aload_n 0, 1) := by decide +kernel
theorem dX6_cutOff_21 : decode cX6_cutOff 21 = .ok (.getfield 33, 3) := by decide +kernel
theorem dX6_cutOff_24 : decode cX6_cutOff 24 = .ok (.getfield 156, 3) := by decide +kernel
theorem dX6_cutOff_27 : decode cX6_cutOff 27 = .ok (.iload_n 1, 1) := by decide +kernel
theorem dX6_cutOff_28 : decode cX6_cutOff 28 = .ok (.iaload, 1) := by decide +kernel
theorem dX6_cutOff_29 : decode cX6_cutOff 29 = .ok (.istore_n 2, 1) := by decide +kernel
theorem dX6_cutOff_30 : decode cX6_cutOff 30 = .ok (.aload_n 0, 1) := by decide +kernel
theorem dX6_cutOff_31 : decode cX6_cutOff 31 = .ok (.getfield 47, 3) := by decide +kernel
theorem dX6_cutOff_34 : decode cX6_cutOff 34 = .ok (.getfield 131, 3) := by decide +kernel
theorem dX6_cutOff_37 : decode cX6_cutOff 37 = .ok (.iconst 1, 1) := by decide +kernel
theorem dX6_cutOff_38 : decode cX6_cutOff 38 = .ok (.isub, 1) := by decide +kernel
theorem dX6_cutOff_39 : decode cX6_cutOff 39 = .ok (.istore_n 3, 1) := by decide +kernel
theorem dX6_cutOff_40 : decode cX6_cutOff 40 = .ok (.iload_n 2, 1) := by decide +kernel
theorem dX6_cutOff_41 : decode cX6_cutOff 41 = .ok (.invokestatic 159, 3) := by decide +kernel
theorem dX6_cutOff_44 : decode cX6_cutOff 44 = .ok (.istore 4, 2) := by decide +kernel
theorem dX6_cutOff_46 : decode cX6_cutOff 46 = .ok (.iload 4, 2) := by decide +kernel
theorem dX6_cutOff_48 : decode cX6_cutOff 48 = .ok (.ifCond .eq 24, 3) := by decide +kernel
theorem dX6_cutOff_51 : decode cX6_cutOff 51 = .ok (.iload_n 3, 1) := by decide +kernel
theorem dX6_cutOff_52 : decode cX6_cutOff 52 = .ok (.iload 4, 2) := by decide +kernel
theorem dX6_cutOff_54 : decode cX6_cutOff 54 = .ok (.iadd, 1) := by decide +kernel
theorem dX6_cutOff_55 : decode cX6_cutOff 55 = .ok (.bipush 8, 2) := by decide +kernel
theorem dX6_cutOff_57 : decode cX6_cutOff 57 = .ok (.if_icmp .gt 15, 3) := by decide +kernel
theorem dX6_cutOff_60 : decode cX6_cutOff 60 = .ok (.aload_n 0, 1) := by decide +kernel
theorem dX6_cutOff_61 : decode cX6_cutOff 61 = .ok (.getfield 47, 3) := by decide +kernel
theorem dX6_cutOff_64 : decode cX6_cutOff 64 = .ok (.getfield 93, 3) := by decide +kernel
theorem dX6_cutOff_67 : decode cX6_cutOff 67 = .ok (.bipush 10, 2) := by decide +kernel
theorem dX6_cutOff_69 : decode cX6_cutOff 69 = .ok (.if_icmp .lt 11, 3) := by decide +kernel
theorem dX6_cutOff_72 : decode cX6_cutOff 72 = .ok (.new 73, 3) := by decide +kernel
theorem dX6_cutOff_75 : decode cX6_cutOff 75 = .ok (.dup, 1) := by decide +kernel
theorem dX6_cutOff_76 : decode cX6_cutOff 76 = .ok (.invokespecial 75, 3) := by decide +kernel
theorem dX6_cutOff_79 : decode cX6_cutOff 79 = .ok (.athrow, 1) := by decide +kernel
theorem dX6_cutOff_80 : decode cX6_cutOff 80 = .ok (.aload_n 0, 1) := by decide +kernel
theorem dX6_cutOff_81 : decode cX6_cutOff 81 = .ok (.getfield 47, 3) := by decide +kernel
theorem dX6_cutOff_84 : decode cX6_cutOff 84 = .ok (.invokevirtual 140, 3) := by decide +kernel
theorem dX6_cutOff_87 : decode cX6_cutOff 87 = .ok (.iconst 1, 1) := by decide +kernel
theorem dX6_cutOff_88 : decode cX6_cutOff 88 = .ok (.iload_n 1, 1) := by decide +kernel
theorem dX6_cutOff_89 : decode cX6_cutOff 89 = .ok (.ishl, 1) := by decide +kernel
theorem dX6_cutOff_90 : decode cX6_cutOff 90 = .ok (.iconst (-1), 1) := by decide +kernel
theorem dX6_cutOff_91 : decode cX6_cutOff 91 = .ok (.ixor, 1) := by decide +kernel
theorem dX6_cutOff_92 : decode cX6_cutOff 92 = .ok (.iand, 1) := by decide +kernel
theorem dX6_cutOff_93 : decode cX6_cutOff 93 = .ok (.istore 5, 2) := by decide +kernel
theorem dX6_cutOff_95 : decode cX6_cutOff 95 = .ok (.aload_n 0, 1) := by decide +kernel
theorem dX6_cutOff_96 : decode cX6_cutOff 96 = .ok (.getfield 54, 3) := by decide +kernel
theorem dX6_cutOff_99 : decode cX6_cutOff 99 = .ok (.iload_n 3, 1) := by decide +kernel
theorem dX6_cutOff_100 : decode cX6_cutOff 100 = .ok (.iload 4, 2) := by decide +kernel
theorem dX6_cutOff_102 : decode cX6_cutOff 102 = .ok (.iadd, 1) := by decide +kernel
theorem dX6_cutOff_103 : decode cX6_cutOff 103 = .ok (.invokevirtual 128, 3) := by decide +kernel
theorem dX6_cutOff_106 : decode cX6_cutOff 106 = .ok (.iconst 0, 1) := by decide +kernel
theorem dX6_cutOff_107 : decode cX6_cutOff 107 = .ok (.istore 6, 2) := by decide +kernel
theorem dX6_cutOff_109 : decode cX6_cutOff 109 = .ok (.iload 6, 2) := by decide +kernel
theorem dX6_cutOff_111 : decode cX6_cutOff 111 = .ok (.aload_n 0, 1) := by decide +kernel
theorem dX6_cutOff_112 : decode cX6_cutOff 112 = .ok (.getfield 47, 3) := by decide +kernel
theorem dX6_cutOff_115 : decode cX6_cutOff 115 = .ok (.getfield 93, 3) := by decide +kernel
theorem dX6_cutOff_118 : decode cX6_cutOff 118 = .ok (.if_icmp .ge 65, 3) := by decide +kernel
theorem dX6_cutOff_121 : decode cX6_cutOff 121 = .ok (.aload_n 0, 1) := by decide +kernel
theorem dX6_cutOff_122 : decode cX6_cutOff 122 = .ok (.getfield 47, 3) := by decide +kernel
theorem dX6_cutOff_125 : decode cX6_cutOff 125 = .ok (.getfield 121, 3) := by decide +kernel
theorem dX6_cutOff_128 : decode cX6_cutOff 128 = .ok (.iload 6, 2) := by decide +kernel
theorem dX6_cutOff_130 : decode cX6_cutOff 130 = .ok (.iaload, 1) := by decide +kernel
theorem dX6_cutOff_131 : decode cX6_cutOff 131 = .ok (.istore 7, 2) := by decide +kernel
theorem dX6_cutOff_133 : decode cX6_cutOff 133 = .ok (.aload_n 0, 1) := by decide +kernel
theorem dX6_cutOff_134 : decode cX6_cutOff 134 = .ok (.getfield 47, 3) := by decide +kernel
theorem dX6_cutOff_137 : decode cX6_cutOff 137 = .ok (.iload 6, 2) := by decide +kernel
theorem dX6_cutOff_139 : decode cX6_cutOff 139 = .ok (.iload_n 1, 1) := by decide +kernel
theorem dX6_cutOff_140 : decode cX6_cutOff 140 = .ok (.invokevirtual 102, 3) := by decide +kernel
theorem dX6_cutOff_143 : decode cX6_cutOff 143 = .ok (.ifCond .eq 12, 3) := by decide +kernel
theorem dX6_cutOff_146 : decode cX6_cutOff 146 = .ok (.iload 7, 2) := by decide +kernel
theorem dX6_cutOff_148 : decode cX6_cutOff 148 = .ok (.iload_n 2, 1) := by decide +kernel
theorem dX6_cutOff_149 : decode cX6_cutOff 149 = .ok (.invokestatic 164, 3) := by decide +kernel
theorem dX6_cutOff_152 : decode cX6_cutOff 152 = .ok (.goto 4, 3) := by decide +kernel
theorem dX6_cutOff_155 : decode cX6_cutOff 155 = .ok (.iconst 0, 1) := by decide +kernel
theorem dX6_cutOff_156 : decode cX6_cutOff 156 = .ok (.istore 8, 2) := by decide +kernel
theorem dX6_cutOff_158 : decode cX6_cutOff 158 = .ok (.aload_n 0, 1) := by decide +kernel
theorem dX6_cutOff_159 : decode cX6_cutOff 159 = .ok (.getfield 54, 3) := by decide +kernel
theorem dX6_cutOff_162 : decode cX6_cutOff 162 = .ok (.iload 7, 2) := by decide +kernel
theorem dX6_cutOff_164 : decode cX6_cutOff 164 = .ok (.iload 5, 2) := by decide +kernel
theorem dX6_cutOff_166 : decode cX6_cutOff 166 = .ok (.invokestatic 164, 3) := by decide +kernel
theorem dX6_cutOff_169 : decode cX6_cutOff 169 = .ok (.iload 8, 2) := by decide +kernel
theorem dX6_cutOff_171 : decode cX6_cutOff 171 = .ok (.iload_n 3, 1) := by decide +kernel
theorem dX6_cutOff_172 : decode cX6_cutOff 172 = .ok (.ishl, 1) := by decide +kernel
theorem dX6_cutOff_173 : decode cX6_cutOff 173 = .ok (.ior, 1) := by decide +kernel
theorem dX6_cutOff_174 : decode cX6_cutOff 174 = .ok (.invokevirtual 118, 3) := by decide +kernel
theorem dX6_cutOff_177 : decode cX6_cutOff 177 = .ok (.iinc 6 1, 3) := by decide +kernel
theorem dX6_cutOff_180 : decode cX6_cutOff 180 = .ok (.goto (-71), 3) := by decide +kernel
theorem dX6_cutOff_183 : decode cX6_cutOff 183 = .ok (.aload_n 0, 1) := by decide +kernel
theorem dX6_cutOff_184 : decode cX6_cutOff 184 = .ok (.getfield 54, 3) := by decide +kernel
theorem dX6_cutOff_187 : decode cX6_cutOff 187 = .ok (.iconst 1, 1) := by decide +kernel
theorem dX6_cutOff_188 : decode cX6_cutOff 188 = .ok (.iload 4, 2) := by decide +kernel
theorem dX6_cutOff_190 : decode cX6_cutOff 190 = .ok (.ishl, 1) := by decide +kernel
theorem dX6_cutOff_191 : decode cX6_cutOff 191 = .ok (.iconst 1, 1) := by decide +kernel
theorem dX6_cutOff_192 : decode cX6_cutOff 192 = .ok (.isub, 1) := by decide +kernel
theorem dX6_cutOff_193 : decode cX6_cutOff 193 = .ok (.iload_n 3, 1) := by decide +kernel
theorem dX6_cutOff_194 : decode cX6_cutOff 194 = .ok (.ishl, 1) := by decide +kernel
theorem dX6_cutOff_195 : decode cX6_cutOff 195 = .ok (.invokevirtual 118, 3) := by decide +kernel
theorem dX6_cutOff_198 : decode cX6_cutOff 198 = .ok (.aload_n 0, 1) := by decide +kernel
theorem dX6_cutOff_199 : decode cX6_cutOff 199 = .ok (.invokevirtual 112, 3) := by decide +kernel
theorem dX6_cutOff_202 : decode cX6_cutOff 202 = .ok (.aload_n 0, 1) := by decide +kernel
theorem dX6_cutOff_203 : decode cX6_cutOff 203 = .ok (.getfield 47, 3) := by decide +kernel
theorem dX6_cutOff_206 : decode cX6_cutOff 206 = .ok (.getfield 131, 3) := by decide +kernel
theorem dX6_cutOff_209 : decode cX6_cutOff 209 = .ok (.ireturn, 1) := by decide +kernel
theorem dX6_keepFace_0 : decode cX6_keepFace 0 = .ok (.aload_n 0, 1) := by decide +kernel
theorem dX6_keepFace_1 : decode cX6_keepFace 1 = .ok (.iload_n 1, 1) := by decide +kernel
theorem dX6_keepFace_2 : decode cX6_keepFace 2 = .ok (.invokevirtual 168, 3) := by decide +kernel
theorem dX6_keepFace_5 : decode cX6_keepFace 5 = .ok (.aload_n 0, 1) := by decide +kernel
theorem dX6_keepFace_6 : decode cX6_keepFace 6 = .ok (.getfield 26, 3) := by decide +kernel
theorem dX6_keepFace_9 : decode cX6_keepFace 9 = .ok (.getfield 148, 3) := by decide +kernel
theorem dX6_keepFace_12 : decode cX6_keepFace 12 = .ok (.iload_n 1, 1) := by decide +kernel
theorem dX6_keepFace_13 : decode cX6_keepFace 13 = .ok (.iaload, 1) := by decide +kernel
theorem dX6_keepFace_14 : decode cX6_keepFace 14 = .ok (.istore_n 2, 1) := by decide +kernel
theorem dX6_keepFace_15 : decode cX6_keepFace 15 = .ok (.iload_n 2, 1) := by decide +kernel
theorem dX6_keepFace_16 : decode cX6_keepFace 16 = .ok (.ifCond .eq 17, 3) := by decide +kernel
theorem dX6_keepFace_19 : decode cX6_keepFace 19 = .ok (.aload_n 0, 1) := by decide +kernel
theorem dX6_keepFace_20 : decode cX6_keepFace 20 = .ok (.getfield 26, 3) := by decide +kernel
theorem dX6_keepFace_23 : decode cX6_keepFace 23 = .ok (.iload_n 2, 1) := by decide +kernel
theorem dX6_keepFace_24 : decode cX6_keepFace 24 = .ok (.iconst 0, 1) := by decide +kernel
theorem dX6_keepFace_25 : decode cX6_keepFace 25 = .ok (.invokevirtual 144, 3) := by decide +kernel
theorem dX6_keepFace_28 : decode cX6_keepFace 28 = .ok (.bipush 10, 2) := by decide +kernel
theorem dX6_keepFace_30 : decode cX6_keepFace 30 = .ok (.if_icmp .le 11, 3) := by decide +kernel
theorem dX6_keepFace_33 : decode cX6_keepFace 33 = .ok (.new 73, 3) := by decide +kernel
theorem dX6_keepFace_36 : decode cX6_keepFace 36 = .ok (.dup, 1) := by decide +kernel
theorem dX6_keepFace_37 : decode cX6_keepFace 37 = .ok (.invokespecial 75, 3) := by decide +kernel
theorem dX6_keepFace_40 : decode cX6_keepFace 40 = .ok (.athrow, 1) := by decide +kernel
theorem dX6_keepFace_41 : decode cX6_keepFace 41 = .ok (.aload_n 0, 1) := by decide +kernel
theorem dX6_keepFace_42 : decode cX6_keepFace 42 = .ok (.getfield 54, 3) := by decide +kernel
theorem dX6_keepFace_45 : decode cX6_keepFace 45 = .ok (.iload_n 2, 1) := by decide +kernel
theorem dX6_keepFace_46 : decode cX6_keepFace 46 = .ok (.invokestatic 159, 3) := by decide +kernel
theorem dX6_keepFace_49 : decode cX6_keepFace 49 = .ok (.invokevirtual 128, 3) := by decide +kernel
theorem dX6_keepFace_52 : decode cX6_keepFace 52 = .ok (.iconst 0, 1) := by decide +kernel
theorem dX6_keepFace_53 : decode cX6_keepFace 53 = .ok (.istore_n 3, 1) := by decide +kernel
theorem dX6_keepFace_54 : decode cX6_keepFace 54 = .ok (.iload_n 3, 1) := by decide +kernel
theorem dX6_keepFace_55 : decode cX6_keepFace 55 = .ok (.aload_n 0, 1) := by decide +kernel
theorem dX6_keepFace_56 : decode cX6_keepFace 56 = .ok (.getfield 26, 3) := by decide +kernel
theorem dX6_keepFace_59 : decode cX6_keepFace 59 = .ok (.getfield 137, 3) := by decide +kernel
theorem dX6_keepFace_62 : decode cX6_keepFace 62 = .ok (.if_icmp .ge 49, 3) := by decide +kernel
theorem dX6_keepFace_65 : decode cX6_keepFace 65 = .ok (.aload_n 0, 1) := by decide +kernel
theorem dX6_keepFace_66 : decode cX6_keepFace 66 = .ok (.getfield 26, 3) := by decide +kernel
theorem dX6_keepFace_69 : decode cX6_keepFace 69 = .ok (.aload_n 0, 1) := by decide +kernel
theorem dX6_keepFace_70 : decode cX6_keepFace 70 = .ok (.getfield 26, 3) := by decide +kernel
theorem dX6_keepFace_73 : decode cX6_keepFace 73 = .ok (.getfield 148, 3) := by decide +kernel
theorem dX6_keepFace_76 : decode cX6_keepFace 76 = .ok (.iload_n 3, 1) := by decide +kernel
theorem dX6_keepFace_77 : decode cX6_keepFace 77 = .ok (.iaload, 1) := by decide +kernel
theorem dX6_keepFace_78 : decode cX6_keepFace 78 = .ok (.iload_n 2, 1) := by decide +kernel
theorem dX6_keepFace_79 : decode cX6_keepFace 79 = .ok (.invokevirtual 149, 3) := by decide +kernel
theorem dX6_keepFace_82 : decode cX6_keepFace 82 = .ok (.ifCond .eq 23, 3) := by decide +kernel
theorem dX6_keepFace_85 : decode cX6_keepFace 85 = .ok (.aload_n 0, 1) := by decide +kernel
theorem dX6_keepFace_86 : decode cX6_keepFace 86 = .ok (.getfield 54, 3) := by decide +kernel
theorem dX6_keepFace_89 : decode cX6_keepFace 89 = .ok (.aload_n 0, 1) := by decide +kernel
theorem dX6_keepFace_90 : decode cX6_keepFace 90 = .ok (.getfield 26, 3) := by decide +kernel
theorem dX6_keepFace_93 : decode cX6_keepFace 93 = .ok (.getfield 148, 3) := by decide +kernel
theorem dX6_keepFace_96 : decode cX6_keepFace 96 = .ok (.iload_n 3, 1) := by decide +kernel
theorem dX6_keepFace_97 : decode cX6_keepFace 97 = .ok (.iaload, 1) := by decide +kernel
theorem dX6_keepFace_98 : decode cX6_keepFace 98 = .ok (.iload_n 2, 1) := by decide +kernel
theorem dX6_keepFace_99 : decode cX6_keepFace 99 = .ok (.invokestatic 164, 3) := by decide +kernel
theorem dX6_keepFace_102 : decode cX6_keepFace 102 = .ok (.invokevirtual 118, 3) := by decide +kernel
theorem dX6_keepFace_105 : decode cX6_keepFace 105 = .ok (.iinc 3 1, 3) := by decide +kernel
theorem dX6_keepFace_108 : decode cX6_keepFace 108 = .ok (.goto (-54), 3) := by decide +kernel
theorem dX6_keepFace_111 : decode cX6_keepFace 111 = .ok (.aload_n 0, 1) := by decide +kernel
theorem dX6_keepFace_112 : decode cX6_keepFace 112 = .ok (.invokevirtual 112, 3) := by decide +kernel
theorem dX6_keepFace_115 : decode cX6_keepFace 115 = .ok (.aload_n 0, 1) := by decide +kernel
theorem dX6_keepFace_116 : decode cX6_keepFace 116 = .ok (.getfield 47, 3) := by decide +kernel
theorem dX6_keepFace_119 : decode cX6_keepFace 119 = .ok (.getfield 93, 3) := by decide +kernel
theorem dX6_keepFace_122 : decode cX6_keepFace 122 = .ok (.ireturn, 1) := by decide +kernel
theorem dX6_figure_0 : decode cX6_figure 0 = .ok (.aload_n 0, 1) := by decide +kernel
theorem dX6_figure_1 : decode cX6_figure 1 = .ok (.iload_n 1, 1) := by decide +kernel
theorem dX6_figure_2 : decode cX6_figure 2 = .ok (.invokevirtual 96, 3) := by decide +kernel
theorem dX6_figure_5 : decode cX6_figure 5 = .ok (.aload_n 0, 1) := by decide +kernel
theorem dX6_figure_6 : decode cX6_figure 6 = .ok (.getfield 26, 3) := by decide +kernel
theorem dX6_figure_9 : decode cX6_figure 9 = .ok (.getfield 171, 3) := by decide +kernel
theorem dX6_figure_12 : decode cX6_figure 12 = .ok (.iconst 1, 1) := by decide +kernel
theorem dX6_figure_13 : decode cX6_figure 13 = .ok (.iload_n 1, 1) := by decide +kernel
theorem dX6_figure_14 : decode cX6_figure 14 = .ok (.ishl, 1) := by decide +kernel
theorem dX6_figure_15 : decode cX6_figure 15 = .ok (.iaload, 1) := by decide +kernel
theorem dX6_figure_16 : decode cX6_figure 16 = .ok (.istore_n 2, 1) := by decide +kernel
theorem dX6_figure_17 : decode cX6_figure 17 = .ok (.aload_n 0, 1) := by decide +kernel
theorem dX6_figure_18 : decode cX6_figure 18 = .ok (.getfield 26, 3) := by decide +kernel
theorem dX6_figure_21 : decode cX6_figure 21 = .ok (.iload_n 2, 1) := by decide +kernel
theorem dX6_figure_22 : decode cX6_figure 22 = .ok (.iconst 1, 1) := by decide +kernel
theorem dX6_figure_23 : decode cX6_figure 23 = .ok (.invokevirtual 144, 3) := by decide +kernel
theorem dX6_figure_26 : decode cX6_figure 26 = .ok (.istore_n 3, 1) := by decide +kernel
theorem dX6_figure_27 : decode cX6_figure 27 = .ok (.iload_n 3, 1) := by decide +kernel
theorem dX6_figure_28 : decode cX6_figure 28 = .ok (.ifCond .eq 9, 3) := by decide +kernel
theorem dX6_figure_31 : decode cX6_figure 31 = .ok (.iload_n 3, 1) := by decide +kernel
theorem dX6_figure_32 : decode cX6_figure 32 = .ok (.bipush 8, 2) := by decide +kernel
theorem dX6_figure_34 : decode cX6_figure 34 = .ok (.if_icmp .le 11, 3) := by decide +kernel
theorem dX6_figure_37 : decode cX6_figure 37 = .ok (.new 73, 3) := by decide +kernel
theorem dX6_figure_40 : decode cX6_figure 40 = .ok (.dup, 1) := by decide +kernel
theorem dX6_figure_41 : decode cX6_figure 41 = .ok (.invokespecial 75, 3) := by decide +kernel
theorem dX6_figure_44 : decode cX6_figure 44 = .ok (.athrow, 1) := by decide +kernel
theorem dX6_figure_45 : decode cX6_figure 45 = .ok (.aload_n 0, 1) := by decide +kernel
theorem dX6_figure_46 : decode cX6_figure 46 = .ok (.getfield 54, 3) := by decide +kernel
theorem dX6_figure_49 : decode cX6_figure 49 = .ok (.iload_n 3, 1) := by decide +kernel
theorem dX6_figure_50 : decode cX6_figure 50 = .ok (.invokevirtual 128, 3) := by decide +kernel
theorem dX6_figure_53 : decode cX6_figure 53 = .ok (.iconst 0, 1) := by decide +kernel
theorem dX6_figure_54 : decode cX6_figure 54 = .ok (.istore 4, 2) := by decide +kernel
theorem dX6_figure_56 : decode cX6_figure 56 = .ok (.iload 4, 2) := by decide +kernel
theorem dX6_figure_58 : decode cX6_figure 58 = .ok (.aload_n 0, 1) := by decide +kernel
theorem dX6_figure_59 : decode cX6_figure 59 = .ok (.getfield 47, 3) := by decide +kernel
theorem dX6_figure_62 : decode cX6_figure 62 = .ok (.getfield 93, 3) := by decide +kernel
theorem dX6_figure_65 : decode cX6_figure 65 = .ok (.if_icmp .ge 47, 3) := by decide +kernel
theorem dX6_figure_68 : decode cX6_figure 68 = .ok (.aload_n 0, 1) := by decide +kernel
theorem dX6_figure_69 : decode cX6_figure 69 = .ok (.getfield 47, 3) := by decide +kernel
theorem dX6_figure_72 : decode cX6_figure 72 = .ok (.iload 4, 2) := by decide +kernel
theorem dX6_figure_74 : decode cX6_figure 74 = .ok (.iload_n 1, 1) := by decide +kernel
theorem dX6_figure_75 : decode cX6_figure 75 = .ok (.invokevirtual 102, 3) := by decide +kernel
theorem dX6_figure_78 : decode cX6_figure 78 = .ok (.ifCond .eq 28, 3) := by decide +kernel
theorem dX6_figure_81 : decode cX6_figure 81 = .ok (.aload_n 0, 1) := by decide +kernel
theorem dX6_figure_82 : decode cX6_figure 82 = .ok (.getfield 54, 3) := by decide +kernel
theorem dX6_figure_85 : decode cX6_figure 85 = .ok (.aload_n 0, 1) := by decide +kernel
theorem dX6_figure_86 : decode cX6_figure 86 = .ok (.getfield 26, 3) := by decide +kernel
theorem dX6_figure_89 : decode cX6_figure 89 = .ok (.iload_n 2, 1) := by decide +kernel
theorem dX6_figure_90 : decode cX6_figure 90 = .ok (.aload_n 0, 1) := by decide +kernel
theorem dX6_figure_91 : decode cX6_figure 91 = .ok (.getfield 47, 3) := by decide +kernel
theorem dX6_figure_94 : decode cX6_figure 94 = .ok (.getfield 121, 3) := by decide +kernel
theorem dX6_figure_97 : decode cX6_figure 97 = .ok (.iload 4, 2) := by decide +kernel
theorem dX6_figure_99 : decode cX6_figure 99 = .ok (.iaload, 1) := by decide +kernel
theorem dX6_figure_100 : decode cX6_figure 100 = .ok (.invokevirtual 174, 3) := by decide +kernel
theorem dX6_figure_103 : decode cX6_figure 103 = .ok (.invokevirtual 118, 3) := by decide +kernel
theorem dX6_figure_106 : decode cX6_figure 106 = .ok (.iinc 4 1, 3) := by decide +kernel
theorem dX6_figure_109 : decode cX6_figure 109 = .ok (.goto (-53), 3) := by decide +kernel
theorem dX6_figure_112 : decode cX6_figure 112 = .ok (.aload_n 0, 1) := by decide +kernel
theorem dX6_figure_113 : decode cX6_figure 113 = .ok (.invokevirtual 112, 3) := by decide +kernel
theorem dX6_figure_116 : decode cX6_figure 116 = .ok (.aload_n 0, 1) := by decide +kernel
theorem dX6_figure_117 : decode cX6_figure 117 = .ok (.getfield 47, 3) := by decide +kernel
theorem dX6_figure_120 : decode cX6_figure 120 = .ok (.getfield 131, 3) := by decide +kernel
theorem dX6_figure_123 : decode cX6_figure 123 = .ok (.ireturn, 1) := by decide +kernel
theorem dX6_undo_0 : decode cX6_undo 0 = .ok (.aload_n 0, 1) := by decide +kernel
theorem dX6_undo_1 : decode cX6_undo 1 = .ok (.getfield 19, 3) := by decide +kernel
theorem dX6_undo_4 : decode cX6_undo 4 = .ok (.getfield 87, 3) := by decide +kernel
theorem dX6_undo_7 : decode cX6_undo 7 = .ok (.ifCond .ne 11, 3) := by decide +kernel
theorem dX6_undo_10 : decode cX6_undo 10 = .ok (.new 73, 3) := by decide +kernel
theorem dX6_undo_13 : decode cX6_undo 13 = .ok (.dup, 1) := by decide +kernel
theorem dX6_undo_14 : decode cX6_undo 14 = .ok (.invokespecial 75, 3) := by decide +kernel
theorem dX6_undo_17 : decode cX6_undo 17 = .ok (.athrow, 1) := by decide +kernel
theorem dX6_undo_18 : decode cX6_undo 18 = .ok (.aload_n 0, 1) := by decide +kernel
theorem dX6_undo_19 : decode cX6_undo 19 = .ok (.aload_n 0, 1) := by decide +kernel
theorem dX6_undo_20 : decode cX6_undo 20 = .ok (.getfield 19, 3) := by decide +kernel
theorem dX6_undo_23 : decode cX6_undo 23 = .ok (.invokevirtual 177, 3) := by decide +kernel
theorem dX6_undo_26 : decode cX6_undo 26 = .ok (.invokevirtual 90, 3) := by decide +kernel
theorem dX6_undo_29 : decode cX6_undo 29 = .ok (.aload_n 0, 1) := by decide +kernel
theorem dX6_undo_30 : decode cX6_undo 30 = .ok (.getfield 19, 3) := by decide +kernel
theorem dX6_undo_33 : decode cX6_undo 33 = .ok (.getfield 87, 3) := by decide +kernel
theorem dX6_undo_36 : decode cX6_undo 36 = .ok (.ireturn, 1) := by decide +kernel
theorem dX6_undoCount_0 : decode cX6_undoCount 0 = .ok (.aload_n 0, 1) := by decide +kernel
theorem dX6_undoCount_1 : decode cX6_undoCount 1 = .ok (.getfield 19, 3) := by decide +kernel
theorem dX6_undoCount_4 : decode cX6_undoCount 4 = .ok (.getfield 87, 3) := by decide +kernel
theorem dX6_undoCount_7 : decode cX6_undoCount 7 = .ok (.ireturn, 1) := by decide +kernel
theorem dX6_save_0 : decode cX6_save 0 = .ok (.aload_n 0, 1) := by decide +kernel
theorem dX6_save_1 : decode cX6_save 1 = .ok (.getfield 51, 3) := by decide +kernel
theorem dX6_save_4 : decode cX6_save 4 = .ok (.aload_n 0, 1) := by decide +kernel
theorem dX6_save_5 : decode cX6_save 5 = .ok (.getfield 47, 3) := by decide +kernel
theorem dX6_save_8 : decode cX6_save 8 = .ok (.invokevirtual 106, 3) := by decide +kernel
theorem dX6_save_11 : decode cX6_save 11 = .ok (.aload_n 0, 1) := by decide +kernel
theorem dX6_save_12 : decode cX6_save 12 = .ok (.iconst 1, 1) := by decide +kernel
theorem dX6_save_13 : decode cX6_save 13 = .ok (.putfield 57, 3) := by decide +kernel
theorem dX6_save_16 : decode cX6_save 16 = .ok (.aload_n 0, 1) := by decide +kernel
theorem dX6_save_17 : decode cX6_save 17 = .ok (.getfield 47, 3) := by decide +kernel
theorem dX6_save_20 : decode cX6_save 20 = .ok (.getfield 131, 3) := by decide +kernel
theorem dX6_save_23 : decode cX6_save 23 = .ok (.ireturn, 1) := by decide +kernel
theorem dX6_restore_0 : decode cX6_restore 0 = .ok (.aload_n 0, 1) := by decide +kernel
theorem dX6_restore_1 : decode cX6_restore 1 = .ok (.getfield 57, 3) := by decide +kernel
theorem dX6_restore_4 : decode cX6_restore 4 = .ok (.ifCond .ne 11, 3) := by decide +kernel
theorem dX6_restore_7 : decode cX6_restore 7 = .ok (.new 73, 3) := by decide +kernel
theorem dX6_restore_10 : decode cX6_restore 10 = .ok (.dup, 1) := by decide +kernel
theorem dX6_restore_11 : decode cX6_restore 11 = .ok (.invokespecial 75, 3) := by decide +kernel
theorem dX6_restore_14 : decode cX6_restore 14 = .ok (.athrow, 1) := by decide +kernel
theorem dX6_restore_15 : decode cX6_restore 15 = .ok (.aload_n 0, 1) := by decide +kernel
theorem dX6_restore_16 : decode cX6_restore 16 = .ok (.getfield 19, 3) := by decide +kernel
theorem dX6_restore_19 : decode cX6_restore 19 = .ok (.iconst 0, 1) := by decide +kernel
theorem dX6_restore_20 : decode cX6_restore 20 = .ok (.putfield 87, 3) := by decide +kernel
theorem dX6_restore_23 : decode cX6_restore 23 = .ok (.aload_n 0, 1) := by decide +kernel
theorem dX6_restore_24 : decode cX6_restore 24 = .ok (.aload_n 0, 1) := by decide +kernel
theorem dX6_restore_25 : decode cX6_restore 25 = .ok (.getfield 51, 3) := by decide +kernel
theorem dX6_restore_28 : decode cX6_restore 28 = .ok (.invokevirtual 90, 3) := by decide +kernel
theorem dX6_restore_31 : decode cX6_restore 31 = .ok (.aload_n 0, 1) := by decide +kernel
theorem dX6_restore_32 : decode cX6_restore 32 = .ok (.getfield 47, 3) := by decide +kernel
theorem dX6_restore_35 : decode cX6_restore 35 = .ok (.getfield 131, 3) := by decide +kernel
theorem dX6_restore_38 : decode cX6_restore 38 = .ok (.ireturn, 1) := by decide +kernel
theorem dX6_pointCount_0 : decode cX6_pointCount 0 = .ok (.aload_n 0, 1) := by decide +kernel
theorem dX6_pointCount_1 : decode cX6_pointCount 1 = .ok (.getfield 47, 3) := by decide +kernel
theorem dX6_pointCount_4 : decode cX6_pointCount 4 = .ok (.getfield 131, 3) := by decide +kernel
theorem dX6_pointCount_7 : decode cX6_pointCount 7 = .ok (.ireturn, 1) := by decide +kernel
theorem dX6_facetCount_0 : decode cX6_facetCount 0 = .ok (.aload_n 0, 1) := by decide +kernel
theorem dX6_facetCount_1 : decode cX6_facetCount 1 = .ok (.getfield 47, 3) := by decide +kernel
theorem dX6_facetCount_4 : decode cX6_facetCount 4 = .ok (.getfield 93, 3) := by decide +kernel
theorem dX6_facetCount_7 : decode cX6_facetCount 7 = .ok (.ireturn, 1) := by decide +kernel
theorem dX6_facet_0 : decode cX6_facet 0 = .ok (.aload_n 0, 1) := by decide +kernel
theorem dX6_facet_1 : decode cX6_facet 1 = .ok (.iload_n 1, 1) := by decide +kernel
theorem dX6_facet_2 : decode cX6_facet 2 = .ok (.invokevirtual 99, 3) := by decide +kernel
theorem dX6_facet_5 : decode cX6_facet 5 = .ok (.aload_n 0, 1) := by decide +kernel
theorem dX6_facet_6 : decode cX6_facet 6 = .ok (.getfield 47, 3) := by decide +kernel
theorem dX6_facet_9 : decode cX6_facet 9 = .ok (.getfield 121, 3) := by decide +kernel
theorem dX6_facet_12 : decode cX6_facet 12 = .ok (.iload_n 1, 1) := by decide +kernel
theorem dX6_facet_13 : decode cX6_facet 13 = .ok (.iaload, 1) := by decide +kernel
theorem dX6_facet_14 : decode cX6_facet 14 = .ok (.ireturn, 1) := by decide +kernel
theorem dX6_facetsOf_0 : decode cX6_facetsOf 0 = .ok (.aload_n 0, 1) := by decide +kernel
theorem dX6_facetsOf_1 : decode cX6_facetsOf 1 = .ok (.iload_n 1, 1) := by decide +kernel
theorem dX6_facetsOf_2 : decode cX6_facetsOf 2 = .ok (.invokevirtual 96, 3) := by decide +kernel
theorem dX6_facetsOf_5 : decode cX6_facetsOf 5 = .ok (.aload_n 0, 1) := by decide +kernel
theorem dX6_facetsOf_6 : decode cX6_facetsOf 6 = .ok (.getfield 47, 3) := by decide +kernel
theorem dX6_facetsOf_9 : decode cX6_facetsOf 9 = .ok (.iload_n 1, 1) := by decide +kernel
theorem dX6_facetsOf_10 : decode cX6_facetsOf 10 = .ok (.invokevirtual 134, 3) := by decide +kernel
theorem dX6_facetsOf_13 : decode cX6_facetsOf 13 = .ok (.ireturn, 1) := by decide +kernel
theorem dX6_closure_0 : decode cX6_closure 0 = .ok (.aload_n 0, 1) := by decide +kernel
theorem dX6_closure_1 : decode cX6_closure 1 = .ok (.iload_n 1, 1) := by decide +kernel
theorem dX6_closure_2 : decode cX6_closure 2 = .ok (.invokevirtual 115, 3) := by decide +kernel
theorem dX6_closure_5 : decode cX6_closure 5 = .ok (.aload_n 0, 1) := by decide +kernel
theorem dX6_closure_6 : decode cX6_closure 6 = .ok (.getfield 26, 3) := by decide +kernel
theorem dX6_closure_9 : decode cX6_closure 9 = .ok (.getfield 171, 3) := by decide +kernel
theorem dX6_closure_12 : decode cX6_closure 12 = .ok (.iload_n 1, 1) := by decide +kernel
theorem dX6_closure_13 : decode cX6_closure 13 = .ok (.iaload, 1) := by decide +kernel
theorem dX6_closure_14 : decode cX6_closure 14 = .ok (.ireturn, 1) := by decide +kernel
theorem dX6_faceCount_0 : decode cX6_faceCount 0 = .ok (.aload_n 0, 1) := by decide +kernel
theorem dX6_faceCount_1 : decode cX6_faceCount 1 = .ok (.getfield 26, 3) := by decide +kernel
theorem dX6_faceCount_4 : decode cX6_faceCount 4 = .ok (.getfield 137, 3) := by decide +kernel
theorem dX6_faceCount_7 : decode cX6_faceCount 7 = .ok (.ireturn, 1) := by decide +kernel
theorem dX6_face_0 : decode cX6_face 0 = .ok (.aload_n 0, 1) := by decide +kernel
theorem dX6_face_1 : decode cX6_face 1 = .ok (.iload_n 1, 1) := by decide +kernel
theorem dX6_face_2 : decode cX6_face 2 = .ok (.invokevirtual 168, 3) := by decide +kernel
theorem dX6_face_5 : decode cX6_face 5 = .ok (.aload_n 0, 1) := by decide +kernel
theorem dX6_face_6 : decode cX6_face 6 = .ok (.getfield 26, 3) := by decide +kernel
theorem dX6_face_9 : decode cX6_face 9 = .ok (.getfield 148, 3) := by decide +kernel
theorem dX6_face_12 : decode cX6_face 12 = .ok (.iload_n 1, 1) := by decide +kernel
theorem dX6_face_13 : decode cX6_face 13 = .ok (.iaload, 1) := by decide +kernel
theorem dX6_face_14 : decode cX6_face 14 = .ok (.ireturn, 1) := by decide +kernel
theorem dX6_indexOf_0 : decode cX6_indexOf 0 = .ok (.aload_n 0, 1) := by decide +kernel
theorem dX6_indexOf_1 : decode cX6_indexOf 1 = .ok (.getfield 47, 3) := by decide +kernel
theorem dX6_indexOf_4 : decode cX6_indexOf 4 = .ok (.iload_n 1, 1) := by decide +kernel
theorem dX6_indexOf_5 : decode cX6_indexOf 5 = .ok (.invokevirtual 181, 3) := by decide +kernel
theorem dX6_indexOf_8 : decode cX6_indexOf 8 = .ok (.ifCond .eq 15, 3) := by decide +kernel
theorem dX6_indexOf_11 : decode cX6_indexOf 11 = .ok (.aload_n 0, 1) := by decide +kernel
theorem dX6_indexOf_12 : decode cX6_indexOf 12 = .ok (.getfield 26, 3) := by decide +kernel
theorem dX6_indexOf_15 : decode cX6_indexOf 15 = .ok (.getfield 185, 3) := by decide +kernel
theorem dX6_indexOf_18 : decode cX6_indexOf 18 = .ok (.iload_n 1, 1) := by decide +kernel
theorem dX6_indexOf_19 : decode cX6_indexOf 19 = .ok (.iaload, 1) := by decide +kernel
theorem dX6_indexOf_20 : decode cX6_indexOf 20 = .ok (.goto 4, 3) := by decide +kernel
theorem dX6_indexOf_23 : decode cX6_indexOf 23 = .ok (.iconst (-1), 1) := by decide +kernel
theorem dX6_indexOf_24 : decode cX6_indexOf 24 = .ok (.ireturn, 1) := by decide +kernel
theorem dX6_rank_0 : decode cX6_rank 0 = .ok (.aload_n 0, 1) := by decide +kernel
theorem dX6_rank_1 : decode cX6_rank 1 = .ok (.iload_n 1, 1) := by decide +kernel
theorem dX6_rank_2 : decode cX6_rank 2 = .ok (.invokevirtual 168, 3) := by decide +kernel
theorem dX6_rank_5 : decode cX6_rank 5 = .ok (.aload_n 0, 1) := by decide +kernel
theorem dX6_rank_6 : decode cX6_rank 6 = .ok (.getfield 26, 3) := by decide +kernel
theorem dX6_rank_9 : decode cX6_rank 9 = .ok (.getfield 188, 3) := by decide +kernel
theorem dX6_rank_12 : decode cX6_rank 12 = .ok (.aload_n 0, 1) := by decide +kernel
theorem dX6_rank_13 : decode cX6_rank 13 = .ok (.getfield 26, 3) := by decide +kernel
theorem dX6_rank_16 : decode cX6_rank 16 = .ok (.getfield 148, 3) := by decide +kernel
theorem dX6_rank_19 : decode cX6_rank 19 = .ok (.iload_n 1, 1) := by decide +kernel
theorem dX6_rank_20 : decode cX6_rank 20 = .ok (.iaload, 1) := by decide +kernel
theorem dX6_rank_21 : decode cX6_rank 21 = .ok (.iaload, 1) := by decide +kernel
theorem dX6_rank_22 : decode cX6_rank 22 = .ok (.ireturn, 1) := by decide +kernel
theorem dX6_height_0 : decode cX6_height 0 = .ok (.aload_n 0, 1) := by decide +kernel
theorem dX6_height_1 : decode cX6_height 1 = .ok (.getfield 26, 3) := by decide +kernel
theorem dX6_height_4 : decode cX6_height 4 = .ok (.invokevirtual 191, 3) := by decide +kernel
theorem dX6_height_7 : decode cX6_height 7 = .ok (.ireturn, 1) := by decide +kernel
theorem dX6_ofRank_0 : decode cX6_ofRank 0 = .ok (.iload_n 1, 1) := by decide +kernel
theorem dX6_ofRank_1 : decode cX6_ofRank 1 = .ok (.ifCond .lt 14, 3) := by decide +kernel
theorem dX6_ofRank_4 : decode cX6_ofRank 4 = .ok (.iload_n 1, 1) := by decide +kernel
theorem dX6_ofRank_5 : decode cX6_ofRank 5 = .ok (.aload_n 0, 1) := by decide +kernel
theorem dX6_ofRank_6 : decode cX6_ofRank 6 = .ok (.getfield 26, 3) := by decide +kernel
theorem dX6_ofRank_9 : decode cX6_ofRank 9 = .ok (.invokevirtual 191, 3) := by decide +kernel
theorem dX6_ofRank_12 : decode cX6_ofRank 12 = .ok (.if_icmp .le 11, 3) := by decide +kernel
theorem dX6_ofRank_15 : decode cX6_ofRank 15 = .ok (.new 80, 3) := by decide +kernel
theorem dX6_ofRank_18 : decode cX6_ofRank 18 = .ok (.dup, 1) := by decide +kernel
theorem dX6_ofRank_19 : decode cX6_ofRank 19 = .ok (.invokespecial 82, 3) := by decide +kernel
theorem dX6_ofRank_22 : decode cX6_ofRank 22 = .ok (.athrow, 1) := by decide +kernel
theorem dX6_ofRank_23 : decode cX6_ofRank 23 = .ok (.aload_n 0, 1) := by decide +kernel
theorem dX6_ofRank_24 : decode cX6_ofRank 24 = .ok (.getfield 26, 3) := by decide +kernel
theorem dX6_ofRank_27 : decode cX6_ofRank 27 = .ok (.getfield 194, 3) := by decide +kernel
theorem dX6_ofRank_30 : decode cX6_ofRank 30 = .ok (.iload_n 1, 1) := by decide +kernel
theorem dX6_ofRank_31 : decode cX6_ofRank 31 = .ok (.iaload, 1) := by decide +kernel
theorem dX6_ofRank_32 : decode cX6_ofRank 32 = .ok (.ireturn, 1) := by decide +kernel
theorem dX6_covers_0 : decode cX6_covers 0 = .ok (.aload_n 0, 1) := by decide +kernel
theorem dX6_covers_1 : decode cX6_covers 1 = .ok (.iload_n 1, 1) := by decide +kernel
theorem dX6_covers_2 : decode cX6_covers 2 = .ok (.invokevirtual 168, 3) := by decide +kernel
theorem dX6_covers_5 : decode cX6_covers 5 = .ok (.aload_n 0, 1) := by decide +kernel
theorem dX6_covers_6 : decode cX6_covers 6 = .ok (.getfield 26, 3) := by decide +kernel
theorem dX6_covers_9 : decode cX6_covers 9 = .ok (.aload_n 0, 1) := by decide +kernel
theorem dX6_covers_10 : decode cX6_covers 10 = .ok (.getfield 26, 3) := by decide +kernel
theorem dX6_covers_13 : decode cX6_covers 13 = .ok (.getfield 148, 3) := by decide +kernel
theorem dX6_covers_16 : decode cX6_covers 16 = .ok (.iload_n 1, 1) := by decide +kernel
theorem dX6_covers_17 : decode cX6_covers 17 = .ok (.iaload, 1) := by decide +kernel
theorem dX6_covers_18 : decode cX6_covers 18 = .ok (.iload_n 2, 1) := by decide +kernel
theorem dX6_covers_19 : decode cX6_covers 19 = .ok (.invokevirtual 144, 3) := by decide +kernel
theorem dX6_covers_22 : decode cX6_covers 22 = .ok (.ireturn, 1) := by decide +kernel
theorem dX6_cover_0 : decode cX6_cover 0 = .ok (.aload_n 0, 1) := by decide +kernel
theorem dX6_cover_1 : decode cX6_cover 1 = .ok (.iload_n 1, 1) := by decide +kernel
theorem dX6_cover_2 : decode cX6_cover 2 = .ok (.invokevirtual 168, 3) := by decide +kernel
theorem dX6_cover_5 : decode cX6_cover 5 = .ok (.aload_n 0, 1) := by decide +kernel
theorem dX6_cover_6 : decode cX6_cover 6 = .ok (.getfield 26, 3) := by decide +kernel
theorem dX6_cover_9 : decode cX6_cover 9 = .ok (.aload_n 0, 1) := by decide +kernel
theorem dX6_cover_10 : decode cX6_cover 10 = .ok (.getfield 26, 3) := by decide +kernel
theorem dX6_cover_13 : decode cX6_cover 13 = .ok (.getfield 148, 3) := by decide +kernel
theorem dX6_cover_16 : decode cX6_cover 16 = .ok (.iload_n 1, 1) := by decide +kernel
theorem dX6_cover_17 : decode cX6_cover 17 = .ok (.iaload, 1) := by decide +kernel
theorem dX6_cover_18 : decode cX6_cover 18 = .ok (.iload_n 2, 1) := by decide +kernel
theorem dX6_cover_19 : decode cX6_cover 19 = .ok (.iload_n 3, 1) := by decide +kernel
theorem dX6_cover_20 : decode cX6_cover 20 = .ok (.invokevirtual 197, 3) := by decide +kernel
theorem dX6_cover_23 : decode cX6_cover 23 = .ok (.istore 4, 2) := by decide +kernel
theorem dX6_cover_25 : decode cX6_cover 25 = .ok (.iload 4, 2) := by decide +kernel
theorem dX6_cover_27 : decode cX6_cover 27 = .ok (.iconst (-1), 1) := by decide +kernel
theorem dX6_cover_28 : decode cX6_cover 28 = .ok (.if_icmp .ne 11, 3) := by decide +kernel
theorem dX6_cover_31 : decode cX6_cover 31 = .ok (.new 201, 3) := by decide +kernel
theorem dX6_cover_34 : decode cX6_cover 34 = .ok (.dup, 1) := by decide +kernel
theorem dX6_cover_35 : decode cX6_cover 35 = .ok (.invokespecial 203, 3) := by decide +kernel
theorem dX6_cover_38 : decode cX6_cover 38 = .ok (.athrow, 1) := by decide +kernel
theorem dX6_cover_39 : decode cX6_cover 39 = .ok (.iload 4, 2) := by decide +kernel
theorem dX6_cover_41 : decode cX6_cover 41 = .ok (.ireturn, 1) := by decide +kernel
theorem dX6_join_0 : decode cX6_join 0 = .ok (.aload_n 0, 1) := by decide +kernel
theorem dX6_join_1 : decode cX6_join 1 = .ok (.iload_n 1, 1) := by decide +kernel
theorem dX6_join_2 : decode cX6_join 2 = .ok (.invokevirtual 168, 3) := by decide +kernel
theorem dX6_join_5 : decode cX6_join 5 = .ok (.aload_n 0, 1) := by decide +kernel
theorem dX6_join_6 : decode cX6_join 6 = .ok (.iload_n 2, 1) := by decide +kernel
theorem dX6_join_7 : decode cX6_join 7 = .ok (.invokevirtual 168, 3) := by decide +kernel
theorem dX6_join_10 : decode cX6_join 10 = .ok (.aload_n 0, 1) := by decide +kernel
theorem dX6_join_11 : decode cX6_join 11 = .ok (.getfield 26, 3) := by decide +kernel
theorem dX6_join_14 : decode cX6_join 14 = .ok (.getfield 185, 3) := by decide +kernel
theorem dX6_join_17 : decode cX6_join 17 = .ok (.aload_n 0, 1) := by decide +kernel
theorem dX6_join_18 : decode cX6_join 18 = .ok (.getfield 26, 3) := by decide +kernel
theorem dX6_join_21 : decode cX6_join 21 = .ok (.getfield 171, 3) := by decide +kernel
theorem dX6_join_24 : decode cX6_join 24 = .ok (.aload_n 0, 1) := by decide +kernel
theorem dX6_join_25 : decode cX6_join 25 = .ok (.getfield 26, 3) := by decide +kernel
theorem dX6_join_28 : decode cX6_join 28 = .ok (.getfield 148, 3) := by decide +kernel
theorem dX6_join_31 : decode cX6_join 31 = .ok (.iload_n 1, 1) := by decide +kernel
theorem dX6_join_32 : decode cX6_join 32 = .ok (.iaload, 1) := by decide +kernel
theorem dX6_join_33 : decode cX6_join 33 = .ok (.aload_n 0, 1) := by decide +kernel
theorem dX6_join_34 : decode cX6_join 34 = .ok (.getfield 26, 3) := by decide +kernel
theorem dX6_join_37 : decode cX6_join 37 = .ok (.getfield 148, 3) := by decide +kernel
theorem dX6_join_40 : decode cX6_join 40 = .ok (.iload_n 2, 1) := by decide +kernel
theorem dX6_join_41 : decode cX6_join 41 = .ok (.iaload, 1) := by decide +kernel
theorem dX6_join_42 : decode cX6_join 42 = .ok (.ior, 1) := by decide +kernel
theorem dX6_join_43 : decode cX6_join 43 = .ok (.iaload, 1) := by decide +kernel
theorem dX6_join_44 : decode cX6_join 44 = .ok (.iaload, 1) := by decide +kernel
theorem dX6_join_45 : decode cX6_join 45 = .ok (.ireturn, 1) := by decide +kernel
theorem dX6_meet_0 : decode cX6_meet 0 = .ok (.aload_n 0, 1) := by decide +kernel
theorem dX6_meet_1 : decode cX6_meet 1 = .ok (.iload_n 1, 1) := by decide +kernel
theorem dX6_meet_2 : decode cX6_meet 2 = .ok (.invokevirtual 168, 3) := by decide +kernel
theorem dX6_meet_5 : decode cX6_meet 5 = .ok (.aload_n 0, 1) := by decide +kernel
theorem dX6_meet_6 : decode cX6_meet 6 = .ok (.iload_n 2, 1) := by decide +kernel
theorem dX6_meet_7 : decode cX6_meet 7 = .ok (.invokevirtual 168, 3) := by decide +kernel
theorem dX6_meet_10 : decode cX6_meet 10 = .ok (.aload_n 0, 1) := by decide +kernel
theorem dX6_meet_11 : decode cX6_meet 11 = .ok (.getfield 26, 3) := by decide +kernel
theorem dX6_meet_14 : decode cX6_meet 14 = .ok (.getfield 185, 3) := by decide +kernel
theorem dX6_meet_17 : decode cX6_meet 17 = .ok (.aload_n 0, 1) := by decide +kernel
theorem dX6_meet_18 : decode cX6_meet 18 = .ok (.getfield 26, 3) := by decide +kernel
theorem dX6_meet_21 : decode cX6_meet 21 = .ok (.getfield 148, 3) := by decide +kernel
theorem dX6_meet_24 : decode cX6_meet 24 = .ok (.iload_n 1, 1) := by decide +kernel
theorem dX6_meet_25 : decode cX6_meet 25 = .ok (.iaload, 1) := by decide +kernel
theorem dX6_meet_26 : decode cX6_meet 26 = .ok (.aload_n 0, 1) := by decide +kernel
theorem dX6_meet_27 : decode cX6_meet 27 = .ok (.getfield 26, 3) := by decide +kernel
theorem dX6_meet_30 : decode cX6_meet 30 = .ok (.getfield 148, 3) := by decide +kernel
theorem dX6_meet_33 : decode cX6_meet 33 = .ok (.iload_n 2, 1) := by decide +kernel
theorem dX6_meet_34 : decode cX6_meet 34 = .ok (.iaload, 1) := by decide +kernel
theorem dX6_meet_35 : decode cX6_meet 35 = .ok (.iand, 1) := by decide +kernel
theorem dX6_meet_36 : decode cX6_meet 36 = .ok (.iaload, 1) := by decide +kernel
theorem dX6_meet_37 : decode cX6_meet 37 = .ok (.ireturn, 1) := by decide +kernel
theorem dX6_between_0 : decode cX6_between 0 = .ok (.aload_n 0, 1) := by decide +kernel
theorem dX6_between_1 : decode cX6_between 1 = .ok (.iload_n 1, 1) := by decide +kernel
theorem dX6_between_2 : decode cX6_between 2 = .ok (.invokevirtual 168, 3) := by decide +kernel
theorem dX6_between_5 : decode cX6_between 5 = .ok (.aload_n 0, 1) := by decide +kernel
theorem dX6_between_6 : decode cX6_between 6 = .ok (.iload_n 2, 1) := by decide +kernel
theorem dX6_between_7 : decode cX6_between 7 = .ok (.invokevirtual 168, 3) := by decide +kernel
theorem dX6_between_10 : decode cX6_between 10 = .ok (.aload_n 0, 1) := by decide +kernel
theorem dX6_between_11 : decode cX6_between 11 = .ok (.getfield 26, 3) := by decide +kernel
theorem dX6_between_14 : decode cX6_between 14 = .ok (.aload_n 0, 1) := by decide +kernel
theorem dX6_between_15 : decode cX6_between 15 = .ok (.getfield 26, 3) := by decide +kernel
theorem dX6_between_18 : decode cX6_between 18 = .ok (.getfield 148, 3) := by decide +kernel
theorem dX6_between_21 : decode cX6_between 21 = .ok (.iload_n 1, 1) := by decide +kernel
theorem dX6_between_22 : decode cX6_between 22 = .ok (.iaload, 1) := by decide +kernel
theorem dX6_between_23 : decode cX6_between 23 = .ok (.aload_n 0, 1) := by decide +kernel
theorem dX6_between_24 : decode cX6_between 24 = .ok (.getfield 26, 3) := by decide +kernel
theorem dX6_between_27 : decode cX6_between 27 = .ok (.getfield 148, 3) := by decide +kernel
theorem dX6_between_30 : decode cX6_between 30 = .ok (.iload_n 2, 1) := by decide +kernel
theorem dX6_between_31 : decode cX6_between 31 = .ok (.iaload, 1) := by decide +kernel
theorem dX6_between_32 : decode cX6_between 32 = .ok (.invokevirtual 204, 3) := by decide +kernel
theorem dX6_between_35 : decode cX6_between 35 = .ok (.ireturn, 1) := by decide +kernel
theorem dX6_chains_0 : decode cX6_chains 0 = .ok (.aload_n 0, 1) := by decide +kernel
theorem dX6_chains_1 : decode cX6_chains 1 = .ok (.iload_n 1, 1) := by decide +kernel
theorem dX6_chains_2 : decode cX6_chains 2 = .ok (.invokevirtual 168, 3) := by decide +kernel
theorem dX6_chains_5 : decode cX6_chains 5 = .ok (.aload_n 0, 1) := by decide +kernel
theorem dX6_chains_6 : decode cX6_chains 6 = .ok (.iload_n 2, 1) := by decide +kernel
theorem dX6_chains_7 : decode cX6_chains 7 = .ok (.invokevirtual 168, 3) := by decide +kernel
theorem dX6_chains_10 : decode cX6_chains 10 = .ok (.aload_n 0, 1) := by decide +kernel
theorem dX6_chains_11 : decode cX6_chains 11 = .ok (.getfield 26, 3) := by decide +kernel
theorem dX6_chains_14 : decode cX6_chains 14 = .ok (.aload_n 0, 1) := by decide +kernel
theorem dX6_chains_15 : decode cX6_chains 15 = .ok (.getfield 26, 3) := by decide +kernel
theorem dX6_chains_18 : decode cX6_chains 18 = .ok (.getfield 148, 3) := by decide +kernel
theorem dX6_chains_21 : decode cX6_chains 21 = .ok (.iload_n 1, 1) := by decide +kernel
theorem dX6_chains_22 : decode cX6_chains 22 = .ok (.iaload, 1) := by decide +kernel
theorem dX6_chains_23 : decode cX6_chains 23 = .ok (.aload_n 0, 1) := by decide +kernel
theorem dX6_chains_24 : decode cX6_chains 24 = .ok (.getfield 26, 3) := by decide +kernel
theorem dX6_chains_27 : decode cX6_chains 27 = .ok (.getfield 148, 3) := by decide +kernel
theorem dX6_chains_30 : decode cX6_chains 30 = .ok (.iload_n 2, 1) := by decide +kernel
theorem dX6_chains_31 : decode cX6_chains 31 = .ok (.iaload, 1) := by decide +kernel
theorem dX6_chains_32 : decode cX6_chains 32 = .ok (.invokevirtual 207, 3) := by decide +kernel
theorem dX6_chains_35 : decode cX6_chains 35 = .ok (.ireturn, 1) := by decide +kernel
theorem dX6_mobius_0 : decode cX6_mobius 0 = .ok (.aload_n 0, 1) := by decide +kernel
theorem dX6_mobius_1 : decode cX6_mobius 1 = .ok (.iload_n 1, 1) := by decide +kernel
theorem dX6_mobius_2 : decode cX6_mobius 2 = .ok (.invokevirtual 168, 3) := by decide +kernel
theorem dX6_mobius_5 : decode cX6_mobius 5 = .ok (.aload_n 0, 1) := by decide +kernel
theorem dX6_mobius_6 : decode cX6_mobius 6 = .ok (.iload_n 2, 1) := by decide +kernel
theorem dX6_mobius_7 : decode cX6_mobius 7 = .ok (.invokevirtual 168, 3) := by decide +kernel
theorem dX6_mobius_10 : decode cX6_mobius 10 = .ok (.aload_n 0, 1) := by decide +kernel
theorem dX6_mobius_11 : decode cX6_mobius 11 = .ok (.getfield 26, 3) := by decide +kernel
theorem dX6_mobius_14 : decode cX6_mobius 14 = .ok (.aload_n 0, 1) := by decide +kernel
theorem dX6_mobius_15 : decode cX6_mobius 15 = .ok (.getfield 26, 3) := by decide +kernel
theorem dX6_mobius_18 : decode cX6_mobius 18 = .ok (.getfield 148, 3) := by decide +kernel
theorem dX6_mobius_21 : decode cX6_mobius 21 = .ok (.iload_n 1, 1) := by decide +kernel
theorem dX6_mobius_22 : decode cX6_mobius 22 = .ok (.iaload, 1) := by decide +kernel
theorem dX6_mobius_23 : decode cX6_mobius 23 = .ok (.aload_n 0, 1) := by decide +kernel
theorem dX6_mobius_24 : decode cX6_mobius 24 = .ok (.getfield 26, 3) := by decide +kernel
theorem dX6_mobius_27 : decode cX6_mobius 27 = .ok (.getfield 148, 3) := by decide +kernel
theorem dX6_mobius_30 : decode cX6_mobius 30 = .ok (.iload_n 2, 1) := by decide +kernel
theorem dX6_mobius_31 : decode cX6_mobius 31 = .ok (.iaload, 1) := by decide +kernel
theorem dX6_mobius_32 : decode cX6_mobius 32 = .ok (.invokevirtual 210, 3) := by decide +kernel
theorem dX6_mobius_35 : decode cX6_mobius 35 = .ok (.ireturn, 1) := by decide +kernel
theorem dX6_isGraded_0 : decode cX6_isGraded 0 = .ok (.aload_n 0, 1) := by decide +kernel
theorem dX6_isGraded_1 : decode cX6_isGraded 1 = .ok (.getfield 26, 3) := by decide +kernel
theorem dX6_isGraded_4 : decode cX6_isGraded 4 = .ok (.invokevirtual 213, 3) := by decide +kernel
theorem dX6_isGraded_7 : decode cX6_isGraded 7 = .ok (.ireturn, 1) := by decide +kernel
theorem dX6_alternating_0 : decode cX6_alternating 0 = .ok (.aload_n 0, 1) := by decide +kernel
theorem dX6_alternating_1 : decode cX6_alternating 1 = .ok (.getfield 26, 3) := by decide +kernel
theorem dX6_alternating_4 : decode cX6_alternating 4 = .ok (.invokevirtual 217, 3) := by decide +kernel
theorem dX6_alternating_7 : decode cX6_alternating 7 = .ok (.ireturn, 1) := by decide +kernel
theorem dX6_isEulerian_0 : decode cX6_isEulerian 0 = .ok (.aload_n 0, 1) := by decide +kernel
theorem dX6_isEulerian_1 : decode cX6_isEulerian 1 = .ok (.getfield 26, 3) := by decide +kernel
theorem dX6_isEulerian_4 : decode cX6_isEulerian 4 = .ok (.invokevirtual 213, 3) := by decide +kernel
theorem dX6_isEulerian_7 : decode cX6_isEulerian 7 = .ok (.ifCond .eq 17, 3) := by decide +kernel
theorem dX6_isEulerian_10 : decode cX6_isEulerian 10 = .ok (.aload_n 0, 1) := by decide +kernel
theorem dX6_isEulerian_11 : decode cX6_isEulerian 11 = .ok (.getfield 26, 3) := by decide +kernel
theorem dX6_isEulerian_14 : decode cX6_isEulerian 14 = .ok (.invokevirtual 220, 3) := by decide +kernel
theorem dX6_isEulerian_17 : decode cX6_isEulerian 17 = .ok (.ifCond .eq 7, 3) := by decide +kernel
theorem dX6_isEulerian_20 : decode cX6_isEulerian 20 = .ok (.iconst 1, 1) := by decide +kernel
theorem dX6_isEulerian_21 : decode cX6_isEulerian 21 = .ok (.goto 4, 3) := by decide +kernel
theorem dX6_isEulerian_24 : decode cX6_isEulerian 24 = .ok (.iconst 0, 1) := by decide +kernel
theorem dX6_isEulerian_25 : decode cX6_isEulerian 25 = .ok (.ireturn, 1) := by decide +kernel
theorem dX6_isSimplicial_0 : decode cX6_isSimplicial 0 = .ok (.aload_n 0, 1) := by decide +kernel
theorem dX6_isSimplicial_1 : decode cX6_isSimplicial 1 = .ok (.getfield 26, 3) := by decide +kernel
theorem dX6_isSimplicial_4 : decode cX6_isSimplicial 4 = .ok (.invokevirtual 223, 3) := by decide +kernel
theorem dX6_isSimplicial_7 : decode cX6_isSimplicial 7 = .ok (.ireturn, 1) := by decide +kernel
theorem dX6_isSimple_0 : decode cX6_isSimple 0 = .ok (.aload_n 0, 1) := by decide +kernel
theorem dX6_isSimple_1 : decode cX6_isSimple 1 = .ok (.getfield 26, 3) := by decide +kernel
theorem dX6_isSimple_4 : decode cX6_isSimple 4 = .ok (.invokevirtual 226, 3) := by decide +kernel
theorem dX6_isSimple_7 : decode cX6_isSimple 7 = .ok (.ireturn, 1) := by decide +kernel
theorem dX6_flags_0 : decode cX6_flags 0 = .ok (.aload_n 0, 1) := by decide +kernel
theorem dX6_flags_1 : decode cX6_flags 1 = .ok (.getfield 26, 3) := by decide +kernel
theorem dX6_flags_4 : decode cX6_flags 4 = .ok (.aload_n 0, 1) := by decide +kernel
theorem dX6_flags_5 : decode cX6_flags 5 = .ok (.getfield 26, 3) := by decide +kernel
theorem dX6_flags_8 : decode cX6_flags 8 = .ok (.getfield 171, 3) := by decide +kernel
theorem dX6_flags_11 : decode cX6_flags 11 = .ok (.iconst 0, 1) := by decide +kernel
theorem dX6_flags_12 : decode cX6_flags 12 = .ok (.iaload, 1) := by decide +kernel
theorem dX6_flags_13 : decode cX6_flags 13 = .ok (.aload_n 0, 1) := by decide +kernel
theorem dX6_flags_14 : decode cX6_flags 14 = .ok (.getfield 47, 3) := by decide +kernel
theorem dX6_flags_17 : decode cX6_flags 17 = .ok (.invokevirtual 140, 3) := by decide +kernel
theorem dX6_flags_20 : decode cX6_flags 20 = .ok (.invokevirtual 207, 3) := by decide +kernel
theorem dX6_flags_23 : decode cX6_flags 23 = .ok (.ireturn, 1) := by decide +kernel
theorem dX6_neighbours_0 : decode cX6_neighbours 0 = .ok (.aload_n 0, 1) := by decide +kernel
theorem dX6_neighbours_1 : decode cX6_neighbours 1 = .ok (.iload_n 1, 1) := by decide +kernel
theorem dX6_neighbours_2 : decode cX6_neighbours 2 = .ok (.iload_n 2, 1) := by decide +kernel
theorem dX6_neighbours_3 : decode cX6_neighbours 3 = .ok (.invokevirtual 229, 3) := by decide +kernel
theorem dX6_neighbours_6 : decode cX6_neighbours 6 = .ok (.aload_n 0, 1) := by decide +kernel
theorem dX6_neighbours_7 : decode cX6_neighbours 7 = .ok (.iload_n 2, 1) := by decide +kernel
theorem dX6_neighbours_8 : decode cX6_neighbours 8 = .ok (.invokevirtual 233, 3) := by decide +kernel
theorem dX6_neighbours_11 : decode cX6_neighbours 11 = .ok (.aload_n 0, 1) := by decide +kernel
theorem dX6_neighbours_12 : decode cX6_neighbours 12 = .ok (.getfield 33, 3) := by decide +kernel
theorem dX6_neighbours_15 : decode cX6_neighbours 15 = .ok (.getfield 156, 3) := by decide +kernel
theorem dX6_neighbours_18 : decode cX6_neighbours 18 = .ok (.iload_n 1, 1) := by decide +kernel
theorem dX6_neighbours_19 : decode cX6_neighbours 19 = .ok (.iaload, 1) := by decide +kernel
theorem dX6_neighbours_20 : decode cX6_neighbours 20 = .ok (.ireturn, 1) := by decide +kernel
theorem dX6_distance_0 : decode cX6_distance 0 = .ok (.aload_n 0, 1) := by decide +kernel
theorem dX6_distance_1 : decode cX6_distance 1 = .ok (.iload_n 1, 1) := by decide +kernel
theorem dX6_distance_2 : decode cX6_distance 2 = .ok (.iload_n 3, 1) := by decide +kernel
theorem dX6_distance_3 : decode cX6_distance 3 = .ok (.invokevirtual 229, 3) := by decide +kernel
theorem dX6_distance_6 : decode cX6_distance 6 = .ok (.aload_n 0, 1) := by decide +kernel
theorem dX6_distance_7 : decode cX6_distance 7 = .ok (.iload_n 2, 1) := by decide +kernel
theorem dX6_distance_8 : decode cX6_distance 8 = .ok (.iload_n 3, 1) := by decide +kernel
theorem dX6_distance_9 : decode cX6_distance 9 = .ok (.invokevirtual 229, 3) := by decide +kernel
theorem dX6_distance_12 : decode cX6_distance 12 = .ok (.aload_n 0, 1) := by decide +kernel
theorem dX6_distance_13 : decode cX6_distance 13 = .ok (.iload_n 3, 1) := by decide +kernel
theorem dX6_distance_14 : decode cX6_distance 14 = .ok (.invokevirtual 233, 3) := by decide +kernel
theorem dX6_distance_17 : decode cX6_distance 17 = .ok (.aload_n 0, 1) := by decide +kernel
theorem dX6_distance_18 : decode cX6_distance 18 = .ok (.getfield 33, 3) := by decide +kernel
theorem dX6_distance_21 : decode cX6_distance 21 = .ok (.iload_n 1, 1) := by decide +kernel
theorem dX6_distance_22 : decode cX6_distance 22 = .ok (.iload_n 2, 1) := by decide +kernel
theorem dX6_distance_23 : decode cX6_distance 23 = .ok (.invokevirtual 237, 3) := by decide +kernel
theorem dX6_distance_26 : decode cX6_distance 26 = .ok (.ireturn, 1) := by decide +kernel
theorem dX6_step_0 : decode cX6_step 0 = .ok (.aload_n 0, 1) := by decide +kernel
theorem dX6_step_1 : decode cX6_step 1 = .ok (.iload_n 1, 1) := by decide +kernel
theorem dX6_step_2 : decode cX6_step 2 = .ok (.iload_n 3, 1) := by decide +kernel
theorem dX6_step_3 : decode cX6_step 3 = .ok (.invokevirtual 229, 3) := by decide +kernel
theorem dX6_step_6 : decode cX6_step 6 = .ok (.aload_n 0, 1) := by decide +kernel
theorem dX6_step_7 : decode cX6_step 7 = .ok (.iload_n 2, 1) := by decide +kernel
theorem dX6_step_8 : decode cX6_step 8 = .ok (.iload_n 3, 1) := by decide +kernel
theorem dX6_step_9 : decode cX6_step 9 = .ok (.invokevirtual 229, 3) := by decide +kernel
theorem dX6_step_12 : decode cX6_step 12 = .ok (.aload_n 0, 1) := by decide +kernel
theorem dX6_step_13 : decode cX6_step 13 = .ok (.iload_n 3, 1) := by decide +kernel
theorem dX6_step_14 : decode cX6_step 14 = .ok (.invokevirtual 233, 3) := by decide +kernel
theorem dX6_step_17 : decode cX6_step 17 = .ok (.aload_n 0, 1) := by decide +kernel
theorem dX6_step_18 : decode cX6_step 18 = .ok (.getfield 33, 3) := by decide +kernel
theorem dX6_step_21 : decode cX6_step 21 = .ok (.iload_n 1, 1) := by decide +kernel
theorem dX6_step_22 : decode cX6_step 22 = .ok (.iload_n 2, 1) := by decide +kernel
theorem dX6_step_23 : decode cX6_step 23 = .ok (.invokevirtual 239, 3) := by decide +kernel
theorem dX6_step_26 : decode cX6_step 26 = .ok (.istore 4, 2) := by decide +kernel
theorem dX6_step_28 : decode cX6_step 28 = .ok (.iload 4, 2) := by decide +kernel
theorem dX6_step_30 : decode cX6_step 30 = .ok (.iconst (-1), 1) := by decide +kernel
theorem dX6_step_31 : decode cX6_step 31 = .ok (.if_icmp .ne 11, 3) := by decide +kernel
theorem dX6_step_34 : decode cX6_step 34 = .ok (.new 242, 3) := by decide +kernel
theorem dX6_step_37 : decode cX6_step 37 = .ok (.dup, 1) := by decide +kernel
theorem dX6_step_38 : decode cX6_step 38 = .ok (.invokespecial 244, 3) := by decide +kernel
theorem dX6_step_41 : decode cX6_step 41 = .ok (.athrow, 1) := by decide +kernel
theorem dX6_step_42 : decode cX6_step 42 = .ok (.iload 4, 2) := by decide +kernel
theorem dX6_step_44 : decode cX6_step 44 = .ok (.ireturn, 1) := by decide +kernel
theorem dX6_diameter_0 : decode cX6_diameter 0 = .ok (.aload_n 0, 1) := by decide +kernel
theorem dX6_diameter_1 : decode cX6_diameter 1 = .ok (.iload_n 1, 1) := by decide +kernel
theorem dX6_diameter_2 : decode cX6_diameter 2 = .ok (.invokevirtual 233, 3) := by decide +kernel
theorem dX6_diameter_5 : decode cX6_diameter 5 = .ok (.aload_n 0, 1) := by decide +kernel
theorem dX6_diameter_6 : decode cX6_diameter 6 = .ok (.getfield 33, 3) := by decide +kernel
theorem dX6_diameter_9 : decode cX6_diameter 9 = .ok (.invokevirtual 245, 3) := by decide +kernel
theorem dX6_diameter_12 : decode cX6_diameter 12 = .ok (.istore_n 2, 1) := by decide +kernel
theorem dX6_diameter_13 : decode cX6_diameter 13 = .ok (.iload_n 2, 1) := by decide +kernel
theorem dX6_diameter_14 : decode cX6_diameter 14 = .ok (.iconst (-1), 1) := by decide +kernel
theorem dX6_diameter_15 : decode cX6_diameter 15 = .ok (.if_icmp .ne 11, 3) := by decide +kernel
theorem dX6_diameter_18 : decode cX6_diameter 18 = .ok (.new 242, 3) := by decide +kernel
theorem dX6_diameter_21 : decode cX6_diameter 21 = .ok (.dup, 1) := by decide +kernel
theorem dX6_diameter_22 : decode cX6_diameter 22 = .ok (.invokespecial 244, 3) := by decide +kernel
theorem dX6_diameter_25 : decode cX6_diameter 25 = .ok (.athrow, 1) := by decide +kernel
theorem dX6_diameter_26 : decode cX6_diameter 26 = .ok (.iload_n 2, 1) := by decide +kernel
theorem dX6_diameter_27 : decode cX6_diameter 27 = .ok (.ireturn, 1) := by decide +kernel
theorem dX6_automorphisms_0 : decode cX6_automorphisms 0 = .ok (.aload_n 0, 1) := by decide +kernel
theorem dX6_automorphisms_1 : decode cX6_automorphisms 1 = .ok (.getfield 40, 3) := by decide +kernel
theorem dX6_automorphisms_4 : decode cX6_automorphisms 4 = .ok (.aload_n 0, 1) := by decide +kernel
theorem dX6_automorphisms_5 : decode cX6_automorphisms 5 = .ok (.getfield 47, 3) := by decide +kernel
theorem dX6_automorphisms_8 : decode cX6_automorphisms 8 = .ok (.invokevirtual 248, 3) := by decide +kernel
theorem dX6_automorphisms_11 : decode cX6_automorphisms 11 = .ok (.ireturn, 1) := by decide +kernel
theorem dX6_orbit_0 : decode cX6_orbit 0 = .ok (.aload_n 0, 1) := by decide +kernel
theorem dX6_orbit_1 : decode cX6_orbit 1 = .ok (.iload_n 1, 1) := by decide +kernel
theorem dX6_orbit_2 : decode cX6_orbit 2 = .ok (.invokevirtual 96, 3) := by decide +kernel
theorem dX6_orbit_5 : decode cX6_orbit 5 = .ok (.aload_n 0, 1) := by decide +kernel
theorem dX6_orbit_6 : decode cX6_orbit 6 = .ok (.getfield 40, 3) := by decide +kernel
theorem dX6_orbit_9 : decode cX6_orbit 9 = .ok (.aload_n 0, 1) := by decide +kernel
theorem dX6_orbit_10 : decode cX6_orbit 10 = .ok (.getfield 47, 3) := by decide +kernel
theorem dX6_orbit_13 : decode cX6_orbit 13 = .ok (.iload_n 1, 1) := by decide +kernel
theorem dX6_orbit_14 : decode cX6_orbit 14 = .ok (.invokevirtual 251, 3) := by decide +kernel
theorem dX6_orbit_17 : decode cX6_orbit 17 = .ok (.ireturn, 1) := by decide +kernel
theorem dX6_isLike_0 : decode cX6_isLike 0 = .ok (.aload_n 0, 1) := by decide +kernel
theorem dX6_isLike_1 : decode cX6_isLike 1 = .ok (.getfield 57, 3) := by decide +kernel
theorem dX6_isLike_4 : decode cX6_isLike 4 = .ok (.ifCond .ne 11, 3) := by decide +kernel
theorem dX6_isLike_7 : decode cX6_isLike 7 = .ok (.new 73, 3) := by decide +kernel
theorem dX6_isLike_10 : decode cX6_isLike 10 = .ok (.dup, 1) := by decide +kernel
theorem dX6_isLike_11 : decode cX6_isLike 11 = .ok (.invokespecial 75, 3) := by decide +kernel
theorem dX6_isLike_14 : decode cX6_isLike 14 = .ok (.athrow, 1) := by decide +kernel
theorem dX6_isLike_15 : decode cX6_isLike 15 = .ok (.aload_n 0, 1) := by decide +kernel
theorem dX6_isLike_16 : decode cX6_isLike 16 = .ok (.getfield 40, 3) := by decide +kernel
theorem dX6_isLike_19 : decode cX6_isLike 19 = .ok (.aload_n 0, 1) := by decide +kernel
theorem dX6_isLike_20 : decode cX6_isLike 20 = .ok (.getfield 47, 3) := by decide +kernel
theorem dX6_isLike_23 : decode cX6_isLike 23 = .ok (.aload_n 0, 1) := by decide +kernel
theorem dX6_isLike_24 : decode cX6_isLike 24 = .ok (.getfield 51, 3) := by decide +kernel
theorem dX6_isLike_27 : decode cX6_isLike 27 = .ok (.invokevirtual 255, 3) := by decide +kernel
theorem dX6_isLike_30 : decode cX6_isLike 30 = .ok (.ireturn, 1) := by decide +kernel
theorem dX6_image_0 : decode cX6_image 0 = .ok (.aload_n 0, 1) := by decide +kernel
theorem dX6_image_1 : decode cX6_image 1 = .ok (.iload_n 1, 1) := by decide +kernel
theorem dX6_image_2 : decode cX6_image 2 = .ok (.invokevirtual 96, 3) := by decide +kernel
theorem dX6_image_5 : decode cX6_image 5 = .ok (.aload_n 0, 1) := by decide +kernel
theorem dX6_image_6 : decode cX6_image 6 = .ok (.getfield 57, 3) := by decide +kernel
theorem dX6_image_9 : decode cX6_image 9 = .ok (.ifCond .ne 11, 3) := by decide +kernel
theorem dX6_image_12 : decode cX6_image 12 = .ok (.new 73, 3) := by decide +kernel
theorem dX6_image_15 : decode cX6_image 15 = .ok (.dup, 1) := by decide +kernel
theorem dX6_image_16 : decode cX6_image 16 = .ok (.invokespecial 75, 3) := by decide +kernel
theorem dX6_image_19 : decode cX6_image 19 = .ok (.athrow, 1) := by decide +kernel
theorem dX6_image_20 : decode cX6_image 20 = .ok (.aload_n 0, 1) := by decide +kernel
theorem dX6_image_21 : decode cX6_image 21 = .ok (.getfield 40, 3) := by decide +kernel
theorem dX6_image_24 : decode cX6_image 24 = .ok (.aload_n 0, 1) := by decide +kernel
theorem dX6_image_25 : decode cX6_image 25 = .ok (.getfield 47, 3) := by decide +kernel
theorem dX6_image_28 : decode cX6_image 28 = .ok (.aload_n 0, 1) := by decide +kernel
theorem dX6_image_29 : decode cX6_image 29 = .ok (.getfield 51, 3) := by decide +kernel
theorem dX6_image_32 : decode cX6_image 32 = .ok (.invokevirtual 255, 3) := by decide +kernel
theorem dX6_image_35 : decode cX6_image 35 = .ok (.ifCond .ne 11, 3) := by decide +kernel
theorem dX6_image_38 : decode cX6_image 38 = .ok (.new 242, 3) := by decide +kernel
theorem dX6_image_41 : decode cX6_image 41 = .ok (.dup, 1) := by decide +kernel
theorem dX6_image_42 : decode cX6_image 42 = .ok (.invokespecial 244, 3) := by decide +kernel
theorem dX6_image_45 : decode cX6_image 45 = .ok (.athrow, 1) := by decide +kernel
theorem dX6_image_46 : decode cX6_image 46 = .ok (.aload_n 0, 1) := by decide +kernel
theorem dX6_image_47 : decode cX6_image 47 = .ok (.getfield 40, 3) := by decide +kernel
theorem dX6_image_50 : decode cX6_image 50 = .ok (.getfield 259, 3) := by decide +kernel
theorem dX6_image_53 : decode cX6_image 53 = .ok (.iload_n 1, 1) := by decide +kernel
theorem dX6_image_54 : decode cX6_image 54 = .ok (.iaload, 1) := by decide +kernel
theorem dX6_image_55 : decode cX6_image 55 = .ok (.ireturn, 1) := by decide +kernel
theorem dX6_change_0 : decode cX6_change 0 = .ok (.aload_n 0, 1) := by decide +kernel
theorem dX6_change_1 : decode cX6_change 1 = .ok (.getfield 19, 3) := by decide +kernel
theorem dX6_change_4 : decode cX6_change 4 = .ok (.aload_n 0, 1) := by decide +kernel
theorem dX6_change_5 : decode cX6_change 5 = .ok (.getfield 47, 3) := by decide +kernel
theorem dX6_change_8 : decode cX6_change 8 = .ok (.invokevirtual 262, 3) := by decide +kernel
theorem dX6_change_11 : decode cX6_change 11 = .ok (.aload_n 0, 1) := by decide +kernel
theorem dX6_change_12 : decode cX6_change 12 = .ok (.aload_n 0, 1) := by decide +kernel
theorem dX6_change_13 : decode cX6_change 13 = .ok (.getfield 54, 3) := by decide +kernel
theorem dX6_change_16 : decode cX6_change 16 = .ok (.invokevirtual 90, 3) := by decide +kernel
theorem dX6_change_19 : decode cX6_change 19 = .ok (.return_, 1) := by decide +kernel
theorem dX6_replaceNow_0 : decode cX6_replaceNow 0 = .ok (.aload_n 0, 1) := by decide +kernel
theorem dX6_replaceNow_1 : decode cX6_replaceNow 1 = .ok (.getfield 47, 3) := by decide +kernel
theorem dX6_replaceNow_4 : decode cX6_replaceNow 4 = .ok (.aload_n 1, 1) := by decide +kernel
theorem dX6_replaceNow_5 : decode cX6_replaceNow 5 = .ok (.invokevirtual 106, 3) := by decide +kernel
theorem dX6_replaceNow_8 : decode cX6_replaceNow 8 = .ok (.aload_n 0, 1) := by decide +kernel
theorem dX6_replaceNow_9 : decode cX6_replaceNow 9 = .ok (.getfield 26, 3) := by decide +kernel
theorem dX6_replaceNow_12 : decode cX6_replaceNow 12 = .ok (.aload_n 0, 1) := by decide +kernel
theorem dX6_replaceNow_13 : decode cX6_replaceNow 13 = .ok (.getfield 47, 3) := by decide +kernel
theorem dX6_replaceNow_16 : decode cX6_replaceNow 16 = .ok (.invokevirtual 61, 3) := by decide +kernel
theorem dX6_replaceNow_19 : decode cX6_replaceNow 19 = .ok (.return_, 1) := by decide +kernel
theorem dX6_linkGraph_0 : decode cX6_linkGraph 0 = .ok (.iload_n 1, 1) := by decide +kernel
theorem dX6_linkGraph_1 : decode cX6_linkGraph 1 = .ok (.ifCond .eq 21, 3) := by decide +kernel
theorem dX6_linkGraph_4 : decode cX6_linkGraph 4 = .ok (.aload_n 0, 1) := by decide +kernel
theorem dX6_linkGraph_5 : decode cX6_linkGraph 5 = .ok (.getfield 33, 3) := by decide +kernel
theorem dX6_linkGraph_8 : decode cX6_linkGraph 8 = .ok (.aload_n 0, 1) := by decide +kernel
theorem dX6_linkGraph_9 : decode cX6_linkGraph 9 = .ok (.getfield 47, 3) := by decide +kernel
theorem dX6_linkGraph_12 : decode cX6_linkGraph 12 = .ok (.aload_n 0, 1) := by decide +kernel
theorem dX6_linkGraph_13 : decode cX6_linkGraph 13 = .ok (.getfield 26, 3) := by decide +kernel
theorem dX6_linkGraph_16 : decode cX6_linkGraph 16 = .ok (.invokevirtual 264, 3) := by decide +kernel
theorem dX6_linkGraph_19 : decode cX6_linkGraph 19 = .ok (.goto 18, 3) := by decide +kernel
theorem dX6_linkGraph_22 : decode cX6_linkGraph 22 = .ok (.aload_n 0, 1) := by decide +kernel
theorem dX6_linkGraph_23 : decode cX6_linkGraph 23 = .ok (.getfield 33, 3) := by decide +kernel
theorem dX6_linkGraph_26 : decode cX6_linkGraph 26 = .ok (.aload_n 0, 1) := by decide +kernel
theorem dX6_linkGraph_27 : decode cX6_linkGraph 27 = .ok (.getfield 47, 3) := by decide +kernel
theorem dX6_linkGraph_30 : decode cX6_linkGraph 30 = .ok (.aload_n 0, 1) := by decide +kernel
theorem dX6_linkGraph_31 : decode cX6_linkGraph 31 = .ok (.getfield 26, 3) := by decide +kernel
theorem dX6_linkGraph_34 : decode cX6_linkGraph 34 = .ok (.invokevirtual 152, 3) := by decide +kernel
theorem dX6_linkGraph_37 : decode cX6_linkGraph 37 = .ok (.return_, 1) := by decide +kernel
theorem dX6_checkPoint_0 : decode cX6_checkPoint 0 = .ok (.iload_n 1, 1) := by decide +kernel
theorem dX6_checkPoint_1 : decode cX6_checkPoint 1 = .ok (.ifCond .lt 14, 3) := by decide +kernel
theorem dX6_checkPoint_4 : decode cX6_checkPoint 4 = .ok (.iload_n 1, 1) := by decide +kernel
theorem dX6_checkPoint_5 : decode cX6_checkPoint 5 = .ok (.aload_n 0, 1) := by decide +kernel
theorem dX6_checkPoint_6 : decode cX6_checkPoint 6 = .ok (.getfield 47, 3) := by decide +kernel
theorem dX6_checkPoint_9 : decode cX6_checkPoint 9 = .ok (.getfield 131, 3) := by decide +kernel
theorem dX6_checkPoint_12 : decode cX6_checkPoint 12 = .ok (.if_icmp .lt 11, 3) := by decide +kernel
theorem dX6_checkPoint_15 : decode cX6_checkPoint 15 = .ok (.new 201, 3) := by decide +kernel
theorem dX6_checkPoint_18 : decode cX6_checkPoint 18 = .ok (.dup, 1) := by decide +kernel
theorem dX6_checkPoint_19 : decode cX6_checkPoint 19 = .ok (.invokespecial 203, 3) := by decide +kernel
theorem dX6_checkPoint_22 : decode cX6_checkPoint 22 = .ok (.athrow, 1) := by decide +kernel
theorem dX6_checkPoint_23 : decode cX6_checkPoint 23 = .ok (.return_, 1) := by decide +kernel
theorem dX6_checkFacet_0 : decode cX6_checkFacet 0 = .ok (.iload_n 1, 1) := by decide +kernel
theorem dX6_checkFacet_1 : decode cX6_checkFacet 1 = .ok (.ifCond .lt 14, 3) := by decide +kernel
theorem dX6_checkFacet_4 : decode cX6_checkFacet 4 = .ok (.iload_n 1, 1) := by decide +kernel
theorem dX6_checkFacet_5 : decode cX6_checkFacet 5 = .ok (.aload_n 0, 1) := by decide +kernel
theorem dX6_checkFacet_6 : decode cX6_checkFacet 6 = .ok (.getfield 47, 3) := by decide +kernel
theorem dX6_checkFacet_9 : decode cX6_checkFacet 9 = .ok (.getfield 93, 3) := by decide +kernel
theorem dX6_checkFacet_12 : decode cX6_checkFacet 12 = .ok (.if_icmp .lt 11, 3) := by decide +kernel
theorem dX6_checkFacet_15 : decode cX6_checkFacet 15 = .ok (.new 201, 3) := by decide +kernel
theorem dX6_checkFacet_18 : decode cX6_checkFacet 18 = .ok (.dup, 1) := by decide +kernel
theorem dX6_checkFacet_19 : decode cX6_checkFacet 19 = .ok (.invokespecial 203, 3) := by decide +kernel
theorem dX6_checkFacet_22 : decode cX6_checkFacet 22 = .ok (.athrow, 1) := by decide +kernel
theorem dX6_checkFacet_23 : decode cX6_checkFacet 23 = .ok (.return_, 1) := by decide +kernel
theorem dX6_checkNode_0 : decode cX6_checkNode 0 = .ok (.iload_n 2, 1) := by decide +kernel
theorem dX6_checkNode_1 : decode cX6_checkNode 1 = .ok (.ifCond .eq 11, 3) := by decide +kernel
theorem dX6_checkNode_4 : decode cX6_checkNode 4 = .ok (.aload_n 0, 1) := by decide +kernel
theorem dX6_checkNode_5 : decode cX6_checkNode 5 = .ok (.iload_n 1, 1) := by decide +kernel
theorem dX6_checkNode_6 : decode cX6_checkNode 6 = .ok (.invokevirtual 99, 3) := by decide +kernel
theorem dX6_checkNode_9 : decode cX6_checkNode 9 = .ok (.goto 8, 3) := by decide +kernel
theorem dX6_checkNode_12 : decode cX6_checkNode 12 = .ok (.aload_n 0, 1) := by decide +kernel
theorem dX6_checkNode_13 : decode cX6_checkNode 13 = .ok (.iload_n 1, 1) := by decide +kernel
theorem dX6_checkNode_14 : decode cX6_checkNode 14 = .ok (.invokevirtual 96, 3) := by decide +kernel
theorem dX6_checkNode_17 : decode cX6_checkNode 17 = .ok (.return_, 1) := by decide +kernel
theorem dX6_checkFace_0 : decode cX6_checkFace 0 = .ok (.iload_n 1, 1) := by decide +kernel
theorem dX6_checkFace_1 : decode cX6_checkFace 1 = .ok (.ifCond .lt 14, 3) := by decide +kernel
theorem dX6_checkFace_4 : decode cX6_checkFace 4 = .ok (.iload_n 1, 1) := by decide +kernel
theorem dX6_checkFace_5 : decode cX6_checkFace 5 = .ok (.aload_n 0, 1) := by decide +kernel
theorem dX6_checkFace_6 : decode cX6_checkFace 6 = .ok (.getfield 26, 3) := by decide +kernel
theorem dX6_checkFace_9 : decode cX6_checkFace 9 = .ok (.getfield 137, 3) := by decide +kernel
theorem dX6_checkFace_12 : decode cX6_checkFace 12 = .ok (.if_icmp .lt 11, 3) := by decide +kernel
theorem dX6_checkFace_15 : decode cX6_checkFace 15 = .ok (.new 201, 3) := by decide +kernel
theorem dX6_checkFace_18 : decode cX6_checkFace 18 = .ok (.dup, 1) := by decide +kernel
theorem dX6_checkFace_19 : decode cX6_checkFace 19 = .ok (.invokespecial 203, 3) := by decide +kernel
theorem dX6_checkFace_22 : decode cX6_checkFace 22 = .ok (.athrow, 1) := by decide +kernel
theorem dX6_checkFace_23 : decode cX6_checkFace 23 = .ok (.return_, 1) := by decide +kernel
theorem dX6_checkSet_0 : decode cX6_checkSet 0 = .ok (.aload_n 0, 1) := by decide +kernel
theorem dX6_checkSet_1 : decode cX6_checkSet 1 = .ok (.getfield 47, 3) := by decide +kernel
theorem dX6_checkSet_4 : decode cX6_checkSet 4 = .ok (.iload_n 1, 1) := by decide +kernel
theorem dX6_checkSet_5 : decode cX6_checkSet 5 = .ok (.invokevirtual 181, 3) := by decide +kernel
theorem dX6_checkSet_8 : decode cX6_checkSet 8 = .ok (.ifCond .ne 11, 3) := by decide +kernel
theorem dX6_checkSet_11 : decode cX6_checkSet 11 = .ok (.new 80, 3) := by decide +kernel
theorem dX6_checkSet_14 : decode cX6_checkSet 14 = .ok (.dup, 1) := by decide +kernel
theorem dX6_checkSet_15 : decode cX6_checkSet 15 = .ok (.invokespecial 82, 3) := by decide +kernel
theorem dX6_checkSet_18 : decode cX6_checkSet 18 = .ok (.athrow, 1) := by decide +kernel
theorem dX6_checkSet_19 : decode cX6_checkSet 19 = .ok (.return_, 1) := by decide +kernel
theorem dJ6_bitCount_0f7a4_0 : decode cJ6_bitCount_0f7a4 0 = .ok (.iload_n 0, 1) := by decide +kernel
theorem dJ6_bitCount_0f7a4_1 : decode cJ6_bitCount_0f7a4 1 = .ok (.iload_n 0, 1) := by decide +kernel
theorem dJ6_bitCount_0f7a4_2 : decode cJ6_bitCount_0f7a4 2 = .ok (.iconst 1, 1) := by decide +kernel
theorem dJ6_bitCount_0f7a4_3 : decode cJ6_bitCount_0f7a4 3 = .ok (.iushr, 1) := by decide +kernel
theorem dJ6_bitCount_0f7a4_4 : decode cJ6_bitCount_0f7a4 4 = .ok (.ldc_w 265, 3) := by decide +kernel
theorem dJ6_bitCount_0f7a4_7 : decode cJ6_bitCount_0f7a4 7 = .ok (.iand, 1) := by decide +kernel
theorem dJ6_bitCount_0f7a4_8 : decode cJ6_bitCount_0f7a4 8 = .ok (.isub, 1) := by decide +kernel
theorem dJ6_bitCount_0f7a4_9 : decode cJ6_bitCount_0f7a4 9 = .ok (.istore_n 0, 1) := by decide +kernel
theorem dJ6_bitCount_0f7a4_10 : decode cJ6_bitCount_0f7a4 10 = .ok (.iload_n 0, 1) := by decide +kernel
theorem dJ6_bitCount_0f7a4_11 : decode cJ6_bitCount_0f7a4 11 = .ok (.ldc_w 266, 3) := by decide +kernel
theorem dJ6_bitCount_0f7a4_14 : decode cJ6_bitCount_0f7a4 14 = .ok (.iand, 1) := by decide +kernel
theorem dJ6_bitCount_0f7a4_15 : decode cJ6_bitCount_0f7a4 15 = .ok (.iload_n 0, 1) := by decide +kernel
theorem dJ6_bitCount_0f7a4_16 : decode cJ6_bitCount_0f7a4 16 = .ok (.iconst 2, 1) := by decide +kernel
theorem dJ6_bitCount_0f7a4_17 : decode cJ6_bitCount_0f7a4 17 = .ok (.iushr, 1) := by decide +kernel
theorem dJ6_bitCount_0f7a4_18 : decode cJ6_bitCount_0f7a4 18 = .ok (.ldc_w 266, 3) := by decide +kernel
theorem dJ6_bitCount_0f7a4_21 : decode cJ6_bitCount_0f7a4 21 = .ok (.iand, 1) := by decide +kernel
theorem dJ6_bitCount_0f7a4_22 : decode cJ6_bitCount_0f7a4 22 = .ok (.iadd, 1) := by decide +kernel
theorem dJ6_bitCount_0f7a4_23 : decode cJ6_bitCount_0f7a4 23 = .ok (.istore_n 0, 1) := by decide +kernel
theorem dJ6_bitCount_0f7a4_24 : decode cJ6_bitCount_0f7a4 24 = .ok (.iload_n 0, 1) := by decide +kernel
theorem dJ6_bitCount_0f7a4_25 : decode cJ6_bitCount_0f7a4 25 = .ok (.iload_n 0, 1) := by decide +kernel
theorem dJ6_bitCount_0f7a4_26 : decode cJ6_bitCount_0f7a4 26 = .ok (.iconst 4, 1) := by decide +kernel
theorem dJ6_bitCount_0f7a4_27 : decode cJ6_bitCount_0f7a4 27 = .ok (.iushr, 1) := by decide +kernel
theorem dJ6_bitCount_0f7a4_28 : decode cJ6_bitCount_0f7a4 28 = .ok (.iadd, 1) := by decide +kernel
theorem dJ6_bitCount_0f7a4_29 : decode cJ6_bitCount_0f7a4 29 = .ok (.ldc_w 267, 3) := by decide +kernel
theorem dJ6_bitCount_0f7a4_32 : decode cJ6_bitCount_0f7a4 32 = .ok (.iand, 1) := by decide +kernel
theorem dJ6_bitCount_0f7a4_33 : decode cJ6_bitCount_0f7a4 33 = .ok (.istore_n 0, 1) := by decide +kernel
theorem dJ6_bitCount_0f7a4_34 : decode cJ6_bitCount_0f7a4 34 = .ok (.iload_n 0, 1) := by decide +kernel
theorem dJ6_bitCount_0f7a4_35 : decode cJ6_bitCount_0f7a4 35 = .ok (.iload_n 0, 1) := by decide +kernel
theorem dJ6_bitCount_0f7a4_36 : decode cJ6_bitCount_0f7a4 36 = .ok (.bipush 8, 2) := by decide +kernel
theorem dJ6_bitCount_0f7a4_38 : decode cJ6_bitCount_0f7a4 38 = .ok (.iushr, 1) := by decide +kernel
theorem dJ6_bitCount_0f7a4_39 : decode cJ6_bitCount_0f7a4 39 = .ok (.iadd, 1) := by decide +kernel
theorem dJ6_bitCount_0f7a4_40 : decode cJ6_bitCount_0f7a4 40 = .ok (.istore_n 0, 1) := by decide +kernel
theorem dJ6_bitCount_0f7a4_41 : decode cJ6_bitCount_0f7a4 41 = .ok (.iload_n 0, 1) := by decide +kernel
theorem dJ6_bitCount_0f7a4_42 : decode cJ6_bitCount_0f7a4 42 = .ok (.iload_n 0, 1) := by decide +kernel
theorem dJ6_bitCount_0f7a4_43 : decode cJ6_bitCount_0f7a4 43 = .ok (.bipush 16, 2) := by decide +kernel
theorem dJ6_bitCount_0f7a4_45 : decode cJ6_bitCount_0f7a4 45 = .ok (.iushr, 1) := by decide +kernel
theorem dJ6_bitCount_0f7a4_46 : decode cJ6_bitCount_0f7a4 46 = .ok (.iadd, 1) := by decide +kernel
theorem dJ6_bitCount_0f7a4_47 : decode cJ6_bitCount_0f7a4 47 = .ok (.istore_n 0, 1) := by decide +kernel
theorem dJ6_bitCount_0f7a4_48 : decode cJ6_bitCount_0f7a4 48 = .ok (.iload_n 0, 1) := by decide +kernel
theorem dJ6_bitCount_0f7a4_49 : decode cJ6_bitCount_0f7a4 49 = .ok (.bipush 63, 2) := by decide +kernel
theorem dJ6_bitCount_0f7a4_51 : decode cJ6_bitCount_0f7a4 51 = .ok (.iand, 1) := by decide +kernel
theorem dJ6_bitCount_0f7a4_52 : decode cJ6_bitCount_0f7a4 52 = .ok (.ireturn, 1) := by decide +kernel
theorem dJ7_fill_53178_0 : decode cJ7_fill_53178 0 = .ok (.iconst 0, 1) := by decide +kernel
theorem dJ7_fill_53178_1 : decode cJ7_fill_53178 1 = .ok (.istore_n 2, 1) := by decide +kernel
theorem dJ7_fill_53178_2 : decode cJ7_fill_53178 2 = .ok (.aload_n 0, 1) := by decide +kernel
theorem dJ7_fill_53178_3 : decode cJ7_fill_53178 3 = .ok (.arraylength, 1) := by decide +kernel
theorem dJ7_fill_53178_4 : decode cJ7_fill_53178 4 = .ok (.istore_n 3, 1) := by decide +kernel
theorem dJ7_fill_53178_5 : decode cJ7_fill_53178 5 = .ok (.iload_n 2, 1) := by decide +kernel
theorem dJ7_fill_53178_6 : decode cJ7_fill_53178 6 = .ok (.iload_n 3, 1) := by decide +kernel
theorem dJ7_fill_53178_7 : decode cJ7_fill_53178 7 = .ok (.if_icmp .ge 13, 3) := by decide +kernel
theorem dJ7_fill_53178_10 : decode cJ7_fill_53178 10 = .ok (.aload_n 0, 1) := by decide +kernel
theorem dJ7_fill_53178_11 : decode cJ7_fill_53178 11 = .ok (.iload_n 2, 1) := by decide +kernel
theorem dJ7_fill_53178_12 : decode cJ7_fill_53178 12 = .ok (.iload_n 1, 1) := by decide +kernel
theorem dJ7_fill_53178_13 : decode cJ7_fill_53178 13 = .ok (.iastore, 1) := by decide +kernel
theorem dJ7_fill_53178_14 : decode cJ7_fill_53178 14 = .ok (.iinc 2 1, 3) := by decide +kernel
theorem dJ7_fill_53178_17 : decode cJ7_fill_53178 17 = .ok (.goto (-12), 3) := by decide +kernel
theorem dJ7_fill_53178_20 : decode cJ7_fill_53178 20 = .ok (.return_, 1) := by decide +kernel
